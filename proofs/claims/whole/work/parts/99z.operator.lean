/-! Signs between operands, a bracket that closes. -/
def scd (c : Nat) : Nat := if c = 28 then 3 else if c = 27 then 4 else if 39 ≤ c ∧ c ≤ 48 then c - 34 else 0
theorem scd_x : ∀ c, c < 49 → (if scd c = 0 then f_sg (Int32.ofNat c) = 0 else (f_sg (Int32.ofNat c) = 1 ∧ pcd (scd c) = c ∧ 3 ≤ scd c ∧ scd c < 15 ∧ c ≠ 38 ∧ c ≠ 34)) := by decide +kernel
theorem drR_top {r : Nat} : ∀ ws : List Nat, (∀ x ∈ ws, x ≠ 0 → r ≤ rkn x) → 1 ≤ r → 0 < opn ws → ∃ t, drR r ws = 0 :: t
  | [], _, _, h => absurd h (Nat.lt_irrefl _)
  | x :: t, hm, hr, h => by
    show ∃ t', (if rkn x < r then x :: t else drR r t) = 0 :: t'
    by_cases e : x = 0
    · subst e
      exact ⟨t, if_pos (show 0 < r by omega)⟩
    · have := hm x (List.mem_cons_self ..) e
      rw [if_neg (by omega)]
      rw [opn_n e] at h
      exact drR_top t (fun y hy => hm y (List.mem_cons_of_mem _ hy)) hr h
theorem pR_m {c2 b : Nat → Int32} : ∀ ws : List Nat, pR c2 b ws → ∀ x ∈ ws, x < 15 ∧ x ≠ 1
  | [], _, x, hx => by cases hx
  | y :: t, h, x, hx => by
    rcases List.mem_cons.mp hx with e | e
    · rw [e]
      exact ⟨h.1.2.2.1, h.1.2.2.2⟩
    · exact pR_m t h.2 x e
theorem rkn_1 : ∀ x, x < 15 → x ≠ 1 → x ≠ 0 → 1 ≤ rkn x := by decide
section OR
variable {X : gs_E} {d d' T S TR L : Nat} {by_ : Nat → Nat} {m0 r0 mx mr : gs_M} {A B A0 B0 : Nat → Nat → Int32} {c1 c2 E c10 E0 : Nat → Int32} {c v p q kn n8 f mn : Nat} {ws hs : List Nat} {Q : gs_M → gs_M → Prop}
theorem r_signs (sr : gs_Sh mr T) (t : gs_TK mx mr L c v p q) (h : c ≠ 38 ∨ ¬ (0 : Int32) < mr.2.1 116 42) : gs_exec X (d' + 3) 220 [.inr (.inr 116)] mr = gs_iter X (gs_exec X (d' + 2)) gT_X12_signs X.1 147 [(0, .inr (.inr 116))] [.inl (Int32.ofNat (scd c))] mr := by
  have hc := t.1
  have q8 : mr.2.1 116 8 = Int32.ofNat (rk c) := t.2.2.2.2.2.2.1
  have s38 := r_isSign (X := X) (d := d' + 1) (k := 38) (a := (41 : Int32)) sr t (by omega) rfl
  have k28 := r_isKey (X := X) (d := d' + 1) (k := 28) (a := (23 : Int32)) sr t (by decide) rfl
  have k27 := r_isKey (X := X) (d := d' + 1) (k := 27) (a := (24 : Int32)) sr t (by decide) rfl
  have s45 := r_isSign (X := X) (d := d' + 1) (k := 45) (a := (43 : Int32)) sr t (by omega) rfl
  have s46 := r_isSign (X := X) (d := d' + 1) (k := 46) (a := (45 : Int32)) sr t (by omega) rfl
  have s47 := r_isSign (X := X) (d := d' + 1) (k := 47) (a := (42 : Int32)) sr t (by omega) rfl
  have s48 := r_isSign (X := X) (d := d' + 1) (k := 48) (a := (47 : Int32)) sr t (by omega) rfl
  have rl := rk_lt c hc
  have e5 : Int32.ofNat (rk c) = (5 : Int32) ↔ rk c = 5 := n_eq (b := 5) (by omega) (by decide)
  have r5 : ∀ c, c < 49 → (rk c = 5 ↔ 39 ≤ c ∧ c ≤ 44) := by decide
  rw [eq_X12_signs]
  simp only [fl_116 sr, s38, k28, k27, s45, s46, s47, s48, gs_bI_s, b2_if, q8]
  have mid : (if c = 28 then gs_iter X (gs_exec X (d' + 2)) gT_X12_signs X.1 147 [(0, .inr (.inr 116))] [.inl (3 : Int32)] mr else if c = 27 then gs_iter X (gs_exec X (d' + 2)) gT_X12_signs X.1 147 [(0, .inr (.inr 116))] [.inl (4 : Int32)] mr else if Int32.ofNat (rk c) = (5 : Int32) then gs_iter X (gs_exec X (d' + 2)) gT_X12_signs X.1 147 [(0, .inr (.inr 116))] [.inl ((5 : Int32) + (mr.2.1 116 9))] mr else if c = 45 then gs_iter X (gs_exec X (d' + 2)) gT_X12_signs X.1 147 [(0, .inr (.inr 116))] [.inl (11 : Int32)] mr else if c = 46 then gs_iter X (gs_exec X (d' + 2)) gT_X12_signs X.1 147 [(0, .inr (.inr 116))] [.inl (12 : Int32)] mr else if c = 47 then gs_iter X (gs_exec X (d' + 2)) gT_X12_signs X.1 147 [(0, .inr (.inr 116))] [.inl (13 : Int32)] mr else if c = 48 then gs_iter X (gs_exec X (d' + 2)) gT_X12_signs X.1 147 [(0, .inr (.inr 116))] [.inl (14 : Int32)] mr else gs_iter X (gs_exec X (d' + 2)) gT_X12_signs X.1 147 [(0, .inr (.inr 116))] [.inl (0 : Int32)] mr) = gs_iter X (gs_exec X (d' + 2)) gT_X12_signs X.1 147 [(0, .inr (.inr 116))] [.inl (Int32.ofNat (scd c))] mr := by
    by_cases z1 : c = 28
    · subst z1; rfl
    by_cases z2 : c = 27
    · subst z2; rfl
    rw [if_neg z1, if_neg z2]
    by_cases z3 : 39 ≤ c ∧ c ≤ 44
    · have q9 : mr.2.1 116 9 = Int32.ofNat (c - 39) := (t.2.2.2.2.2.2.2.1 (by omega) (by omega)).trans (by
        unfold rvl
        rw [if_neg (by omega), if_neg (by omega), if_neg (by omega), if_neg (by omega), if_neg (by omega), if_neg (by omega), if_pos (by omega)])
      have es : (5 : Int32) + Int32.ofNat (c - 39) = Int32.ofNat (c - 34) := by
        show Int32.ofNat 5 + _ = _
        rw [n_add, show 5 + (c - 39) = c - 34 by omega]
      have ec : scd c = c - 34 := by
        unfold scd
        rw [if_neg z1, if_neg z2, if_pos (by omega)]
      rw [if_pos (e5.mpr ((r5 c hc).mpr z3)), q9, es, ec]
    rw [if_neg (fun w => z3 ((r5 c hc).mp (e5.mp w)))]
    by_cases z4 : c = 45
    · subst z4; rfl
    by_cases z5 : c = 46
    · subst z5; rfl
    by_cases z6 : c = 47
    · subst z6; rfl
    by_cases z7 : c = 48
    · subst z7; rfl
    rw [if_neg z4, if_neg z5, if_neg z6, if_neg z7]
    have ec : scd c = 0 := by
      unfold scd
      rw [if_neg z1, if_neg z2, if_neg (by omega)]
    rw [ec]
    rfl
  by_cases z : c = 38
  · rw [if_pos z, if_neg (h.elim (fun y => absurd z y) (fun y => y))]
    exact mid
  · rw [if_neg z]
    exact mid
/-- no sign: the class ends the rule, the reference has a fault -/
theorem x_noSign (sx : gs_Sx mx T S) (t : gs_TK mx mr L c v p q) (h : c ≠ 38 ∨ ¬ (0 : Int32) < mx.2.1 1 3) (hs0 : scd c = 0) : gs_exec X (d + 4) 65 [.inr (.inr 1)] mx = gs_rI 0 mx := by
  have hc := t.1
  have q5 : mx.2.1 3 5 = Int32.ofNat c := t.2.1
  have c38 : Int32.ofNat c = (38 : Int32) ↔ c = 38 := n_eq (b := 38) (by omega) (by decide)
  have sx0 := scd_x c hc
  rw [if_pos hs0] at sx0
  rw [eq_X5_readOperator]
  simp only [yf1 sx, y_18 sx, gs_nn_s, yf3 sx, q5]
  by_cases z : c = 38
  · rw [if_pos (c38.mpr z), if_neg (h.elim (fun y => absurd z y) (fun y => y)), x_isSign, gs_bI_s, sx0, if_pos rfl, gs_bt0]
  · rw [if_neg (fun w => z (c38.mp w)), x_isSign, gs_bI_s, sx0, if_pos rfl, gs_bt0]
theorem r_noSign (cx : gs_Cn X T S TR L by_ m0 r0) (sr : gs_Sh mr TR) (t : gs_TK mx mr L c v p q) (h : c ≠ 38 ∨ ¬ (0 : Int32) < mr.2.1 116 42) (hs0 : scd c = 0) : gs_exec X (d' + 3) 220 [.inr (.inr 116)] mr = gs_bI (gs_exec X (d' + 2) 178 [.inr (.inr 116), .inl (1 : Int32)] mr) gs_th (fun x2 m1 => gs_bt x2 (gs_rI x2 m1)) := by
  have hX := cx.1
  obtain ⟨F, hF⟩ : ∃ F, X.1 = F + 1 := ⟨X.1 - 1, by unfold gs_Fu at hX; omega⟩
  rw [r_signs sr t h, hs0, hF, eq_X12_signs_147, if_pos (by decide), fl_116 sr]
theorem j_close {Kx Kr : Int32 → gs_M → gs_O} (cx : gs_Cn X T S TR L by_ m0 r0) (st : gs_Sg S L m0 r0 A B c1 c2 E mx mr c v p q) (ex : gs_Ex A B c1 c2 E ws hs kn n8 f 0 mn) (ef : gs_Ef A B c1 E A0 B0 c10 E0 f) (hc : c = 38) (ho : 0 < opn ws)
    (hk : ∀ (A' B' : Nat → Nat → Int32) (c1' c2' E' : Nat → Int32) (ws' hs' : List Nat) (kn' n8' wt' mn' : Nat) (mx' mr' : gs_M) (c' v' p' q' : Nat), p < p' → gs_Sg S L m0 r0 A' B' c1' c2' E' mx' mr' c' v' p' q' → gs_Ex A' B' c1' c2' E' ws' hs' kn' n8' f wt' mn' → gs_Ef A' B' c1' E' A0 B0 c10 E0 f → gs_jQ S m0 r0 Q (Kx 1 mx') (Kr 1 mr')) :
    gs_jQ S m0 r0 Q (gs_bI (gs_exec X (d + 4) 65 [.inr (.inr 1)] mx) gs_th Kx) (gs_bI (gs_exec X (d' + 3) 220 [.inr (.inr 116)] mr) gs_th Kr) := by
  have sx := st_sx cx st
  have sr := st_sr cx st
  have pq := st_pq st (by omega)
  have t := st.2.2.2.2.2.2.2
  have q5 : mx.2.1 3 5 = Int32.ofNat c := t.2.1
  have s38 := r_isSign (X := X) (d := d' + 1) (k := 38) (a := (41 : Int32)) sr t (by omega) rfl
  have o8 := ex.2.1.2.2
  have i3 : mx.2.1 1 3 = Int32.ofNat (opn ws) := (st.2.2.2.2.1 3).trans ex.2.1.1
  have r42 : mr.2.1 116 42 = Int32.ofNat (opn ws) := (st.2.2.2.2.2.2.1 42 (by decide)).trans ex.2.1.2.1
  have lz : (0 : Int32) < Int32.ofNat (opn ws) := (gs_nlt (a := 0) (by decide) (by omega)).mpr ho
  have pm := pR_m ws ex.2.2.2.2.2.1
  obtain ⟨tl, et⟩ := drR_top (r := 1) ws (fun x hx h0 => rkn_1 x (pm x hx).1 (pm x hx).2 h0) (by decide) ho
  obtain ⟨mx1, mr1, A1, B1, c11, E1, hs1, n81, e1, e2, s1, ex1, ef1⟩ := j_bindx (X := X) (d := d + 1) (d' := d') (r := 1) (a := (1 : Int32)) cx (by decide) (by decide) rfl st ex ef
  have sx1 := st_sx cx s1
  have sr1 := st_sr cx s1
  rw [et] at ex1
  obtain ⟨⟨w1, w2⟩, ⟨o1, o2, o3⟩, ⟨k1, k2, k3⟩, ⟨t1, t2, t3⟩, ⟨m1, m2, m3⟩, pt, ⟨h1', h2', h3'⟩, hkk, ⟨a1, a2⟩, rk', hf, hw⟩ := ex1
  have e0 := opn_z (x := 0) (t := tl) rfl
  have b0 := bns_n (x := 0) (t := tl) (by decide)
  have el : (0 :: tl).length = tl.length + 1 := rfl
  have tl72 : tl.length < 100 := by omega
  rw [el] at w1 w2 hkk
  rw [e0] at o1 o2 o3 hkk
  have j2 : mx1.2.1 1 2 = Int32.ofNat (tl.length + 1) := (s1.2.2.2.2.1 2).trans w1
  have j3 : mx1.2.1 1 3 = Int32.ofNat (opn tl + 1) := (s1.2.2.2.2.1 3).trans o1
  have g40 : mr1.2.1 116 40 = Int32.ofNat (tl.length + 1) := (s1.2.2.2.2.2.2.1 40 (by decide)).trans w2
  have es : Int32.ofNat (tl.length + 1) - (1 : Int32) = Int32.ofNat tl.length := n_sb (a := 1) (by omega)
  have eo : Int32.ofNat (opn tl + 1) - (1 : Int32) = Int32.ofNat (opn tl) := n_sb (a := 1) (by omega)
  have em : (if (0 : Int32) < Int32.ofNat tl.length then Int32.ofNat tl.length else 0) = Int32.ofNat tl.length := by
    by_cases z : 0 < tl.length
    · have lzz : (0 : Int32) < Int32.ofNat tl.length := (gs_nlt (a := 0) (by decide) (by omega)).mpr z
      rw [if_pos lzz]
    · have z0 : tl.length = 0 := by omega
      rw [z0]
      decide
  have s2 := st_we (i := 42) (x := Int32.ofNat (opn tl)) (st_we (i := 40) (x := Int32.ofNat tl.length) (st_w1 (i := 3) (x := Int32.ofNat (opn tl)) cx (st_w1 (i := 2) (x := Int32.ofNat tl.length) cx s1)) (by unfold rsVb upr; omega) (by omega)) (by unfold rsVb upr; omega) (by omega)
  have j3' : (gs_sI mx1 1 2 (Int32.ofNat tl.length)).2.1 1 3 = Int32.ofNat (opn tl + 1) := by rw [gs_sIn (Or.inr (by decide))]; exact j3
  have g42 : (gs_sI mr1 116 40 (Int32.ofNat tl.length)).2.1 116 42 = Int32.ofNat (opn tl + 1) := by
    rw [gs_sIn (Or.inr (by decide))]
    exact (s1.2.2.2.2.2.2.1 42 (by decide)).trans o2
  rw [eq_X5_readOperator, eq_X12_signs]
  simp only [yf1 sx, y_18 sx, gs_nn_s, yf3 sx, q5, fl_116 sr, s38, gs_bI_s, b2_if, if_pos hc, i3, r42]
  have c38 : Int32.ofNat c = (38 : Int32) := (n_eq (b := 38) (by omega) (by decide)).mpr hc
  rw [if_pos c38, if_pos lz, if_pos lz, e1, e2]
  simp only [gs_bU_s, yf1 sx1, fl_116 sr1, j2, g40, es, x_max, gs_bI_s, em, gs_fld_sI, j3', g42, eo, gs_sI22, y_18 sx1, gs_nn_s, yf3 sx1, bI_bU, gs_bt1]
  refine jadv cx s2 (fun mx' mr' c' v' p' q' le s => ?_)
  exact hk _ _ _ _ _ tl hs1 kn n81 0 mn mx' mr' c' v' p' q' (by omega) s ⟨⟨rfl, rfl⟩, ⟨rfl, rfl, by omega⟩, ⟨k1, k2, k3⟩, ⟨t1, t2, t3⟩, ⟨m1, m2, m3⟩, pt.2, ⟨h1', h2', by omega⟩, by omega, ⟨a1, a2⟩, rk', hf, hw⟩ ⟨ef1.1, ef1.2.1, ef1.2.2.1, ef1.2.2.2.1, ef1.2.2.2.2.1, ef1.2.2.2.2.2⟩
/-- a sign's end on both sides -/
theorem j_sgn2 {x : Nat} {Kx Kr : Int32 → gs_M → gs_O} (cx : gs_Cn X T S TR L by_ m0 r0) (st : gs_Sg S L m0 r0 A B c1 c2 E mx mr c v p q) (ex : gs_Ex A B c1 c2 E ws hs kn n8 f 0 mn) (ef : gs_Ef A B c1 E A0 B0 c10 E0 f) (hc : c ≠ 34) (hx3 : 3 ≤ x) (hx : x < 15) (hp : pcd x = c) (F F' : Nat) (h0 : ∀ m, Kr 0 m = gs_rI 0 m)
    (hk : ∀ (A' B' : Nat → Nat → Int32) (c1' c2' E' : Nat → Int32) (ws' hs' : List Nat) (kn' n8' wt' mn' : Nat) (mx' mr' : gs_M) (c' v' p' q' : Nat), p < p' → gs_Sg S L m0 r0 A' B' c1' c2' E' mx' mr' c' v' p' q' → gs_Ex A' B' c1' c2' E' ws' hs' kn' n8' f wt' mn' → gs_Ef A' B' c1' E' A0 B0 c10 E0 f → gs_jQ S m0 r0 Q (Kx 1 mx') (Kr 1 mr')) :
    gs_jQ S m0 r0 Q (gs_bI (gs_iter X (gs_exec X (d + 3)) gT_X5_readOperator (F + 1) 133 [(0, .inr (.inr 1)), (1, .inl (Int32.ofNat c)), (2, .inl (Int32.ofNat (rkn x)))] [] mx) gs_th Kx) (gs_bI (gs_iter X (gs_exec X (d' + 2)) gT_X12_signs (F' + 1) 217 [(0, .inr (.inr 116)), (1, .inl (Int32.ofNat x))] [] mr) gs_th Kr) := by
  have sx := st_sx cx st
  have sr := st_sr cx st
  have pq := st_pq st hc
  obtain ⟨⟨w1, w2⟩, ⟨o1, o2, o3⟩, ⟨k1, k2, k3⟩, ⟨t1, t2, t3⟩, ⟨m1, m2, m3⟩, pt, ⟨h1', h2', h3'⟩, hkk, ⟨a1, a2⟩, rk', hf, hw⟩ := ex
  have ol := opn_le ws
  have rb := rkn_b x hx
  rw [eq_X5_readOperator_133, eq_X12_signs_217, yf1 sx, fl_116 sr, bI_bU, bI_bI]
  refine j_count cx st k1 k2 k3 (fun m => ?_) (fun mx1 mr1 hk64 s1 => ?_)
  · show gs_bI (if (0 : Int32) = 0 then gs_bt 0 (gs_rI 0 m) else _) gs_th Kr = _
    rw [if_pos rfl, gs_bt0, gs_bI_s]
    exact h0 m
  have sx1 := st_sx cx s1
  have sr1 := st_sr cx s1
  obtain ⟨mx2, e2, s2⟩ := st_push (X := X) (d := d + 2) (a := Int32.ofNat c) (n := ws.length) cx s1 w1 (by omega)
  obtain ⟨mr3, e3, s3⟩ := st_wait (X := X) (d := d' + 1) (a := Int32.ofNat x) (n := ws.length) cx s2 w2 (by omega)
  have sx3 := st_sx cx s3
  have sr3 := st_sr cx s3
  have e0 := opn_n (x := x) (t := ws) (by omega)
  have b0 := bns_p (x := x) (t := ws) hx3
  have lr : Int32.ofNat (rkn x) < (3 : Int32) ↔ rkn x < 3 := gs_nlt (b := 3) (by omega) (by decide)
  have fin : ∀ u : Nat, u < 2 → gs_jQ S m0 r0 Q (gs_bU (gs_exec X (d + 3) 108 [.inr (.inr 3)] (gs_sI (gs_sI mx2 1 5 1) 1 6 (Int32.ofNat u))) gs_th (fun m => gs_bI (gs_rI 1 m) gs_th Kx)) (gs_bU (gs_exec X (d' + 2) 182 [.inr (.inr 116)] (gs_sI (gs_sI mr3 116 44 1) 116 45 (Int32.ofNat u))) gs_th (fun m => gs_bI (gs_rI 1 m) gs_th Kr)) := by
    intro u hu
    have s4 := st_we (i := 45) (x := Int32.ofNat u) (st_we (i := 44) (x := (1 : Int32)) (st_w1 (i := 6) (x := Int32.ofNat u) cx (st_w1 (i := 5) (x := (1 : Int32)) cx s3)) (by unfold rsVb upr; omega) (by omega)) (by unfold rsVb upr; omega) (by omega)
    refine jadv cx s4 (fun mx' mr' c' v' p' q' le s => ?_)
    refine hk _ _ _ _ _ (x :: ws) hs (kn + 1) n8 1 u mx' mr' c' v' p' q' (by omega) s ⟨⟨rfl, rfl⟩, ⟨by rw [e0]; exact o1, by rw [e0]; exact o2, by omega⟩, ⟨rfl, rfl, by omega⟩, ⟨rfl, rfl, by decide⟩, ⟨rfl, rfl, hu⟩, ⟨⟨by rw [hp]; exact upf_e _ _ _, up2_e _ _ _ _, hx, by omega⟩, ?_⟩, ⟨h1', h2', by omega⟩, ?_, ⟨a1, a2⟩, rk', hf, hw⟩ ?_
    · exact pR_c ws (fun i hi => upf_n (by omega)) (fun i hi => up2_n (Or.inr (by omega))) pt
    · rw [e0]
      show kn + 1 + opn ws = n8 + (ws.length + 1)
      omega
    · exact ⟨ef.1, fun b g1 g2 g3 g4 g5 g6 => (up2_row g5).trans (ef.2.1 b g1 g2 g3 g4 g5 g6), ef.2.2.1, ef.2.2.2.1, ef.2.2.2.2.1, ef.2.2.2.2.2⟩
  simp only [if_neg i10, yf1 sx1, fl_116 sr1, e2, e3, gs_bU_s, yf1 sx3, fl_116 sr3, gs_bt1, r_rank (X := X) hx, gs_bI_s]
  by_cases z : rkn x < 3
  · simp only [if_pos (lr.mpr z), gs_fld_sI, yf1 sx3, fl_116 sr3, gs_bt1, gs_sI22, y_18 sx3, gs_nn_s, yf3 sx3, bI_bU]
    exact fin 1 (by decide)
  · simp only [if_neg (fun w => z (lr.mp w)), gs_fld_sI, yf1 sx3, fl_116 sr3, gs_bt0, gs_bt1, gs_sI22, y_18 sx3, gs_nn_s, yf3 sx3, bI_bU]
    exact fin 0 (by decide)
theorem j_sign {Kx Kr : Int32 → gs_M → gs_O} (cx : gs_Cn X T S TR L by_ m0 r0) (st : gs_Sg S L m0 r0 A B c1 c2 E mx mr c v p q) (ex : gs_Ex A B c1 c2 E ws hs kn n8 f 0 mn) (ef : gs_Ef A B c1 E A0 B0 c10 E0 f) (hsg : scd c ≠ 0) (h0 : ∀ m, Kr 0 m = gs_rI 0 m)
    (hk : ∀ (A' B' : Nat → Nat → Int32) (c1' c2' E' : Nat → Int32) (ws' hs' : List Nat) (kn' n8' wt' mn' : Nat) (mx' mr' : gs_M) (c' v' p' q' : Nat), p < p' → gs_Sg S L m0 r0 A' B' c1' c2' E' mx' mr' c' v' p' q' → gs_Ex A' B' c1' c2' E' ws' hs' kn' n8' f wt' mn' → gs_Ef A' B' c1' E' A0 B0 c10 E0 f → gs_jQ S m0 r0 Q (Kx 1 mx') (Kr 1 mr')) :
    gs_jQ S m0 r0 Q (gs_bI (gs_exec X (d + 4) 65 [.inr (.inr 1)] mx) gs_th Kx) (gs_bI (gs_exec X (d' + 3) 220 [.inr (.inr 116)] mr) gs_th Kr) := by
  have sx := st_sx cx st
  have sr := st_sr cx st
  have t := st.2.2.2.2.2.2.2
  have hc := t.1
  have q5 : mx.2.1 3 5 = Int32.ofNat c := t.2.1
  have sxx := scd_x c hc
  rw [if_neg hsg] at sxx
  obtain ⟨g1, g2, g3, g4, g5, g6⟩ := sxx
  have hX := cx.1
  obtain ⟨F, hF⟩ : ∃ F, X.1 = F + 1 + 1 := ⟨X.1 - 2, by unfold gs_Fu at hX; omega⟩
  have c38 : ¬ Int32.ofNat c = (38 : Int32) := fun w => g5 ((n_eq (b := 38) (by omega) (by decide)).mp w)
  have rx : ∀ m, gs_exec X (d + 3) 70 [.inl (Int32.ofNat c)] m = gs_rI (Int32.ofNat (rkn (scd c))) m := fun m => by
    have := x_rank (X := X) (d := d + 2) (m := m) g4 (by omega)
    rw [g2] at this
    exact this
  have rb := rkn_b (scd c) g4
  have r4 : Int32.ofNat (rkn (scd c)) = (4 : Int32) ↔ rkn (scd c) = 4 := n_eq (b := 4) (by omega) (by decide)
  have nz : ¬ Int32.ofNat (scd c) = (0 : Int32) := fun w => hsg ((n_eq (b := 0) (by omega) (by decide)).mp w)
  have rk1' := rkn_1 (scd c) g4 (by omega) hsg
  rw [r_signs sr t (Or.inl g5), hF, eq_X12_signs_147, if_neg nz, eq_X5_readOperator]
  simp only [yf1 sx, y_18 sx, gs_nn_s, yf3 sx, q5, if_neg c38, x_isSign, g1, gs_bI_s, if_neg i10, rx, r_rank (X := X) g4, fl_116 sr]
  by_cases z : rkn (scd c) = 4
  · obtain ⟨mx1, mr1, A1, B1, c11, E1, hs1, n81, e1, e2, s1, ex1, ef1⟩ := j_bindx (X := X) (d := d + 1) (d' := d') (r := 5) (a := (5 : Int32)) cx (by decide) (by decide) rfl st ex ef
    have sx1 := st_sx cx s1
    have sr1 := st_sr cx s1
    have e45 : Int32.ofNat (rkn (scd c)) + (1 : Int32) = (5 : Int32) := by rw [z]; rfl
    rw [if_pos (r4.mpr z), if_pos (r4.mpr z), e45, e1, e2]
    simp only [gs_bU_s, r_rank (X := X) g4, gs_bI_s, if_pos (r4.mpr z), yf1 sx1, fl_116 sr1, r4.mpr z, ite_true]
    have nx := j_sgn2 (X := X) (d := d) (d' := d') (x := scd c) cx s1 ex1 ef1 g6 g3 g4 g2 (F + 1) F h0 hk
    rw [r4.mpr z, show F + 1 + 1 = X.1 from hF.symm] at nx
    have j2 : mx1.2.1 1 2 = Int32.ofNat (drR 5 ws).length := (s1.2.2.2.2.1 2).trans ex1.1.1
    have g40 : mr1.2.1 116 40 = Int32.ofNat (drR 5 ws).length := (s1.2.2.2.2.2.2.1 40 (by decide)).trans ex1.1.2
    have exp := ex1.2.2.2.2.2.1
    have el72 : (drR 5 ws).length ≤ 72 := by
      have h1 := ex1.2.2.2.2.2.2.2.1
      have h2 := ex1.2.1.2.2
      have h3 := ex1.2.2.1.2.2
      omega
    rw [j2, g40]
    match hd : drR 5 ws, exp, el72 with
    | [], _, _ =>
      rw [show ([] : List Nat).length = 0 from rfl, if_neg (by decide), if_neg (by decide)]
      exact nx
    | y :: tl, exp, el72 =>
      obtain ⟨⟨p1, p2, p3, p4⟩, -⟩ := exp
      have el : (y :: tl).length = tl.length + 1 := rfl
      rw [el] at el72
      have lz : (0 : Int32) < Int32.ofNat (tl.length + 1) := (gs_nlt (a := 0) (by decide) (by omega)).mpr (by omega)
      have es : Int32.ofNat (tl.length + 1) - (1 : Int32) = Int32.ofNat tl.length := n_sb (a := 1) (by omega)
      have ix2 : ∀ K : Nat → gs_O, gs_ix mx1 2 13 (Int32.ofNat tl.length) K = K tl.length := fun K => gs_ixn (y_n sx1) rfl (show tl.length < 72 by omega)
      have ir2 : ∀ K : Nat → gs_O, gs_ix mr1 142 13 (Int32.ofNat tl.length) K = K tl.length := fun K => gs_ixn sr1.1 rfl (show tl.length < 96 by omega)
      have e3 : mx1.2.1 2 tl.length = Int32.ofNat (pcd y) := (s1.2.2.2.2.2.1 tl.length).trans p1
      have e4 : mr1.2.1 142 tl.length = Int32.ofNat y := (s1.2.2.2.1 23 tl.length).trans p2
      have ry := rkn_b y p3
      have y4 : Int32.ofNat (rkn y) = (4 : Int32) ↔ rkn y = 4 := n_eq (b := 4) (by omega) (by decide)
      rw [el, if_pos lz, if_pos lz]
      simp only [es, y_10 sx1, sh_116_38 sr1, gs_nn_s, ix2, ir2, e3, e4, x_rank (X := X) p3 p4, r_rank (X := X) p3, gs_bI_s]
      by_cases w : rkn y = 4
      · rw [if_pos (y4.mpr w), if_pos (y4.mpr w), yf1 sx1, fl_116 sr1, bI_bU, bI_bI]
        exact jfail cx s1 h0
      · rw [if_neg (fun u => w (y4.mp u)), if_neg (fun u => w (y4.mp u))]
        exact nx
  · obtain ⟨mx1, mr1, A1, B1, c11, E1, hs1, n81, e1, e2, s1, ex1, ef1⟩ := j_bindx (X := X) (d := d + 1) (d' := d') (r := rkn (scd c)) (a := Int32.ofNat (rkn (scd c))) cx rk1' rb.1 rfl st ex ef
    have sx1 := st_sx cx s1
    have sr1 := st_sr cx s1
    have n4 : ¬ Int32.ofNat (rkn (scd c)) = (4 : Int32) := fun w => z (r4.mp w)
    rw [if_neg n4, if_neg n4, e2]
    simp only [e1, gs_bU_s, r_rank (X := X) g4, gs_bI_s, if_neg n4, ite_true]
    have nx := j_sgn2 (X := X) (d := d) (d' := d') (x := scd c) cx s1 ex1 ef1 g6 g3 g4 g2 (F + 1) F h0 hk
    rw [show F + 1 + 1 = X.1 from hF.symm] at nx
    exact nx
end OR
