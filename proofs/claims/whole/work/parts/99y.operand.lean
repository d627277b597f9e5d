/-! What stands between signs: a bracket, not, a number, a name. -/
def nmB (c : Nat) : Nat := if (8 ≤ c ∧ c ≤ 10) ∨ c = 12 ∨ c = 30 ∨ c = 31 then 1 else 0
theorem nmB_x : ∀ c, c < 49 → (if Int32.ofNat c < (8 : Int32) then if Int32.ofNat c = (12 : Int32) then (1 : Int32) else if Int32.ofNat c = (30 : Int32) then 1 else if Int32.ofNat c = (31 : Int32) then 1 else 0 else if (10 : Int32) < Int32.ofNat c then if Int32.ofNat c = (12 : Int32) then (1 : Int32) else if Int32.ofNat c = (30 : Int32) then 1 else if Int32.ofNat c = (31 : Int32) then 1 else 0 else 1) = Int32.ofNat (nmB c) := by decide +kernel
theorem nmB_r : ∀ c, c < 49 → (nmB c = 1 → c < 32 ∧ c ≠ 29 ∧ ¬ Int32.ofNat (pmo c) < (26 : Int32) ∧ Int32.ofNat (pmo c) - (26 : Int32) = Int32.ofNat (pmo c - 26) ∧ pmo c - 26 < 6 ∧ ck 1 (pmo c - 26) = c) := by decide +kernel
theorem nmB_0 : ∀ c, c < 32 → (¬ nmB c = 1 → Int32.ofNat (pmo c) < (26 : Int32)) := by decide +kernel
theorem nmB_01 : ∀ c, c < 49 → nmB c = 0 ∨ nmB c = 1 := by decide
section OP
variable {X : gs_E} {d d' T S TR L : Nat} {by_ : Nat → Nat} {m0 r0 mx mr : gs_M} {A B A0 B0 : Nat → Nat → Int32} {c1 c2 E c10 E0 : Nat → Int32} {c v p q kn n8 f mn : Nat} {ws hs : List Nat} {Q : gs_M → gs_M → Prop}
theorem x_isRuleName {m : gs_M} (hc : c < 49) : gs_exec X (d + 1) 69 [.inl (Int32.ofNat c)] m = gs_rI (Int32.ofNat (nmB c)) m := by
  rw [eq_X5_isRuleName, ← nmB_x c hc]
  simp only [gs_bt0, gs_bt1, gs_if_rI]
theorem ex_len (ex : gs_Ex A B c1 c2 E ws hs kn n8 f 1 mn) : ws.length ≤ 72 ∧ hs.length ≤ 72 ∧ n8 ≤ 64 := by
  have h1 := ex.2.2.2.2.2.2.2.1
  have h2 := ex.2.1.2.2
  have h3 := ex.2.2.1.2.2
  have h4 := ex.2.2.2.2.2.2.1.2.2
  have h5 := opn_le ws
  omega
/-- a leaf of a rule, on both sides -/
theorem j_leaf {j x : Nat} {vl : Int32} {Kx : gs_M → gs_O} {Kr : Int32 → gs_M → gs_O} (cx : gs_Cn X T S TR L by_ m0 r0) (st : gs_Sg S L m0 r0 A B (upf c1 4 (Int32.ofNat (kn + 1))) c2 (upf E 43 (Int32.ofNat (kn + 1))) mx mr c v p q) (ex : gs_Ex A B c1 c2 E ws hs kn n8 f 1 mn) (ef : gs_Ef A B c1 E A0 B0 c10 E0 f) (hkn : kn < 64) (hc : c ≠ 34) (hj : j ≤ 1) (hx : x ≤ 9999) (h1 : j = 1 → x < 6) (h0 : j = 0 → vl = Int32.ofNat x)
    (hk : ∀ (A' B' : Nat → Nat → Int32) (c1' c2' E' : Nat → Int32) (ws' hs' : List Nat) (kn' n8' wt' mn' : Nat) (mx' mr' : gs_M) (c' v' p' q' : Nat), p < p' → gs_Sg S L m0 r0 A' B' c1' c2' E' mx' mr' c' v' p' q' → gs_Ex A' B' c1' c2' E' ws' hs' kn' n8' f wt' mn' → gs_Ef A' B' c1' E' A0 B0 c10 E0 f → gs_jQ S m0 r0 Q (Kx mx') (Kr 1 mr')) :
    gs_jQ S m0 r0 Q (gs_bU (gs_bU (gs_exec X (d + 3) 72 [.inr (.inr (S + 17)), .inl (Int32.ofNat (ck j x)), .inl vl] mx) gs_th (fun m14 => gs_fld m14 1 5 (gs_bt (0 : Int32) (let m15 : gs_M := gs_sI m14 1 5 (0 : Int32); gs_fld m15 1 5 (gs_nn (m15.2.2.2 1 8) (fun q16 => gs_fld m15 q16 8 (gs_bU (gs_exec X (d + 3) 108 [.inr (.inr q16)] m15) gs_th (fun m17 => gs_rU m17)))))))) gs_th Kx) (gs_bI (gs_bU (gs_exec X (d' + 2) 214 [.inr (.inr 116), .inl (Int32.ofNat j), .inl (Int32.ofNat x), .inl (0 : Int32)] mr) gs_th (fun m5 => gs_fld m5 116 11 (gs_bt (0 : Int32) (let m6 : gs_M := gs_sI m5 116 44 (0 : Int32); gs_fld m6 116 11 (gs_bU (gs_exec X (d' + 2) 182 [.inr (.inr 116)] m6) gs_th (fun m7 => gs_bt (1 : Int32) (gs_rI (1 : Int32) m7))))))) gs_th Kr) := by
  have el := ex_len ex
  obtain ⟨⟨w1, w2⟩, ⟨o1, o2, o3⟩, ⟨k1, k2, k3⟩, ⟨t1, t2, t3⟩, ⟨m1, m2, m3⟩, pt, ⟨h1', h2', h3'⟩, hkk, ⟨a1, a2⟩, rk', hf, hw⟩ := ex
  have ol := opn_le ws
  have n64 : n8 < 64 := by omega
  have pq := st_pq st hc
  obtain ⟨mx1, e1, s1⟩ := st_radd (X := X) (d := d + 2) (a := Int32.ofNat (ck j x)) (b := vl) cx st a1 n64
  obtain ⟨mr1, e2, s2⟩ := st_grown (X := X) (d := d' + 1) (a := Int32.ofNat j) (b := Int32.ofNat x) (e := (0 : Int32)) (h := hs.length) cx s1 a2 n64 ((upf_n (by decide)).trans h1') (by omega)
  have sx1 := st_sx cx s2
  have sr1 := st_sr cx s2
  have s3 := st_we (i := 44) (x := (0 : Int32)) (st_w1 (i := 5) (x := (0 : Int32)) cx s2) (by unfold rsVb upr; omega) (by omega)
  rw [e1, e2]
  simp only [gs_bU_s, yf1 sx1, gs_bt0, gs_fld_sI, gs_sI22, y_18 sx1, gs_nn_s, yf3 sx1, fl_116 sr1, bU_bU, bI_bU]
  refine jadv cx s3 (fun mx' mr' c' v' p' q' le s => ?_)
  have w := nk_wks (h := hs.length) (j := j) (x := x) (b := (0 : Int32)) hf hw
  have ne := nk_new (B := B) (n8 := n8) (h := hs.length) (j := j) (x := x) (b := (0 : Int32))
  have g1 : (Int32.ofNat j).toInt.toNat = j := f_nat rfl (by omega)
  have ww : wstep (kB (nkB B n8 hs.length (Int32.ofNat j) (Int32.ofNat x) 0)) (pB (nkB B n8 hs.length (Int32.ofNat j) (Int32.ofNat x) 0)) (oB (nkB B n8 hs.length (Int32.ofNat j) (Int32.ofNat x) 0)) n8 hs = some (n8 :: hs) := by
    unfold wstep kB
    rw [ne.1, g1, if_pos hj]
  rw [ww] at w
  refine hk _ _ _ _ _ ws (n8 :: hs) (kn + 1) (n8 + 1) 0 mn mx' mr' c' v' p' q' (by omega) s ⟨⟨w1, w2⟩, ⟨o1, o2, o3⟩, ⟨rfl, rfl, by omega⟩, ⟨rfl, rfl, by decide⟩, ⟨m1, m2, m3⟩, pt, ⟨rfl, ⟨?_, ?_⟩, by show hs.length + 1 + 0 = _; omega⟩, by omega, ⟨up2_e _ _ _ _, up2_e _ _ _ _⟩, nk_rk (y := 0) rk' (by omega) hx (fun h => by omega) h0 h1, by omega, w⟩ (nk_ef ⟨ef.1, ef.2.1, ef.2.2.1, ef.2.2.2.1, ef.2.2.2.2.1, ef.2.2.2.2.2⟩ hf _)
  · unfold nkB
    rw [up2_n (Or.inl (by decide)), up2_e]
  · refine hR_c hs (fun i hi => ?_) h2'
    unfold nkB
    rw [up2_n (Or.inl (by decide)), up2_n (Or.inr (by omega))]
    rfl
theorem j_operand {Kx : gs_M → gs_O} {Kr : Int32 → gs_M → gs_O} (cx : gs_Cn X T S TR L by_ m0 r0) (st : gs_Sg S L m0 r0 A B c1 c2 E mx mr c v p q) (ex : gs_Ex A B c1 c2 E ws hs kn n8 f 1 mn) (ef : gs_Ef A B c1 E A0 B0 c10 E0 f) (h0 : ∀ m, Kr 0 m = gs_rI 0 m)
    (hk : ∀ (A' B' : Nat → Nat → Int32) (c1' c2' E' : Nat → Int32) (ws' hs' : List Nat) (kn' n8' wt' mn' : Nat) (mx' mr' : gs_M) (c' v' p' q' : Nat), p < p' → gs_Sg S L m0 r0 A' B' c1' c2' E' mx' mr' c' v' p' q' → gs_Ex A' B' c1' c2' E' ws' hs' kn' n8' f wt' mn' → gs_Ef A' B' c1' E' A0 B0 c10 E0 f → gs_jQ S m0 r0 Q (Kx mx') (Kr 1 mr')) :
    gs_jQ S m0 r0 Q (gs_bU (gs_exec X (d + 4) 64 [.inr (.inr 1)] mx) gs_th Kx) (gs_bI (gs_exec X (d' + 3) 219 [.inr (.inr 116)] mr) gs_th Kr) := by
  have sx := st_sx cx st
  have sr := st_sr cx st
  have el := ex_len ex
  have ex0 := ex
  obtain ⟨⟨w1, w2⟩, ⟨o1, o2, o3⟩, ⟨k1, k2, k3⟩, ⟨t1, t2, t3⟩, ⟨m1, m2, m3⟩, pt, ⟨h1', h2', h3'⟩, hkk, ⟨a1, a2⟩, rk', hf, hw⟩ := ex
  have ol := opn_le ws
  have t := st.2.2.2.2.2.2.2
  have hc := t.1
  have q5 : mx.2.1 3 5 = Int32.ofNat c := t.2.1
  have q8 : mr.2.1 116 8 = Int32.ofNat (rk c) := t.2.2.2.2.2.2.1
  have rl := rk_lt c hc
  have c37 : Int32.ofNat c = (37 : Int32) ↔ c = 37 := n_eq (b := 37) (by omega) (by decide)
  have c29 : Int32.ofNat c = (29 : Int32) ↔ c = 29 := n_eq (b := 29) (by omega) (by decide)
  have c33 : Int32.ofNat c = (33 : Int32) ↔ c = 33 := n_eq (b := 33) (by omega) (by decide)
  have i3 : mx.2.1 1 3 = Int32.ofNat (opn ws) := (st.2.2.2.2.1 3).trans o1
  have r42 : mr.2.1 116 42 = Int32.ofNat (opn ws) := (st.2.2.2.2.2.2.1 42 (by decide)).trans o2
  have i6 : mx.2.1 1 6 = Int32.ofNat mn := (st.2.2.2.2.1 6).trans m1
  have r45 : mr.2.1 116 45 = Int32.ofNat mn := (st.2.2.2.2.2.2.1 45 (by decide)).trans m2
  have sg := r_isSign (X := X) (d := d' + 1) (k := 37) (a := (40 : Int32)) sr t (Or.inr (Or.inl rfl)) rfl
  have ky := r_isKey (X := X) (d := d' + 1) (k := 29) (a := (25 : Int32)) sr t (by decide) rfl
  have hX := cx.1
  obtain ⟨F, hF⟩ : ∃ F, X.1 = F + 1 := ⟨X.1 - 1, by unfold gs_Fu at hX; omega⟩
  rw [eq_X5_readOperand, eq_X12_leafRead]
  simp only [yf1 sx, y_18 sx, gs_nn_s, yf3 sx, q5, fl_116 sr, sg, ky, gs_bI_s, b2_if, i3, r42, i6, r45, q8, ite_true, if_neg i10]
  by_cases z1 : c = 37
  · have pq := st_pq st (by omega)
    have o8 : Int32.ofNat (opn ws) = (8 : Int32) ↔ opn ws = 8 := n_eq (b := 8) (by omega) (by decide)
    rw [if_pos (c37.mpr z1), if_pos z1]
    by_cases y : opn ws = 8
    · rw [if_pos (o8.mpr y), if_pos (o8.mpr y), bU_bU, bI_bI]
      exact jfail cx st h0
    · rw [if_neg (fun w => y (o8.mp w)), if_neg (fun w => y (o8.mp w)), gs_ns]
      have s1 := st_we (i := 42) (x := Int32.ofNat (opn ws + 1)) (st_w1 (i := 3) (x := Int32.ofNat (opn ws + 1)) cx st) (by unfold rsVb upr; omega) (by omega)
      obtain ⟨mx2, e2, s2⟩ := st_push (X := X) (d := d + 2) (a := (37 : Int32)) (n := ws.length) cx s1 w1 (by omega)
      obtain ⟨mr3, e3, s3⟩ := st_wait (X := X) (d := d' + 1) (a := (0 : Int32)) (n := ws.length) cx s2 w2 (by omega)
      have sx3 := st_sx cx s3
      have sr3 := st_sr cx s3
      have s4 := st_we (i := 45) (x := (1 : Int32)) (st_w1 (i := 6) (x := (1 : Int32)) cx s3) (by unfold rsVb upr; omega) (by omega)
      simp only [gs_fld_sI, yf1 sx, fl_116 sr, e2, e3, gs_bU_s, yf1 sx3, fl_116 sr3, gs_bt1, gs_sI22, y_18 sx3, gs_nn_s, yf3 sx3, bU_bU, bI_bU]
      refine jadv cx s4 (fun mx' mr' c' v' p' q' le s => ?_)
      have e0 := opn_z (x := 0) (t := ws) rfl
      have b0 := bns_n (x := 0) (t := ws) (by decide)
      refine hk _ _ _ _ _ (0 :: ws) hs kn n8 1 1 mx' mr' c' v' p' q' (by omega) s ⟨⟨rfl, rfl⟩, ⟨by rw [e0]; rfl, by rw [e0]; rfl, by omega⟩, ⟨k1, k2, k3⟩, ⟨t1, t2, t3⟩, ⟨rfl, rfl, by decide⟩, ⟨⟨upf_e _ _ _, up2_e _ _ _ _, by decide, by decide⟩, ?_⟩, ⟨h1', h2', by omega⟩, ?_, ⟨a1, a2⟩, rk', hf, hw⟩ ?_
      · exact pR_c ws (fun i hi => upf_n (by omega)) (fun i hi => up2_n (Or.inr (by omega))) pt
      · rw [e0]
        show kn + (opn ws + 1) = n8 + (ws.length + 1)
        omega
      · exact ⟨ef.1, fun b g1 g2 g3 g4 g5 g6 => (up2_row g5).trans (ef.2.1 b g1 g2 g3 g4 g5 g6), ef.2.2.1, ef.2.2.2.1, ef.2.2.2.2.1, ef.2.2.2.2.2⟩
  rw [if_neg (fun w => z1 (c37.mp w)), if_neg z1]
  by_cases z2 : c = 29 ∧ mn = 1
  · obtain ⟨z2, z3⟩ := z2
    subst z3
    have pq := st_pq st (by omega)
    rw [if_pos (c29.mpr z2), if_pos z2, if_neg (by decide), if_neg (by decide), bU_bU, bI_bI]
    refine j_count cx st k1 k2 k3 (fun m => ?_) (fun mx1 mr1 hk64 s1 => ?_)
    · show gs_bI (if (0 : Int32) = 0 then gs_bt 0 (gs_rI 0 m) else _) gs_th Kr = _
      rw [if_pos rfl, gs_bt0, gs_bI_s]
      exact h0 m
    have sx1 := st_sx cx s1
    have sr1 := st_sr cx s1
    obtain ⟨mx2, e2, s2⟩ := st_push (X := X) (d := d + 2) (a := (29 : Int32)) (n := ws.length) cx s1 w1 (by omega)
    obtain ⟨mr3, e3, s3⟩ := st_wait (X := X) (d := d' + 1) (a := (2 : Int32)) (n := ws.length) cx s2 w2 (by omega)
    have sx3 := st_sx cx s3
    have sr3 := st_sr cx s3
    simp only [if_neg i10, yf1 sx1, fl_116 sr1, e2, e3, gs_bU_s, yf1 sx3, fl_116 sr3, y_18 sx3, gs_nn_s, yf3 sx3, bU_bU, bI_bU]
    refine jadv cx s3 (fun mx' mr' c' v' p' q' le s => ?_)
    have e0 := opn_n (x := 2) (t := ws) (by decide)
    have b0 := bns_n (x := 2) (t := ws) (by decide)
    refine hk _ _ _ _ _ (2 :: ws) hs (kn + 1) n8 1 1 mx' mr' c' v' p' q' (by omega) s ⟨⟨rfl, rfl⟩, ⟨by rw [e0]; exact o1, by rw [e0]; exact o2, by omega⟩, ⟨rfl, rfl, by omega⟩, ⟨t1, t2, t3⟩, ⟨m1, m2, m3⟩, ⟨⟨upf_e _ _ _, up2_e _ _ _ _, by decide, by decide⟩, ?_⟩, ⟨h1', h2', by omega⟩, ?_, ⟨a1, a2⟩, rk', hf, hw⟩ ?_
    · exact pR_c ws (fun i hi => upf_n (by omega)) (fun i hi => up2_n (Or.inr (by omega))) pt
    · rw [e0]
      show kn + 1 + opn ws = n8 + (ws.length + 1)
      omega
    · exact ⟨ef.1, fun b g1 g2 g3 g4 g5 g6 => (up2_row g5).trans (ef.2.1 b g1 g2 g3 g4 g5 g6), ef.2.2.1, ef.2.2.2.1, ef.2.2.2.2.1, ef.2.2.2.2.2⟩
  have tail : ∀ (ox or : gs_O), (ox = (if Int32.ofNat c = (33 : Int32) then gs_iter X (gs_exec X (d + 3)) gT_X5_readOperand X.1 91 [(0, .inr (.inr 1)), (1, .inl (Int32.ofNat c))] [] mx else gs_bI (gs_exec X (d + 3) 69 [.inl (Int32.ofNat c)] mx) gs_nt (fun x23 m22 => if x23 = 0 then gs_fld m22 1 5 (gs_bU (gs_exec X (d + 3) 43 [.inr (.inr 1), .inl (1 : Int32)] m22) gs_th (fun m24 => gs_fld m24 1 5 (gs_nn (m24.2.2.2 1 8) (fun q25 => gs_fld m24 q25 8 (gs_bU (gs_exec X (d + 3) 108 [.inr (.inr q25)] m24) gs_th (fun m26 => gs_rU m26)))))) else gs_iter X (gs_exec X (d + 3)) gT_X5_readOperand X.1 91 [(0, .inr (.inr 1)), (1, .inl (Int32.ofNat c))] [] m22))) → (or = (if Int32.ofNat (rk c) = (1 : Int32) then (if mr.2.1 116 9 < (26 : Int32) then (if Int32.ofNat (rk c) = (3 : Int32) then gs_iter X (gs_exec X (d' + 2)) gT_X12_leafRead X.1 127 [(0, .inr (.inr 116)), (1, .inl (0 : Int32))] [] mr else gs_bI (gs_exec X (d' + 2) 178 [.inr (.inr 116), .inl (1 : Int32)] mr) gs_th (fun x6 m5 => gs_bt x6 (gs_rI x6 m5))) else gs_iter X (gs_exec X (d' + 2)) gT_X12_leafRead X.1 127 [(0, .inr (.inr 116)), (1, .inl (1 : Int32))] [] mr) else (if Int32.ofNat (rk c) = (3 : Int32) then gs_iter X (gs_exec X (d' + 2)) gT_X12_leafRead X.1 127 [(0, .inr (.inr 116)), (1, .inl (0 : Int32))] [] mr else gs_bI (gs_exec X (d' + 2) 178 [.inr (.inr 116), .inl (1 : Int32)] mr) gs_th (fun x6 m5 => gs_bt x6 (gs_rI x6 m5))))) → gs_jQ S m0 r0 Q (gs_bU ox gs_th Kx) (gs_bI or gs_th Kr) := by
    intro ox or hox hor
    rw [hox, hor]
    have e1 : Int32.ofNat (rk c) = (1 : Int32) ↔ rk c = 1 := n_eq (b := 1) (by omega) (by decide)
    have e3 : Int32.ofNat (rk c) = (3 : Int32) ↔ rk c = 3 := n_eq (b := 3) (by omega) (by decide)
    have cr : ∀ c, c < 49 → (rk c = 3 ↔ c = 33) := by decide
    by_cases y1 : c = 33
    · subst y1
      have pq := st_pq st (by decide)
      have q7 := t.2.2.2.2.2.1 rfl
      have q9 : mr.2.1 116 9 = Int32.ofNat v := t.2.2.2.2.2.2.2.1 (by decide) (by decide)
      have cb : cv4 v ≤ 10000 := Nat.min_le_left _ _
      have lx : (9999 : Int32) < Int32.ofNat (cv4 v) ↔ 9999 < v := by
        show Int32.ofNat 9999 < _ ↔ _
        rw [gs_nlt (by decide) (by omega)]
        unfold cv4
        omega
      have lr : (9999 : Int32) < Int32.ofNat v ↔ 9999 < v := gs_nlt (a := 9999) (by decide) (by omega)
      rw [if_pos (show Int32.ofNat 33 = (33 : Int32) from rfl), if_neg (show ¬ Int32.ofNat (rk 33) = (1 : Int32) by decide), if_pos (show Int32.ofNat (rk 33) = (3 : Int32) by decide), hF, eq_X5_readOperand_91, eq_X12_leafRead_127, if_pos (show (0 : Int32) = 0 from rfl), yf1 sx, fl_116 sr, q9]
      by_cases y2 : 9999 < v
      · rw [if_pos (lr.mpr y2), fl_116 sr, bI_bI]
        by_cases y3 : kn < 64
        · have i4 : mx.2.1 1 4 = Int32.ofNat kn := (st.2.2.2.2.1 4).trans k1
          have l6 : Int32.ofNat kn < (64 : Int32) ↔ kn < 64 := gs_nlt (b := 64) (by omega) (by decide)
          have s1 : gs_Sg S L m0 r0 A B (upf c1 4 (Int32.ofNat (kn + 1))) c2 E (gs_sI mx 1 4 (Int32.ofNat (kn + 1))) mr 33 v p q := st_w1 cx st
          have q7' : (gs_sI mx 1 4 (Int32.ofNat (kn + 1))).2.1 3 7 = Int32.ofNat (cv4 v) := (s1.2.2.2.2.2.2.2.2.2.2.2.2.1 rfl).1
          rw [eq_X5_countKnot, yf1 sx, i4, if_pos (l6.mpr y3)]
          simp only [gs_fld_sI, gs_sI22, yf1 sx, yf3 sx, y_18 sx, gs_nn_s, gs_bU_s, gs_ns, if_pos (show Int32.ofNat 33 = (33 : Int32) from rfl), q7']
          rw [if_pos (lx.mpr y2), bU_bU]
          exact jfail cx s1 h0
        · have i4 : mx.2.1 1 4 = Int32.ofNat kn := (st.2.2.2.2.1 4).trans k1
          have l6 : Int32.ofNat kn < (64 : Int32) ↔ kn < 64 := gs_nlt (b := 64) (by omega) (by decide)
          rw [eq_X5_countKnot, yf1 sx, i4, if_neg (fun w => y3 (l6.mp w)), yf1 sx, bU_bU, bU_bU]
          exact jfail cx st h0
      · rw [if_neg (fun w => y2 (lr.mp w)), fl_116 sr, bU_bU, bI_bI]
        have ev : cv4 v = v := by
          unfold cv4
          omega
        refine j_count cx st k1 k2 k3 (fun m => ?_) (fun mx1 mr1 hk64 s1 => ?_)
        · show gs_bI (if (0 : Int32) = 0 then gs_bt 0 (gs_rI 0 m) else _) gs_th Kr = _
          rw [if_pos rfl, gs_bt0, gs_bI_s]
          exact h0 m
        have sx1 := st_sx cx s1
        have sr1 := st_sr cx s1
        have t1' := s1.2.2.2.2.2.2.2
        have q71 : mx1.2.1 3 7 = Int32.ofNat v := (t1'.2.2.2.2.2.1 rfl).1.trans (by rw [ev])
        have q91 : mr1.2.1 116 9 = Int32.ofNat v := t1'.2.2.2.2.2.2.2.1 (by decide) (by decide)
        have nl : ¬ (9999 : Int32) < Int32.ofNat v := fun w => y2 (lr.mp w)
        simp only [if_neg i10, if_pos (show Int32.ofNat 33 = (33 : Int32) from rfl), yf1 sx1, yf3 sx1, y_18 sx1, y_11 sx1, yt0 sx1, y0_4 sx1, yt17 sx1, gs_nn_s, q71, q91, if_neg nl, fl_116 sr1, ite_true]
        exact j_leaf (j := 0) (x := v) (vl := Int32.ofNat v) cx s1 ex0 ef hk64 (by decide) (by decide) (by omega) (fun h => absurd h (by decide)) (fun _ => rfl) hk
    · rw [if_neg (fun w => y1 (c33.mp w)), x_isRuleName hc, gs_bI_s]
      rcases nmB_01 c hc with y2 | y2
      · have r3 : ¬ Int32.ofNat (rk c) = (3 : Int32) := fun w => y1 ((cr c hc).mp (e3.mp w))
        rw [y2, if_pos (by decide), yf1 sx, if_neg r3]
        have fin : gs_jQ S m0 r0 Q (gs_bU (gs_bU (gs_exec X (d + 3) 43 [.inr (.inr 1), .inl (1 : Int32)] mx) gs_th (fun m24 => gs_fld m24 1 5 (gs_nn (m24.2.2.2 1 8) (fun q25 => gs_fld m24 q25 8 (gs_bU (gs_exec X (d + 3) 108 [.inr (.inr q25)] m24) gs_th (fun m26 => gs_rU m26)))))) gs_th Kx) (gs_bI (gs_bI (gs_exec X (d' + 2) 178 [.inr (.inr 116), .inl (1 : Int32)] mr) gs_th (fun x10 m9 => gs_bt x10 (gs_rI x10 m9))) gs_th Kr) := by
          rw [bU_bU, bI_bI]
          exact jfail cx st h0
        by_cases y3 : c < 32
        · have q9 : mr.2.1 116 9 = Int32.ofNat (pmo c) := (t.2.2.2.2.2.2.2.1 (by omega) (by omega)).trans (by rw [rvl_k y3])
          rw [if_pos (e1.mpr ((rk1 c hc).mpr y3)), q9, if_pos (nmB_0 c y3 (by omega))]
          exact fin
        · rw [if_neg (fun w => y3 ((rk1 c hc).mp (e1.mp w)))]
          exact fin
      · obtain ⟨g1, g2, g3, g4, g5, g6⟩ := nmB_r c hc y2
        have pq := st_pq st (by omega)
        have q9 : mr.2.1 116 9 = Int32.ofNat (pmo c) := (t.2.2.2.2.2.2.2.1 (by omega) (by omega)).trans (by rw [rvl_k g1])
        rw [y2, if_neg (by decide), if_pos (e1.mpr ((rk1 c hc).mpr g1)), q9, if_neg g3, hF, eq_X5_readOperand_91, eq_X12_leafRead_127, if_neg i10, yf1 sx, fl_116 sr, bU_bU, bI_bI]
        refine j_count cx st k1 k2 k3 (fun m => ?_) (fun mx1 mr1 hk64 s1 => ?_)
        · show gs_bI (if (0 : Int32) = 0 then gs_bt 0 (gs_rI 0 m) else _) gs_th Kr = _
          rw [if_pos rfl, gs_bt0, gs_bI_s]
          exact h0 m
        have sx1 := st_sx cx s1
        have sr1 := st_sr cx s1
        have t1' := s1.2.2.2.2.2.2.2
        have q91 : mr1.2.1 116 9 = Int32.ofNat (pmo c) := (t1'.2.2.2.2.2.2.2.1 (by omega) (by omega)).trans (by rw [rvl_k g1])
        have n33 : ¬ Int32.ofNat c = (33 : Int32) := fun w => y1 (c33.mp w)
        simp only [if_neg i10, if_neg n33, yf1 sx1, yf3 sx1, y_18 sx1, y_11 sx1, yt0 sx1, y0_4 sx1, yt17 sx1, gs_nn_s, q91, g4, fl_116 sr1]
        have lf := j_leaf (X := X) (d := d) (d' := d') (j := 1) (x := pmo c - 26) (vl := mx1.2.1 3 7) cx s1 ex0 ef hk64 (by omega) (by decide) (by omega) (fun _ => g5) (fun h => absurd h (by decide)) hk
        rw [g6] at lf
        exact lf
  by_cases z3 : c = 29
  · have mn0 : mn = 0 := by
      by_cases y : mn = 1
      · exact absurd ⟨z3, y⟩ z2
      · omega
    rw [if_pos (c29.mpr z3), if_pos z3, mn0, if_pos (show Int32.ofNat 0 = (0 : Int32) from rfl), if_pos (show Int32.ofNat 0 = (0 : Int32) from rfl)]
    exact tail _ _ rfl rfl
  · rw [if_neg (fun w => z3 (c29.mp w)), if_neg z3]
    exact tail _ _ rfl rfl
end OP
