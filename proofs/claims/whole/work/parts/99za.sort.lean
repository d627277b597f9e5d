/-! The line of a sort. -/
theorem wks_hd {kn pt ot : Nat → Nat} {f q : Nat} {S : List Nat} (h : gs_wks kn pt ot f (q + 1) = some S) : ∃ R, S = (f + q) :: R := by
  unfold gs_wks at h
  split at h
  · next R hR => exact (wstep_lt h (gs_wks_lt q R hR)).2
  · cases h
section SO
variable {X : gs_E} {d d' T S TR L : Nat} {by_ : Nat → Nat} {m0 r0 mx mr : gs_M} {A B A0 B0 : Nat → Nat → Int32} {c1 c2 E c10 E0 : Nat → Int32} {c v p q f n0 n1 n2 n3 n5 n6 n7 n8 : Nat} {Q : gs_M → gs_M → Prop}
theorem j_sloop {Kx : gs_M → gs_O} {Kr : Int32 → gs_M → gs_O} {nm wg : Int32} (cx : gs_Cn X T S TR L by_ m0 r0) (h0 : ∀ m, Kr 0 m = gs_rI 0 m)
    (hBad : ∀ (A1 B1 : Nat → Nat → Int32) (c11 c21 E1 : Nat → Int32) (mx1 mr1 : gs_M) (hs1 : List Nat) (kn1 n81 mn1 c' v' p' q' : Nat), c' ≠ 36 → gs_Sg S L m0 r0 A1 B1 c11 c21 E1 mx1 mr1 c' v' p' q' → gs_Ex A1 B1 c11 c21 E1 [] hs1 kn1 n81 f 0 mn1 → gs_Ef A1 B1 c11 E1 A0 B0 c10 E0 f → ∃ mx2, gs_bU (gs_bU (gs_exec X (d + 4) 26 [.inr (.inr (S + 13)), .inl nm, .inl wg, .inl (Int32.ofNat n81)] mx1) gs_th (fun m => gs_rU m)) gs_th Kx = gs_th 0 (gs_gb mx2) ∧ gs_Wx (rsAf S) m0 mx2 ∧ mx2.2.1 1 9 = 1 ∧ mx2.2.1 1 10 = Int32.ofNat p')
    (hEnd : ∀ (A1 B1 : Nat → Nat → Int32) (c11 c21 E1 : Nat → Int32) (mx1 mr1 : gs_M) (hs1 : List Nat) (kn1 n81 mn1 v' p' q' : Nat), p < p' → gs_Sg S L m0 r0 A1 B1 c11 c21 E1 mx1 mr1 36 v' p' q' → gs_Ex A1 B1 c11 c21 E1 [] hs1 kn1 n81 f 0 mn1 → gs_Ef A1 B1 c11 E1 A0 B0 c10 E0 f → gs_jQ S m0 r0 Q (gs_bU (gs_bU (gs_exec X (d + 4) 26 [.inr (.inr (S + 13)), .inl nm, .inl wg, .inl (Int32.ofNat n81)] mx1) gs_th (fun m => gs_rU m)) gs_th Kx) (Kr 1 mr1)) :
    ∀ (r F F' k : Nat) (A B : Nat → Nat → Int32) (c1 c2 E : Nat → Int32) (ws hs : List Nat) (kn n8 wt mn : Nat) (mx mr : gs_M) (c v p' q' : Nat), L < p' + r → r + 5 < F → r + 5 < F' → k < p' → p < p' → gs_Sg S L m0 r0 A B c1 c2 E mx mr c v p' q' → gs_Ex A B c1 c2 E ws hs kn n8 f wt mn → gs_Ef A B c1 E A0 B0 c10 E0 f →
    gs_jQ S m0 r0 Q (gs_bU (gs_iter X (gs_exec X (d + 4)) gT_X5_readSort F 61 [(0, .inr (.inr 1)), (1, .inl nm), (2, .inl wg), (3, .inl (1 : Int32)), (4, .inl (Int32.ofNat k))] [] mx) gs_th Kx) (gs_bI (gs_iter X (gs_exec X (d' + 3)) gT_X12_sumRead F' 25 [(0, .inr (.inr 116))] [] mr) gs_th Kr) := by
  have L8 : L ≤ 800 := cx.2.2.2.1.1
  intro r
  induction r with
  | zero =>
    intro F F' k A B c1 c2 E ws hs kn n8 wt mn mx mr c v p' q' hL hF hF' hk hp st
    have := st.2.2.2.2.2.2.2.2.2.2.2.2.2.2.2.2.2.1
    omega
  | succ r ih =>
    intro F F' k A B c1 c2 E ws hs kn n8 wt mn mx mr c v p' q' hL hF hF' hk hp st ex ef
    obtain ⟨F, rfl⟩ : ∃ y, F = y + 1 + 1 := ⟨F - 2, by omega⟩
    obtain ⟨F', rfl⟩ : ∃ y, F' = y + 1 := ⟨F' - 1, by omega⟩
    have sx := st_sx cx st
    have sr := st_sr cx st
    have t := st.2.2.2.2.2.2.2
    have hc := t.1
    have pL : p' ≤ L := st.2.2.2.2.2.2.2.2.2.2.2.2.2.2.2.2.2.1
    have i5 : mx.2.1 1 5 = Int32.ofNat wt := (st.2.2.2.2.1 5).trans ex.2.2.2.1.1
    have g44 : mr.2.1 116 44 = Int32.ofNat wt := (st.2.2.2.2.2.2.1 44 (by decide)).trans ex.2.2.2.1.2.1
    have i3 : mx.2.1 1 3 = Int32.ofNat (opn ws) := (st.2.2.2.2.1 3).trans ex.2.1.1
    have g42 : mr.2.1 116 42 = Int32.ofNat (opn ws) := (st.2.2.2.2.2.2.1 42 (by decide)).trans ex.2.1.2.1
    have o8 := ex.2.1.2.2
    have wt2 := ex.2.2.2.1.2.2
    have l8 : Int32.ofNat k < (800 : Int32) := (gs_nlt (b := 800) (by omega) (by decide)).mpr (by omega)
    have lz : (0 : Int32) < Int32.ofNat (opn ws) ↔ 0 < opn ws := gs_nlt (a := 0) (by decide) (by omega)
    have s36 := r_isSign (X := X) (d := d' + 2) (k := 36) (a := (59 : Int32)) sr t (Or.inl rfl) rfl
    rw [eq_X5_readSort_61, eq_X12_sumRead_25, if_pos l8, if_neg i10]
    simp only [yf1 sx, fl_116 sr, s36, gs_bI_s, b2_if, i5, g44, g42]
    have hw : wt = 0 ∨ wt = 1 := by omega
    rcases hw with hw | hw
    · subst hw
      have w0 : Int32.ofNat 0 = (0 : Int32) := rfl
      simp only [if_pos w0]
      by_cases z1 : c = 38 ∧ 0 < opn ws
      · obtain ⟨z1, z2⟩ := z1
        rw [if_neg (show ¬ c = 36 by omega), bU_bI, bI_bI]
        refine j_close cx st ex ef z1 z2 (fun A' B' c1' c2' E' ws' hs' kn' n8' wt' mn' mx' mr' c' v' p1 q1 hp1 st1 ex1 ef1 => ?_)
        rw [gs_ns, if_neg i10]
        exact ih (F + 1) F' (k + 1) A' B' c1' c2' E' ws' hs' kn' n8' wt' mn' mx' mr' c' v' p1 q1 (by omega) (by omega) (by omega) (by omega) (by omega) st1 ex1 ef1
      by_cases z3 : scd c = 0
      · have hn38 : c ≠ 38 ∨ ¬ 0 < opn ws := by
          by_cases y : c = 38
          · exact Or.inr (fun w => z1 ⟨y, w⟩)
          · exact Or.inl y
        have xe := x_noSign (X := X) (d := d) sx t (hn38.elim Or.inl (fun y => Or.inr (by rw [i3]; exact fun w => y (lz.mp w)))) z3
        have re := r_noSign (X := X) (d' := d') cx sr t (hn38.elim Or.inl (fun y => Or.inr (by rw [g42]; exact fun w => y (lz.mp w)))) z3
        rw [xe, gs_bI_s, eq_X5_readSort_61, if_pos (show (0 : Int32) = 0 from rfl), ite_self]
        simp only [yf1 sx, i3]
        by_cases z4 : 0 < opn ws
        · rw [if_pos (lz.mpr z4), if_pos (lz.mpr z4), ite_self, re, bU_bU, bI_bI, bI_bI]
          refine jfail cx st (fun m => ?_)
          show gs_bI (gs_bt 0 (gs_rI 0 m)) gs_th _ = _
          rw [gs_bt0, gs_bI_s, if_pos rfl, gs_bt0, gs_bI_s]
          exact h0 m
        · obtain ⟨mx1, mr1, A1, B1, c11, E1, hs1, n81, e1, e2, s1, ex1, ef1⟩ := j_bindx (X := X) (d := d + 2) (d' := d' + 1) (r := 1) (a := (1 : Int32)) cx (by decide) (by decide) rfl st ex ef
          have sx1 := st_sx cx s1
          have pm := pR_m ws ex.2.2.2.2.2.1
          have nil := drR_nil (r := 1) ws (by omega) (fun x hx => by
            by_cases y : x = 0
            · exact Or.inr y
            · exact Or.inl (rkn_1 x (pm x hx).1 (pm x hx).2 y))
          rw [nil] at ex1
          have a17 : mx1.2.1 (S + 17) 3 = Int32.ofNat n81 := (s1.2.2.1 17 3).trans ex1.2.2.2.2.2.2.2.2.1.1
          rw [if_neg (fun w => z4 (lz.mp w)), if_neg (fun w => z4 (lz.mp w)), e1]
          simp only [gs_bU_s, yf1 sx1, y_11 sx1, yt0 sx1, y0_3 sx1, y0_4 sx1, yt17 sx1, yt13 sx1, gs_nn_s, a17]
          by_cases z5 : c = 36
          · rw [if_pos z5, e2, gs_bU_s, gs_bt1, gs_bI_s]
            subst z5
            exact hEnd A1 B1 c11 c2 E1 mx1 mr1 hs1 kn n81 mn v p' q' hp s1 ex1 ef1
          · rw [if_neg z5, re]
            obtain ⟨mx2, b1, b2, b3, b4⟩ := hBad A1 B1 c11 c2 E1 mx1 mr1 hs1 kn n81 mn c v p' q' z5 s1 ex1 ef1
            have q10 : mr.2.1 116 10 = Int32.ofNat p' := t.2.2.2.2.2.2.2.2.1
            rw [b1]
            refine Or.inl ⟨mx2, gs_sI (gs_sI mr 116 4 1) 116 5 (Int32.ofNat p'), rfl, ?_, b2, wx_sI (wx_sI (wx_mono st.2.1 (fun x i h => Or.inr h)) (Or.inl ⟨rfl, Or.inl rfl⟩)) (Or.inl ⟨rfl, Or.inr rfl⟩), ?_, ?_⟩
            · have e : (gs_sI mr 116 4 (1 : Int32)).2.1 116 10 = Int32.ofNat p' := by rw [gs_sIn (Or.inr (by decide))]; exact q10
              rw [eq_X12_wrong]
              simp only [gs_fld_sI, fl_116 sr, e, gs_bt0, gs_bI_s, if_pos (show (0 : Int32) = 0 from rfl), ite_true]
              exact h0 _
            · rw [b3, gs_sIn (Or.inr (by decide)), gs_sIe]
            · rw [b4, gs_sIe]
      · rw [if_neg (show ¬ c = 36 from fun y => by subst y; exact z3 rfl), bU_bI, bI_bI]
        refine j_sign cx st ex ef z3 (fun m => ?_) (fun A' B' c1' c2' E' ws' hs' kn' n8' wt' mn' mx' mr' c' v' p1 q1 hp1 st1 ex1 ef1 => ?_)
        · show gs_bI (if (0 : Int32) = 0 then gs_bt 0 (gs_rI 0 m) else _) gs_th Kr = _
          rw [if_pos rfl, gs_bt0, gs_bI_s]
          exact h0 m
        rw [gs_ns, if_neg i10]
        exact ih (F + 1) F' (k + 1) A' B' c1' c2' E' ws' hs' kn' n8' wt' mn' mx' mr' c' v' p1 q1 (by omega) (by omega) (by omega) (by omega) (by omega) st1 ex1 ef1
    · subst hw
      have w1 : ¬ Int32.ofNat 1 = (0 : Int32) := by decide
      simp only [if_neg w1, ite_self, bU_bU, bI_bI]
      refine j_operand cx st ex ef (fun m => ?_) (fun A' B' c1' c2' E' ws' hs' kn' n8' wt' mn' mx' mr' c' v' p1 q1 hp1 st1 ex1 ef1 => ?_)
      · show gs_bI (if (0 : Int32) = 0 then gs_bt 0 (gs_rI 0 m) else _) gs_th Kr = _
        rw [if_pos rfl, gs_bt0, gs_bI_s]
        exact h0 m
      rw [gs_ns, if_neg i10]
      exact ih (F + 1) F' (k + 1) A' B' c1' c2' E' ws' hs' kn' n8' wt' mn' mx' mr' c' v' p1 q1 (by omega) (by omega) (by omega) (by omega) (by omega) st1 ex1 ef1
theorem j_sort {Kx : gs_M → gs_O} {Kr : Int32 → gs_M → gs_O} (cx : gs_Cn X T S TR L by_ m0 r0) (st : gs_Sg S L m0 r0 A B c1 c2 E mx mr c v p q) (rl : gs_Rl A B c1 E n0 n1 n2 n3 n5 n6 n7 n8) (hc : c ≠ 34) (hn : n6 < 6) (h0 : ∀ m, Kr 0 m = gs_rI 0 m)
    (hBad : ∀ (A1 B1 : Nat → Nat → Int32) (c11 c21 E1 : Nat → Int32) (mx1 mr1 : gs_M) (c' v' p' q' : Nat), c' ≠ 36 → gs_Sg S L m0 r0 A1 B1 c11 c21 E1 mx1 mr1 c' v' p' q' → ∃ mx2, Kx mx1 = gs_th 0 (gs_gb mx2) ∧ gs_Wx (rsAf S) m0 mx2 ∧ mx2.2.1 1 9 = 1 ∧ mx2.2.1 1 10 = Int32.ofNat p')
    (hEnd : ∀ mx' mr', gs_Le S L m0 r0 p (inc 6) mx' mr' → gs_jQ S m0 r0 Q (Kx mx') (Kr 1 mr')) :
    gs_jQ S m0 r0 Q (gs_bU (gs_exec X (d + 5) 63 [.inr (.inr 1)] mx) gs_th Kx) (gs_bU (gs_exec X (d' + 5) 182 [.inr (.inr 116)] mr) gs_th (fun m => gs_bI (gs_exec X (d' + 5) 206 [.inr (.inr 116)] m) gs_th Kr)) := by
  have sx := st_sx cx st
  have pq := st_pq st hc
  have hX := cx.1
  obtain ⟨⟨⟨a0, a1, a2, a3, a5, a6, a7, a8⟩, ⟨b0, b1, b2, b3, b5, b6, b7, b8⟩, bd⟩, rR, rP, rB, rG, rC, rW, rK, rS, rU, u4, u43⟩ := rl
  have L8 : L ≤ 800 := cx.2.2.2.1.1
  have lb : Int32.ofNat n6 < (6 : Int32) ↔ n6 < 6 := gs_nlt (b := 6) (by omega) (by decide)
  have ax : mx.2.1 (S + 13) 3 = Int32.ofNat n6 := (st.2.2.1 13 3).trans a6
  rw [eq_X5_readSort]
  simp only [yf1 sx, y_11 sx, gs_nn_s, yt0 sx, y0_3 sx, yt13 sx, ax]
  rw [eq_X5_begin, if_pos (lb.mpr hn)]
  simp only [yf1 sx, y_18 sx, gs_nn_s, yf3 sx, bU_bU]
  refine jadv cx st (fun mx1 mr1 k1 v1 p1 q1 le1 st1 => ?_)
  have sx1 := st_sx cx st1
  have sr1 := st_sr cx st1
  have bx1 : mr1.2.1 120 6 = Int32.ofNat n6 := (st1.2.2.2.1 1 6).trans b6
  have eo : (6 : Int32) + Int32.ofNat n6 = Int32.ofNat (6 + n6) := n_add 6 n6
  rw [eq_X12_sortLine]
  simp only [gs_bU_s, yf1 sx1, y_11 sx1, gs_nn_s, yt0 sx1, y0_3 sx1, fl_116 sr1, sh_116_13 sr1, sh_116_28 sr1, r_ix sr1 (a := 120) (k := 6) (len := 9) (j := (6 : Int32)) rfl rfl rfl (by decide), bx1, eo, bU_bI, bI_bI]
  refine j_newName (o := 13) (o' := 14) (b := 15) (off := 6) (n := n6) cx st1 (fun k => yt13 sx1) (y13_0 sx1) (fun k hk K => yar sx1 14 13 6 (by decide) (by omega)) a6 (by omega) (by decide) (fun k hk K => gs_ixn sr1.1 rfl (show 6 + k < 12 by omega)) (by unfold rsVb upr; omega) (fun k hk => (rS.1 k hk).1) rfl rfl (fun m => ?_) (fun mx2 mr2 k2 v2 p2 q2 le2 st2 => ?_)
  · show gs_bI (if (0 : Int32) = 0 then gs_bt 0 (gs_rI 0 m) else _) gs_th Kr = _
    rw [if_pos rfl, gs_bt0, gs_bI_s]
    exact h0 m
  have sx2 := st_sx cx st2
  have sr2 := st_sr cx st2
  simp only [if_neg i10, yf1 sx2, fl_116 sr2, bU_bI, bI_bI]
  refine j_number (lo := 1) (hi := 99) cx st2 rfl rfl (by decide) (by decide) (fun m => ?_) (fun w3 mx3 mr3 k3 v3 p3 q3 l3 h3 le3 st3 => ?_)
  · show gs_bI (if (0 : Int32) = 0 then gs_bt 0 (gs_rI 0 m) else _) gs_th Kr = _
    rw [if_pos rfl, gs_bt0, gs_bI_s]
    exact h0 m
  have sx3 := st_sx cx st3
  have sr3 := st_sr cx st3
  have g3 := st_got st3
  have st4 : gs_Sg S L m0 r0 A (gs_up2 (gs_up2 B 15 (6 + n6) (Int32.ofNat v1)) 16 (6 + n6) (Int32.ofNat w3)) c1 c2 (upf E 11 (Int32.ofNat w3)) mx3 (gs_sI mr3 135 (6 + n6) (Int32.ofNat w3)) k3 v3 p3 q3 := st_wr (a := 16) (i := 6 + n6) (x := Int32.ofNat w3) st3 (by unfold rsVb upr; omega)
  have g8 : (gs_sI mr3 135 (6 + n6) (Int32.ofNat w3)).2.1 120 8 = Int32.ofNat n8 := (st4.2.2.2.1 1 8).trans b8
  have st5 : gs_Sg S L m0 r0 A (gs_up2 (gs_up2 (gs_up2 B 15 (6 + n6) (Int32.ofNat v1)) 16 (6 + n6) (Int32.ofNat w3)) 17 (6 + n6) (Int32.ofNat n8)) c1 c2 (upf E 11 (Int32.ofNat w3)) mx3 (gs_sI (gs_sI mr3 135 (6 + n6) (Int32.ofNat w3)) 136 (6 + n6) (Int32.ofNat n8)) k3 v3 p3 q3 := st_wr (a := 17) (i := 6 + n6) (x := Int32.ofNat n8) st4 (by unfold rsVb upr; omega)
  have i8 : ∀ K : Nat → gs_O, gs_ix mr3 120 13 (8 : Int32) K = K 8 := fun K => gs_ixn sr3.1 rfl (show 8 < 9 by decide)
  simp only [if_neg i10, yf1 sx3, fl_116 sr3, sh_116_29 sr3, sh_116_30 sr3, sh_116_13 sr3, gs_nn_s, gs_ixn sr3.1 (show gs_ok 135 13 153 = true from rfl) (show 6 + n6 < 12 by omega), gs_ixn sr3.1 (show gs_ok 136 13 153 = true from rfl) (show 6 + n6 < 12 by omega), i8, g3, g8, gs_fld_sI, gs_ix_sI, gs_sI22, gs_bt1, bI_bI]
  rw [eq_X12_sumRead]
  simp only [gs_fld_sI, fl_116 sr3, gs_bt1]
  have st6 := st_we (i := 45) (x := (1 : Int32)) (st_we (i := 44) (x := (1 : Int32)) (st_we (i := 42) (x := (0 : Int32)) (st_we (i := 41) (x := (0 : Int32)) (st_we (i := 40) (x := (0 : Int32)) (st_w1 (i := 6) (x := (1 : Int32)) cx (st_w1 (i := 5) (x := (1 : Int32)) cx (st_w1 (i := 3) (x := (0 : Int32)) cx (st_w1 (i := 2) (x := (0 : Int32)) cx st5)))) (by unfold rsVb upr; omega) (by omega)) (by unfold rsVb upr; omega) (by omega)) (by unfold rsVb upr; omega) (by omega)) (by unfold rsVb upr; omega) (by omega)) (by unfold rsVb upr; omega) (by omega)
  refine j_sloop (p := p) (f := n8) (A0 := A) (B0 := gs_up2 (gs_up2 (gs_up2 B 15 (6 + n6) (Int32.ofNat v1)) 16 (6 + n6) (Int32.ofNat w3)) 17 (6 + n6) (Int32.ofNat n8)) (c10 := c1) (E0 := E) cx (fun m => ?_) (fun A1 B1 c11 c21 E1 mx7 mr7 hs1 kn1 n81 mn1 c' v' p' q' hc' s7 ex7 ef7 => ?_) (fun A1 B1 c11 c21 E1 mx7 mr7 hs1 kn1 n81 mn1 v' p' q' hp7 s7 ex7 ef7 => ?_) 900 X.1 X.1 0 _ _ _ _ _ [] [] n8 n8 1 1 _ _ k3 v3 p3 q3 (by omega) (by unfold gs_Fu at hX; omega) (by unfold gs_Fu at hX; omega) (by omega) (by omega) st6 ⟨⟨rfl, rfl⟩, ⟨rfl, rfl, by decide⟩, ⟨u4, u43, by omega⟩, ⟨rfl, rfl, by decide⟩, ⟨rfl, rfl, by decide⟩, trivial, ⟨rfl, trivial, rfl⟩, rfl, ⟨a8, b8⟩, rK, Nat.le_refl _, by rw [Nat.sub_self]; rfl⟩ ⟨fun _ _ _ _ => rfl, fun _ _ _ _ _ _ _ => rfl, fun _ _ => rfl, fun _ _ => ⟨rfl, rfl, rfl⟩, rfl, rfl⟩
  · show gs_bI (if (0 : Int32) = 0 then gs_bt 0 (gs_rI 0 m) else _) gs_th Kr = _
    rw [if_pos rfl, gs_bt0, gs_bI_s]
    exact h0 m
  · have sx7 := st_sx cx s7
    have a13 : mx7.2.1 (S + 13) 3 = Int32.ofNat n6 := (s7.2.2.1 13 3).trans ((congrFun (ef7.1 13 (by decide) (by decide) (by decide)) 3).trans a6)
    rw [x_add13 sx7 a13 hn, gs_bU_s, gs_bU_s]
    exact hBad _ _ _ _ _ _ _ c' v' p' q' hc' (st_wx (a := 13) (i := 3) (x := Int32.ofNat (n6 + 1)) cx (st_wx (a := 16) (i := n6) (x := Int32.ofNat n81) cx (st_wx (a := 15) (i := n6) (x := Int32.ofNat w3) cx (st_wx (a := 14) (i := n6) (x := Int32.ofNat v1) cx s7 (by decide)) (by decide)) (by decide)) (by decide))
  · have sx7 := st_sx cx s7
    have sr7 := st_sr cx s7
    have a13 : mx7.2.1 (S + 13) 3 = Int32.ofNat n6 := (s7.2.2.1 13 3).trans ((congrFun (ef7.1 13 (by decide) (by decide) (by decide)) 3).trans a6)
    obtain ⟨-, -, ⟨k1', k2', k3'⟩, -, -, -, ⟨-, -, hlen⟩, hkk, ⟨x17, x18⟩, rk', hf, hw⟩ := ex7
    obtain ⟨f1, f2, f3, f4, f5, f6⟩ := ef7
    have g78 : mr7.2.1 120 8 = Int32.ofNat n81 := (s7.2.2.2.1 1 8).trans x18
    have i87 : ∀ K : Nat → gs_O, gs_ix mr7 120 13 (8 : Int32) K = K 8 := fun K => gs_ixn sr7.1 rfl (show 8 < 9 by decide)
    rw [x_add13 sx7 a13 hn, gs_bU_s, gs_bU_s]
    simp only [if_neg i10, fl_116 sr7, sh_116_31 sr7, sh_116_13 sr7, gs_nn_s, i87, gs_ixn sr7.1 (show gs_ok 137 13 153 = true from rfl) (show 6 + n6 < 12 by omega), g78, gs_bt1, gs_bI_s]
    have kn' : kn1 = n81 := hkk
    have h1l : hs1.length = 1 := hlen
    have nlt : n8 < n81 := by
      by_cases y : n8 < n81
      · exact y
      · have e : n81 = n8 := by omega
        rw [e, Nat.sub_self] at hw
        have : hs1 = [] := (Option.some.inj hw).symm
        rw [this] at h1l
        exact absurd h1l (by decide)
    have hs1e : hs1 = [n81 - 1] := by
      rw [show n81 - n8 = (n81 - n8 - 1) + 1 by omega] at hw
      obtain ⟨R, eR⟩ := wks_hd hw
      rw [eR] at h1l
      have : R = [] := List.length_eq_zero_iff.mp (by simpa using h1l)
      rw [eR, this, show n8 + (n81 - n8 - 1) = n81 - 1 by omega]
    have n64 : n81 ≤ 64 := by omega
    apply hEnd
    have s8 := st_wr (a := 18) (i := 6 + n6) (x := Int32.ofNat n81) (st_wx (a := 13) (i := 3) (x := Int32.ofNat (n6 + 1)) cx (st_wx (a := 16) (i := n6) (x := Int32.ofNat n81) cx (st_wx (a := 15) (i := n6) (x := Int32.ofNat w3) cx (st_wx (a := 14) (i := n6) (x := Int32.ofNat v1) cx s7 (by decide)) (by decide)) (by decide)) (by decide)) (by unfold rsVb upr; omega)
    refine ⟨_, _, _, _, _, _, _, _, _, n0, n1, n2, n3, n5, n6 + 1, n7, n81, hp7, s8, ?_⟩
    have hA : ∀ a, a ≠ 13 → a ≠ 14 → a ≠ 15 → a ≠ 16 → a ≠ 17 → a ≠ 18 → a ≠ 19 → gs_up2 (gs_up2 (gs_up2 (gs_up2 A1 14 n6 (Int32.ofNat v1)) 15 n6 (Int32.ofNat w3)) 16 n6 (Int32.ofNat n81)) 13 3 (Int32.ofNat (n6 + 1)) a = A a := fun a h1 h2 h3 h4 h5 h6 h7 => by rw [up2_row h1, up2_row h4, up2_row h3, up2_row h2]; exact f1 a h5 h6 h7
    have hB : ∀ b, b ≠ 1 → b ≠ 15 → b ≠ 16 → b ≠ 17 → b ≠ 18 → b ≠ 20 → b ≠ 21 → b ≠ 22 → b ≠ 23 → b ≠ 24 → inc 6 (gs_up2 B1 18 (6 + n6) (Int32.ofNat n81)) b = B b := fun b h1 h2 h3 h4 h5 h6 h7 h8 h9 h10 => by
      unfold inc
      rw [up2_row h1, up2_row h5, f2 b h1 h6 h7 h8 h9 h10, up2_row h4, up2_row h3, up2_row h2]
    have hB1 : ∀ k, k ≠ 6 → k ≠ 8 → inc 6 (gs_up2 B1 18 (6 + n6) (Int32.ofNat n81)) 1 k = B 1 k := fun k h1 h2 => by
      unfold inc
      rw [up2_n (Or.inr h1), up2_n (Or.inl (by decide)), f3 k h2]
      rfl
    have r15 : ∀ i, inc 6 (gs_up2 B1 18 (6 + n6) (Int32.ofNat n81)) 15 i = gs_up2 B 15 (6 + n6) (Int32.ofNat v1) 15 i := fun i => by
      unfold inc
      rw [up2_n (Or.inl (by decide)), up2_n (Or.inl (by decide)), f2 15 (by decide) (by decide) (by decide) (by decide) (by decide) (by decide), up2_row (by decide), up2_row (by decide)]
    have r16 : ∀ i, inc 6 (gs_up2 B1 18 (6 + n6) (Int32.ofNat n81)) 16 i = gs_up2 B 16 (6 + n6) (Int32.ofNat w3) 16 i := fun i => by
      unfold inc
      rw [up2_n (Or.inl (by decide)), up2_n (Or.inl (by decide)), f2 16 (by decide) (by decide) (by decide) (by decide) (by decide) (by decide), up2_row (by decide)]
      rfl
    have r17 : ∀ i, inc 6 (gs_up2 B1 18 (6 + n6) (Int32.ofNat n81)) 17 i = gs_up2 B 17 (6 + n6) (Int32.ofNat n8) 17 i := fun i => by
      unfold inc
      rw [up2_n (Or.inl (by decide)), up2_n (Or.inl (by decide)), f2 17 (by decide) (by decide) (by decide) (by decide) (by decide) (by decide)]
      rfl
    have r18 : ∀ i, inc 6 (gs_up2 B1 18 (6 + n6) (Int32.ofNat n81)) 18 i = gs_up2 B 18 (6 + n6) (Int32.ofNat n81) 18 i := fun i => by
      unfold inc
      rw [up2_n (Or.inl (by decide))]
      have e18 : B1 18 = B 18 := (f2 18 (by decide) (by decide) (by decide) (by decide) (by decide) (by decide)).trans rfl
      unfold gs_up2
      rw [e18]
    have r20 : ∀ b, b = 20 ∨ b = 21 ∨ b = 22 → inc 6 (gs_up2 B1 18 (6 + n6) (Int32.ofNat n81)) b = B1 b := fun b hb => by
      unfold inc
      rw [up2_row (by omega), up2_row (by omega)]
    have kBe : kB (inc 6 (gs_up2 B1 18 (6 + n6) (Int32.ofNat n81))) = kB B1 := by
      funext k
      unfold kB
      rw [r20 20 (by omega)]
    have pBe : pB (inc 6 (gs_up2 B1 18 (6 + n6) (Int32.ofNat n81))) = pB B1 := by
      funext k
      unfold pB
      rw [r20 21 (by omega)]
    have oBe : oB (inc 6 (gs_up2 B1 18 (6 + n6) (Int32.ofNat n81))) = oB B1 := by
      funext k
      unfold oB
      rw [r20 22 (by omega)]
    refine ⟨⟨⟨?_, ?_, ?_, ?_, ?_, ?_, ?_, ?_⟩, ⟨?_, ?_, ?_, ?_, ?_, ?_, ?_, ?_⟩, bd.1, bd.2.1, bd.2.2.1, bd.2.2.2.1, bd.2.2.2.2.1, by omega, bd.2.2.2.2.2.2.1, n64⟩, rRR_c rR (hA _ (by decide) (by decide) (by decide) (by decide) (by decide) (by decide) (by decide)) (hA _ (by decide) (by decide) (by decide) (by decide) (by decide) (by decide) (by decide)) (hA _ (by decide) (by decide) (by decide) (by decide) (by decide) (by decide) (by decide)) (hB _ (by decide) (by decide) (by decide) (by decide) (by decide) (by decide) (by decide) (by decide) (by decide) (by decide)) (hB _ (by decide) (by decide) (by decide) (by decide) (by decide) (by decide) (by decide) (by decide) (by decide) (by decide)) (hB _ (by decide) (by decide) (by decide) (by decide) (by decide) (by decide) (by decide) (by decide) (by decide) (by decide)), rRP_c rP (hA _ (by decide) (by decide) (by decide) (by decide) (by decide) (by decide) (by decide)) (hA _ (by decide) (by decide) (by decide) (by decide) (by decide) (by decide) (by decide)) (hA _ (by decide) (by decide) (by decide) (by decide) (by decide) (by decide) (by decide)) (hB _ (by decide) (by decide) (by decide) (by decide) (by decide) (by decide) (by decide) (by decide) (by decide) (by decide)) (hB _ (by decide) (by decide) (by decide) (by decide) (by decide) (by decide) (by decide) (by decide) (by decide) (by decide)) (hB _ (by decide) (by decide) (by decide) (by decide) (by decide) (by decide) (by decide) (by decide) (by decide) (by decide)), rRB_c rB (hA _ (by decide) (by decide) (by decide) (by decide) (by decide) (by decide) (by decide)) (hA _ (by decide) (by decide) (by decide) (by decide) (by decide) (by decide) (by decide)) (hB _ (by decide) (by decide) (by decide) (by decide) (by decide) (by decide) (by decide) (by decide) (by decide) (by decide)) (hB _ (by decide) (by decide) (by decide) (by decide) (by decide) (by decide) (by decide) (by decide) (by decide) (by decide)), rRG_c rG (fun g hg => hA _ (by omega) (by omega) (by omega) (by omega) (by omega) (by omega) (by omega)) (fun g i hg hi => ?_) (Nat.le_refl _) (Nat.le_refl _) (Nat.le_refl _), rRC_c rC (fun g hg => hA _ (by omega) (by omega) (by omega) (by omega) (by omega) (by omega) (by omega)) (fun g i hg hi => ?_), rRW_c rW (hA _ (by decide) (by decide) (by decide) (by decide) (by decide) (by decide) (by decide)) (hA _ (by decide) (by decide) (by decide) (by decide) (by decide) (by decide) (by decide)) (hA _ (by decide) (by decide) (by decide) (by decide) (by decide) (by decide) (by decide)) (hB _ (by decide) (by decide) (by decide) (by decide) (by decide) (by decide) (by decide) (by decide) (by decide) (by decide)), rRK_c rk' ?_ ?_ (r20 20 (by omega)) (r20 21 (by omega)) (r20 22 (by omega)), ⟨fun s hs' => ?_, fun h => absurd h (by omega), fun t ht => ?_⟩, rRU_c rU ?_ ?_ ?_ ?_ (hB _ (by decide) (by decide) (by decide) (by decide) (by decide) (by decide) (by decide) (by decide) (by decide) (by decide)) f5 f6, ?_, ?_⟩
    · rw [hA _ (by decide) (by decide) (by decide) (by decide) (by decide) (by decide) (by decide)]; exact a0
    · rw [hA _ (by decide) (by decide) (by decide) (by decide) (by decide) (by decide) (by decide)]; exact a1
    · rw [hA _ (by decide) (by decide) (by decide) (by decide) (by decide) (by decide) (by decide)]; exact a2
    · rw [hA _ (by decide) (by decide) (by decide) (by decide) (by decide) (by decide) (by decide)]; exact a3
    · rw [hA _ (by decide) (by decide) (by decide) (by decide) (by decide) (by decide) (by decide)]; exact a5
    · exact up2_e _ _ _ _
    · rw [hA _ (by decide) (by decide) (by decide) (by decide) (by decide) (by decide) (by decide)]; exact a7
    · exact x17
    · rw [hB1 _ (by decide) (by decide)]; exact b0
    · rw [hB1 _ (by decide) (by decide)]; exact b1
    · rw [hB1 _ (by decide) (by decide)]; exact b2
    · rw [hB1 _ (by decide) (by decide)]; exact b3
    · rw [hB1 _ (by decide) (by decide)]; exact b5
    · unfold inc
      rw [up2_e]
      exact n_s1 ((up2_n (Or.inl (by decide))).trans ((f3 6 (by decide)).trans b6))
    · rw [hB1 _ (by decide) (by decide)]; exact b7
    · unfold inc
      rw [up2_n (Or.inr (by decide)), up2_n (Or.inl (by decide))]
      exact x18
    · show inc 6 (gs_up2 B1 18 (6 + n6) (Int32.ofNat n81)) 13 _ = B 13 _
      rw [hB _ (by decide) (by decide) (by decide) (by decide) (by decide) (by decide) (by decide) (by decide) (by decide) (by decide)]
    · show inc 6 (gs_up2 B1 18 (6 + n6) (Int32.ofNat n81)) 14 _ = B 14 _
      rw [hB _ (by decide) (by decide) (by decide) (by decide) (by decide) (by decide) (by decide) (by decide) (by decide) (by decide)]
    · rw [up2_row (by decide), up2_row (by decide), up2_row (by decide), up2_row (by decide)]
    · rw [up2_row (by decide), up2_row (by decide), up2_row (by decide), up2_row (by decide)]
    · unfold rS1 sbB seB
      rw [kBe, pBe, oBe, r15, r16, r17, r18]
      by_cases e : s = n6
      · subst e
        have g1 : (Int32.ofNat n8).toInt.toNat = n8 := f_nat rfl (by omega)
        have g2 : (Int32.ofNat n81).toInt.toNat = n81 := f_nat rfl (by omega)
        rw [up2_e, up2_e, up2_e, up2_e, g1, g2]
        refine ⟨?_, ?_, ⟨w3, l3, h3, rfl⟩, ?_, rfl, rfl, nlt, Nat.le_refl _, fun h => rS.2.1 h, fun t ht => ?_, by rw [hw, hs1e]⟩
        · rw [up2_n (Or.inl (by decide)), up2_n (Or.inl (by decide)), up2_n (Or.inl (by decide)), up2_e]
        · rw [up2_n (Or.inl (by decide)), up2_n (Or.inl (by decide)), up2_e]
        · rw [up2_n (Or.inl (by decide)), up2_e]
        · rw [r18, up2_n (Or.inr (by omega))]
          exact (rS.2.2 t ht).symm
      · obtain ⟨s1, s2, s3, s4, s5, s6, s7', s8', s9, s10, s11⟩ := rS.1 s (by omega)
        have n1' : ∀ x y : Int32, ∀ b, gs_up2 B b (6 + n6) x b (6 + s) = B b (6 + s) := fun x y b => up2_n (Or.inr (by omega))
        rw [n1' _ 0 15, n1' _ 0 16, n1' _ 0 17, n1' _ 0 18]
        have eA : ∀ a, a = 14 ∨ a = 15 ∨ a = 16 → gs_up2 (gs_up2 (gs_up2 (gs_up2 A1 14 n6 (Int32.ofNat v1)) 15 n6 (Int32.ofNat w3)) 16 n6 (Int32.ofNat n81)) 13 3 (Int32.ofNat (n6 + 1)) a s = A a s := fun a ha => by
          rw [up2_n (Or.inl (by omega)), up2_n (Or.inr e), up2_n (Or.inr e), up2_n (Or.inr e)]
          exact congrFun (f1 a (by omega) (by omega) (by omega)) s
        rw [eA 14 (by omega), eA 15 (by omega), eA 16 (by omega)]
        refine ⟨s1, s2, s3, s4, s5, s6, s7', Nat.le_trans s8' (Nat.le_of_lt nlt), s9, fun t ht => ?_, ?_⟩
        · rw [r18, up2_n (Or.inr (by omega))]
          exact s10 t ht
        · rw [gs_wks_c _ (fun i h1 h2 => ?_)]
          · exact s11
          · have s7'' : (B 17 (6 + s)).toInt.toNat < (B 18 (6 + s)).toInt.toNat := s7'
            have s8'' : (B 18 (6 + s)).toInt.toNat ≤ n8 := s8'
            have hi : i < n8 := by omega
            obtain ⟨q1, q2, q3⟩ := f4 i hi
            unfold kB pB oB
            rw [q1, q2, q3]
            exact ⟨rfl, rfl, rfl⟩
    · unfold seB
      have et : t = n6 := by omega
      rw [et, r18, up2_e]
      exact f_nat rfl (by omega)
    · rw [hA _ (by decide) (by decide) (by decide) (by decide) (by decide) (by decide) (by decide)]
    · rw [hA _ (by decide) (by decide) (by decide) (by decide) (by decide) (by decide) (by decide)]
    · rw [hA _ (by decide) (by decide) (by decide) (by decide) (by decide) (by decide) (by decide)]
    · rw [hA _ (by decide) (by decide) (by decide) (by decide) (by decide) (by decide) (by decide)]
    · rw [← kn']
      exact k1'
    · rw [← kn']
      exact k2'
end SO
