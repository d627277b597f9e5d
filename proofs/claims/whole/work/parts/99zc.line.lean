/-! A line is read by both sides. -/
theorem no_line : ∀ c, c < 32 → (¬ (c = 0 ∨ c = 1 ∨ c = 2 ∨ c = 4 ∨ c = 5 ∨ c = 13 ∨ c = 17 ∨ c = 18 ∨ c = 19 ∨ c = 20 ∨ c = 21 ∨ c = 22) → (11 : Int32) < Int32.ofNat (pmo c)) := by decide +kernel
section JL
variable {X : gs_E} {d d' T S TR L : Nat} {by_ : Nat → Nat} {m0 r0 mx mr : gs_M} {A B : Nat → Nat → Int32} {c1 c2 E : Nat → Int32} {c v p q n0 n1 n2 n3 n5 n6 n7 n8 : Nat} {Q : gs_M → gs_M → Prop}
theorem r_strip (cx : gs_Cn X T S TR L by_ m0 r0) (st : gs_Sg S L m0 r0 A B c1 c2 E mx mr c v p q) (K : gs_M → gs_O) : gs_bU (gs_exec X (d' + 2) 182 [.inr (.inr 116)] mr) gs_th (fun m1 => gs_fld m1 116 11 (K m1)) = gs_bU (gs_exec X (d' + 2) 182 [.inr (.inr 116)] mr) gs_th K := by
  obtain ⟨mx', mr', c', v', p', q', e1, e2, le, s⟩ := st_adv (d := 0) (d' := d') cx st
  rw [e2]
  exact fl_116 (st_sr cx s)
theorem j_line {Kx : gs_M → gs_O} {Kr : Int32 → gs_M → gs_O} (cx : gs_Cn X T S TR L by_ m0 r0) (st : gs_Sg S L m0 r0 A B c1 c2 E mx mr c v p q) (rl : gs_Rl A B c1 E n0 n1 n2 n3 n5 n6 n7 n8) (hc34 : c ≠ 34) (h0 : ∀ m, Kr 0 m = gs_rI 0 m)
    (hk : ∀ (A' B' : Nat → Nat → Int32) (c1' c2' E' : Nat → Int32) (n0' n1' n2' n3' n5' n6' n7' n8' : Nat) (mx' mr' : gs_M) (c' v' p' q' : Nat), p < p' → gs_Sg S L m0 r0 A' B' c1' c2' E' mx' mr' c' v' p' q' → gs_Rl A' B' c1' E' n0' n1' n2' n3' n5' n6' n7' n8' → gs_jQ S m0 r0 Q (Kx mx') (Kr 1 mr')) :
    gs_jQ S m0 r0 Q (gs_bU (gs_exec X (d + 7) 49 [.inr (.inr 1)] mx) gs_th (fun m2 => gs_fld m2 1 5 (gs_bU (gs_exec X (d + 7) 44 [.inr (.inr 1), .inl (36 : Int32)] m2) gs_th Kx))) (gs_bI (gs_exec X (d' + 9) 209 [.inr (.inr 116)] mr) gs_th Kr) := by
  have sx := st_sx cx st
  have sr := st_sr cx st
  have t := st.2.2.2.2.2.2.2
  have hc := t.1
  have q5 : mx.2.1 3 5 = Int32.ofNat c := t.2.1
  have q8 : mr.2.1 116 8 = Int32.ofNat (rk c) := t.2.2.2.2.2.2.1
  have q9 : c < 32 → mr.2.1 116 9 = Int32.ofNat (pmo c) := fun h => (t.2.2.2.2.2.2.2.1 (by omega) (by omega)).trans (by rw [rvl_k h])
  have hX := cx.1
  obtain ⟨F, hF⟩ : ∃ F, X.1 = F + 1 + 1 := ⟨X.1 - 2, by unfold gs_Fu at hX; omega⟩
  have rl0 := rl
  obtain ⟨⟨⟨a0, a1, a2, a3, a5, a6, a7, a8⟩, ⟨b0, b1', b2', b3, b5, b6, b7, b8⟩, bd⟩, -, -, -, -, -, -, -, -, rU, -, -⟩ := rl
  have mo : ∀ k, k < 9 → mr.2.1 121 k = Int32.ofNat (mst k) := fun k hk => (st.2.1.2.2 121 k (fun y => by unfold rsVb upr at y; omega)).trans (cx.2.2.2.2.2.2.2 k hk)
  have aft : ∀ (kk w F : Nat) (mx' mr' : gs_M), w < 8 → kk < 9 → gs_Le S L m0 r0 p (inc kk) mx' mr' → gs_jQ S m0 r0 Q (gs_fld mx' 1 5 (gs_bU (gs_exec X (d + 7) 44 [.inr (.inr 1), .inl (36 : Int32)] mx') gs_th Kx)) (gs_bI (gs_iter X (gs_exec X (d' + 8)) gT_X12_lineRead (F + 1) 227 [(0, .inr (.inr 116)), (1, .inl (Int32.ofNat w)), (2, .inl (Int32.ofNat kk)), (3, .inl (1 : Int32))] [] mr') gs_th Kr) := by
    intro kk w F mx' mr' hw hkk ⟨A', B', c1', c2', E', c', v', p', q', m0', m1', m2', m3', m5', m6', m7', m8', hp, st', rl'⟩
    have sx' := st_sx cx st'
    have sr' := st_sr cx st'
    have e : mr'.2.1 120 kk = B' 1 kk := st'.2.2.2.1 1 kk
    have lw : Int32.ofNat w < (8 : Int32) := (gs_nlt (b := 8) (by omega) (by decide)).mpr hw
    have st2 := st_wr (a := 1) (i := kk) (x := B' 1 kk + 1) st' (by unfold rsVb upr; omega)
    rw [eq_X12_lineRead_227, if_neg i10, if_pos lw]
    simp only [yf1 sx', fl_116 sr', sh_116_13 sr', gs_nn_s, gs_ixn sr'.1 (show gs_ok 120 13 153 = true from rfl) (show kk < 9 from hkk), e, gs_fld_sI]
    exact j_semi cx st2 h0 (fun mx2 mr2 c2 v2 p2 q2 hp2 s2 => hk _ _ _ _ _ _ _ _ _ _ _ _ _ mx2 mr2 c2 v2 p2 q2 (by omega) s2 rl')
  have aft2 : ∀ (w F : Nat) (mx' mr' : gs_M), 8 ≤ w → w < 100 → gs_Le S L m0 r0 p (fun B => B) mx' mr' → gs_jQ S m0 r0 Q (gs_fld mx' 1 5 (gs_bU (gs_exec X (d + 7) 44 [.inr (.inr 1), .inl (36 : Int32)] mx') gs_th Kx)) (gs_bI (gs_iter X (gs_exec X (d' + 8)) gT_X12_lineRead (F + 1) 227 [(0, .inr (.inr 116)), (1, .inl (Int32.ofNat w)), (2, .inl (Int32.ofNat w)), (3, .inl (1 : Int32))] [] mr') gs_th Kr) := by
    intro w F mx' mr' hw hw' ⟨A', B', c1', c2', E', c', v', p', q', m0', m1', m2', m3', m5', m6', m7', m8', hp, st', rl'⟩
    have sx' := st_sx cx st'
    have sr' := st_sr cx st'
    have lw : ¬ Int32.ofNat w < (8 : Int32) := fun y => by have := (gs_nlt (b := 8) (by omega) (by decide)).mp y; omega
    rw [eq_X12_lineRead_227, if_neg i10, if_neg lw]
    simp only [yf1 sx', fl_116 sr']
    exact j_semi cx st' h0 (fun mx2 mr2 c2 v2 p2 q2 hp2 s2 => hk _ _ _ _ _ _ _ _ _ _ _ _ _ mx2 mr2 c2 v2 p2 q2 (by omega) s2 rl')
  have k0 : ∀ (F : Nat) (u1 u2 : Int32) (m : gs_M), gs_bI (gs_iter X (gs_exec X (d' + 8)) gT_X12_lineRead (F + 1) 227 [(0, .inr (.inr 116)), (1, .inl u1), (2, .inl u2), (3, .inl (0 : Int32))] [] m) gs_th Kr = gs_rI 0 m := fun F u1 u2 m => by
    rw [eq_X12_lineRead_227, if_pos rfl, gs_bt0, gs_bI_s]
    exact h0 m
  rw [eq_X5_readLine, eq_X12_lineRead]
  simp only [yf1 sx, y_18 sx, gs_nn_s, yf3 sx, q5, fl_116 sr, sh_116_13 sr, sh_116_14 sr, q8]
  by_cases z0 : c = 0
  · subst z0
    have g9 := q9 (by decide)
    rw [show pmo 0 = 0 from rfl] at g9
    have bx : mr.2.1 120 0 = Int32.ofNat n0 := (st.2.2.2.1 1 0).trans b0
    have mx' : mr.2.1 121 0 = Int32.ofNat 8 := mo 0 (by decide)
    have ax : mx.2.1 (S + 1) 3 = Int32.ofNat n0 := (st.2.2.1 1 3).trans a0
    have en : Int32.ofNat n0 = Int32.ofNat 8 ↔ n0 = 8 := n_eq (by omega) (by decide)
    rw [if_pos (show Int32.ofNat 0 = (0 : Int32) by decide), if_pos (show Int32.ofNat (rk 0) = (1 : Int32) by decide), g9, if_neg (show ¬ (11 : Int32) < Int32.ofNat 0 by decide), if_neg (show ¬ Int32.ofNat 0 = (4 : Int32) by decide), if_pos (show Int32.ofNat 0 < (8 : Int32) by decide)]
    simp only [gs_ixn sr.1 (show gs_ok 120 13 153 = true from rfl) (show 0 < 9 by decide), gs_ixn sr.1 (show gs_ok 121 13 153 = true from rfl) (show 0 < 9 by decide), bx, mx']
    by_cases y : n0 = 8
    · rw [if_pos (en.mpr y), bI_bI, eq_X5_readReign]
      simp only [yf1 sx, y_11 sx, gs_nn_s, yt0 sx, y0_0 sx, yt1 sx, ax]
      have lb : ¬ Int32.ofNat n0 < (8 : Int32) := fun w => by have := (gs_nlt (b := 8) (by omega) (by decide)).mp w; omega
      rw [eq_X5_begin, if_neg lb]
      simp only [yf1 sx, bU_bU]
      exact jfail cx st h0
    · rw [if_neg (fun w => y (en.mp w)), hF, eq_X12_lineRead_66, if_pos (show Int32.ofNat 0 < (8 : Int32) by decide), fl_116 sr]
      simp only [if_pos (show Int32.ofNat 0 = (0 : Int32) by decide), ite_true]
      rw [r_strip (d' := d' + 6) cx st, bI_bU]
      simp only [bU_bU, bI_bI, gs_bU_s]
      have key := jQ_bind (Kx := fun m2 => gs_fld m2 1 5 (gs_bU (gs_exec X (d + 7) 44 [.inr (.inr 1), .inl (36 : Int32)] m2) gs_th Kx)) (Kr := fun x m => gs_bI (gs_iter X (gs_exec X (d' + 8)) gT_X12_lineRead (F + 1) 227 [(0, .inr (.inr 116)), (1, .inl (Int32.ofNat 0)), (2, .inl (Int32.ofNat 0)), (3, .inl x)] [] m) gs_th Kr) (j_reign (X := X) (d := d + 1) (d' := d' + 4) cx st rl0 (by decide) (by omega)) (fun m => k0 F _ _ m) (fun mx1 mr1 h1 => aft 0 0 F mx1 mr1 (by decide) (by decide) h1)
      rw [bI_bU] at key
      exact key
  by_cases z1 : c = 1
  · subst z1
    have g9 := q9 (by decide)
    rw [show pmo 1 = 1 from rfl] at g9
    have bx : mr.2.1 120 1 = Int32.ofNat n1 := (st.2.2.2.1 1 1).trans b1'
    have mx' : mr.2.1 121 1 = Int32.ofNat 10 := mo 1 (by decide)
    have ax : mx.2.1 (S + 5) 3 = Int32.ofNat n1 := (st.2.2.1 5 3).trans a1
    have en : Int32.ofNat n1 = Int32.ofNat 10 ↔ n1 = 10 := n_eq (by omega) (by decide)
    rw [if_neg (show ¬ Int32.ofNat 1 = (0 : Int32) by decide), if_pos (show Int32.ofNat 1 = (1 : Int32) by decide), if_pos (show Int32.ofNat (rk 1) = (1 : Int32) by decide), g9, if_neg (show ¬ (11 : Int32) < Int32.ofNat 1 by decide), if_neg (show ¬ Int32.ofNat 1 = (4 : Int32) by decide), if_pos (show Int32.ofNat 1 < (8 : Int32) by decide)]
    simp only [gs_ixn sr.1 (show gs_ok 120 13 153 = true from rfl) (show 1 < 9 by decide), gs_ixn sr.1 (show gs_ok 121 13 153 = true from rfl) (show 1 < 9 by decide), bx, mx']
    by_cases y : n1 = 10
    · rw [if_pos (en.mpr y), bI_bI, eq_X5_readGate]
      simp only [yf1 sx, y_11 sx, gs_nn_s, yt0 sx, y0_1 sx, yt5 sx, ax]
      have lb : ¬ Int32.ofNat n1 < (10 : Int32) := fun w => by have := (gs_nlt (b := 10) (by omega) (by decide)).mp w; omega
      rw [eq_X5_begin, if_neg lb]
      simp only [yf1 sx, bU_bU]
      exact jfail cx st h0
    · rw [if_neg (fun w => y (en.mp w)), hF, eq_X12_lineRead_66, if_pos (show Int32.ofNat 1 < (8 : Int32) by decide), fl_116 sr]
      simp only [if_neg (show ¬ Int32.ofNat 1 = (0 : Int32) by decide), if_pos (show Int32.ofNat 1 = (1 : Int32) by decide), ite_true]
      rw [r_strip (d' := d' + 6) cx st, bI_bU]
      simp only [bU_bU, bI_bI, gs_bU_s]
      have key := jQ_bind (Kx := fun m2 => gs_fld m2 1 5 (gs_bU (gs_exec X (d + 7) 44 [.inr (.inr 1), .inl (36 : Int32)] m2) gs_th Kx)) (Kr := fun x m => gs_bI (gs_iter X (gs_exec X (d' + 8)) gT_X12_lineRead (F + 1) 227 [(0, .inr (.inr 116)), (1, .inl (Int32.ofNat 1)), (2, .inl (Int32.ofNat 1)), (3, .inl x)] [] m) gs_th Kr) (j_gate (X := X) (d := d + 1) (d' := d' + 4) cx st rl0 (by decide) (by omega)) (fun m => k0 F _ _ m) (fun mx1 mr1 h1 => aft 1 1 F mx1 mr1 (by decide) (by decide) h1)
      rw [bI_bU] at key
      exact key
  by_cases z2 : c = 2
  · subst z2
    have g9 := q9 (by decide)
    rw [show pmo 2 = 2 from rfl] at g9
    have bx : mr.2.1 120 2 = Int32.ofNat n2 := (st.2.2.2.1 1 2).trans b2'
    have mx' : mr.2.1 121 2 = Int32.ofNat 8 := mo 2 (by decide)
    have ax : mx.2.1 (S + 9) 3 = Int32.ofNat n2 := (st.2.2.1 9 3).trans a2
    have en : Int32.ofNat n2 = Int32.ofNat 8 ↔ n2 = 8 := n_eq (by omega) (by decide)
    rw [if_neg (show ¬ Int32.ofNat 2 = (0 : Int32) by decide), if_neg (show ¬ Int32.ofNat 2 = (1 : Int32) by decide), if_pos (show Int32.ofNat 2 = (2 : Int32) by decide), if_pos (show Int32.ofNat (rk 2) = (1 : Int32) by decide), g9, if_neg (show ¬ (11 : Int32) < Int32.ofNat 2 by decide), if_neg (show ¬ Int32.ofNat 2 = (4 : Int32) by decide), if_pos (show Int32.ofNat 2 < (8 : Int32) by decide)]
    simp only [gs_ixn sr.1 (show gs_ok 120 13 153 = true from rfl) (show 2 < 9 by decide), gs_ixn sr.1 (show gs_ok 121 13 153 = true from rfl) (show 2 < 9 by decide), bx, mx']
    by_cases y : n2 = 8
    · rw [if_pos (en.mpr y), bI_bI, eq_X5_readBook]
      simp only [yf1 sx, y_11 sx, gs_nn_s, yt0 sx, y0_2 sx, yt9 sx, ax]
      have lb : ¬ Int32.ofNat n2 < (8 : Int32) := fun w => by have := (gs_nlt (b := 8) (by omega) (by decide)).mp w; omega
      rw [eq_X5_begin, if_neg lb]
      simp only [yf1 sx, bU_bU]
      exact jfail cx st h0
    · rw [if_neg (fun w => y (en.mp w)), hF, eq_X12_lineRead_66, if_pos (show Int32.ofNat 2 < (8 : Int32) by decide), fl_116 sr]
      simp only [if_neg (show ¬ Int32.ofNat 2 = (0 : Int32) by decide), if_neg (show ¬ Int32.ofNat 2 = (1 : Int32) by decide), if_pos (show Int32.ofNat 2 = (2 : Int32) by decide), ite_true]
      rw [r_strip (d' := d' + 6) cx st, bI_bU]
      simp only [bU_bU, bI_bI, gs_bU_s]
      have key := jQ_bind (Kx := fun m2 => gs_fld m2 1 5 (gs_bU (gs_exec X (d + 7) 44 [.inr (.inr 1), .inl (36 : Int32)] m2) gs_th Kx)) (Kr := fun x m => gs_bI (gs_iter X (gs_exec X (d' + 8)) gT_X12_lineRead (F + 1) 227 [(0, .inr (.inr 116)), (1, .inl (Int32.ofNat 2)), (2, .inl (Int32.ofNat 2)), (3, .inl x)] [] m) gs_th Kr) (j_book (X := X) (d := d + 1) (d' := d' + 4) cx st rl0 (by decide) (by omega)) (fun m => k0 F _ _ m) (fun mx1 mr1 h1 => aft 2 2 F mx1 mr1 (by decide) (by decide) h1)
      rw [bI_bU] at key
      exact key
  by_cases z4 : c = 4
  · subst z4
    have g9 := q9 (by decide)
    rw [show pmo 4 = 3 from rfl] at g9
    have bx : mr.2.1 120 3 = Int32.ofNat n3 := (st.2.2.2.1 1 3).trans b3
    have mx' : mr.2.1 121 3 = Int32.ofNat 12 := mo 3 (by decide)
    have ax : mx.2.1 S 8 = Int32.ofNat n3 := (st.2.2.1 0 8).trans a3
    have en : Int32.ofNat n3 = Int32.ofNat 12 ↔ n3 = 12 := n_eq (by omega) (by decide)
    rw [if_neg (show ¬ Int32.ofNat 4 = (0 : Int32) by decide), if_neg (show ¬ Int32.ofNat 4 = (1 : Int32) by decide), if_neg (show ¬ Int32.ofNat 4 = (2 : Int32) by decide), if_pos (show Int32.ofNat 4 = (4 : Int32) by decide), if_pos (show Int32.ofNat (rk 4) = (1 : Int32) by decide), g9, if_neg (show ¬ (11 : Int32) < Int32.ofNat 3 by decide), if_neg (show ¬ Int32.ofNat 3 = (4 : Int32) by decide), if_pos (show Int32.ofNat 3 < (8 : Int32) by decide)]
    simp only [gs_ixn sr.1 (show gs_ok 120 13 153 = true from rfl) (show 3 < 9 by decide), gs_ixn sr.1 (show gs_ok 121 13 153 = true from rfl) (show 3 < 9 by decide), bx, mx']
    by_cases y : n3 = 12
    · rw [if_pos (en.mpr y), bI_bI, eq_X5_startGuest]
      simp only [yf1 sx, y_11 sx, gs_nn_s, yt0 sx, ax]
      have lb : ¬ Int32.ofNat n3 < (12 : Int32) := fun w => by have := (gs_nlt (b := 12) (by omega) (by decide)).mp w; omega
      rw [eq_X5_begin, if_neg lb]
      simp only [yf1 sx, bU_bU]
      exact jfail cx st h0
    · rw [if_neg (fun w => y (en.mp w)), hF, eq_X12_lineRead_66, if_pos (show Int32.ofNat 3 < (8 : Int32) by decide), fl_116 sr]
      simp only [if_neg (show ¬ Int32.ofNat 3 = (0 : Int32) by decide), if_neg (show ¬ Int32.ofNat 3 = (1 : Int32) by decide), if_neg (show ¬ Int32.ofNat 3 = (2 : Int32) by decide), if_pos (show Int32.ofNat 3 = (3 : Int32) by decide), ite_true]
      rw [r_strip (d' := d' + 6) cx st, bI_bU]
      simp only [bI_bI]
      have key := jQ_bind (Kx := fun m2 => gs_fld m2 1 5 (gs_bU (gs_exec X (d + 7) 44 [.inr (.inr 1), .inl (36 : Int32)] m2) gs_th Kx)) (Kr := fun x m => gs_bI (gs_iter X (gs_exec X (d' + 8)) gT_X12_lineRead (F + 1) 227 [(0, .inr (.inr 116)), (1, .inl (Int32.ofNat 3)), (2, .inl (Int32.ofNat 3)), (3, .inl x)] [] m) gs_th Kr) (j_guest (X := X) (d := d + 1) (d' := d' + 1) cx st rl0 (by decide) (by omega)) (fun m => k0 F _ _ m) (fun mx1 mr1 h1 => aft 3 3 F mx1 mr1 (by decide) (by decide) h1)
      rw [bI_bU] at key
      exact key
  by_cases z5 : c = 5
  · subst z5
    have g9 := q9 (by decide)
    rw [show pmo 5 = 4 from rfl] at g9
    have bx : mr.2.1 120 3 = Int32.ofNat n3 := (st.2.2.2.1 1 3).trans b3
    have mx' : mr.2.1 121 3 = Int32.ofNat 12 := mo 3 (by decide)
    have ax : mx.2.1 S 8 = Int32.ofNat n3 := (st.2.2.1 0 8).trans a3
    have en : Int32.ofNat n3 = Int32.ofNat 12 ↔ n3 = 12 := n_eq (by omega) (by decide)
    rw [if_neg (show ¬ Int32.ofNat 5 = (0 : Int32) by decide), if_neg (show ¬ Int32.ofNat 5 = (1 : Int32) by decide), if_neg (show ¬ Int32.ofNat 5 = (2 : Int32) by decide), if_neg (show ¬ Int32.ofNat 5 = (4 : Int32) by decide), if_pos (show Int32.ofNat 5 = (5 : Int32) by decide), if_pos (show Int32.ofNat (rk 5) = (1 : Int32) by decide), g9, if_neg (show ¬ (11 : Int32) < Int32.ofNat 4 by decide), if_pos (show Int32.ofNat 4 = (4 : Int32) by decide), if_pos (show Int32.ofNat 4 < (8 : Int32) by decide)]
    simp only [r_ix sr (a := 120) (k := 3) (len := 9) (j := (3 : Int32)) rfl rfl rfl (by decide), r_ix sr (a := 121) (k := 3) (len := 9) (j := (3 : Int32)) rfl rfl rfl (by decide), bx, mx']
    by_cases y : n3 = 12
    · rw [if_pos (en.mpr y), bI_bI, eq_X5_startRock]
      simp only [yf1 sx, y_11 sx, gs_nn_s, yt0 sx, ax]
      have lb : ¬ Int32.ofNat n3 < (12 : Int32) := fun w => by have := (gs_nlt (b := 12) (by omega) (by decide)).mp w; omega
      rw [eq_X5_begin, if_neg lb]
      simp only [yf1 sx, bU_bU]
      exact jfail cx st h0
    · rw [if_neg (fun w => y (en.mp w)), hF, eq_X12_lineRead_66, if_pos (show Int32.ofNat 4 < (8 : Int32) by decide), fl_116 sr]
      simp only [if_neg (show ¬ Int32.ofNat 4 = (0 : Int32) by decide), if_neg (show ¬ Int32.ofNat 4 = (1 : Int32) by decide), if_neg (show ¬ Int32.ofNat 4 = (2 : Int32) by decide), if_neg (show ¬ Int32.ofNat 4 = (3 : Int32) by decide), if_pos (show Int32.ofNat 4 = (4 : Int32) by decide), ite_true]
      rw [r_strip (d' := d' + 6) cx st, bI_bU]
      simp only [bI_bI]
      have key := jQ_bind (Kx := fun m2 => gs_fld m2 1 5 (gs_bU (gs_exec X (d + 7) 44 [.inr (.inr 1), .inl (36 : Int32)] m2) gs_th Kx)) (Kr := fun x m => gs_bI (gs_iter X (gs_exec X (d' + 8)) gT_X12_lineRead (F + 1) 227 [(0, .inr (.inr 116)), (1, .inl (Int32.ofNat 4)), (2, .inl ((3 : Int32))), (3, .inl x)] [] m) gs_th Kr) (j_rock (X := X) (d := d + 1) (d' := d' + 1) cx st rl0 (by decide) (by omega)) (fun m => k0 F _ _ m) (fun mx1 mr1 h1 => aft 3 4 F mx1 mr1 (by decide) (by decide) h1)
      rw [bI_bU] at key
      exact key
  by_cases z13 : c = 13
  · subst z13
    have g9 := q9 (by decide)
    rw [show pmo 13 = 5 from rfl] at g9
    have bx : mr.2.1 120 5 = Int32.ofNat n5 := (st.2.2.2.1 1 5).trans b5
    have mx' : mr.2.1 121 5 = Int32.ofNat 10 := mo 5 (by decide)
    have ax : mx.2.1 S 9 = Int32.ofNat n5 := (st.2.2.1 0 9).trans a5
    have en : Int32.ofNat n5 = Int32.ofNat 10 ↔ n5 = 10 := n_eq (by omega) (by decide)
    rw [if_neg (show ¬ Int32.ofNat 13 = (0 : Int32) by decide), if_neg (show ¬ Int32.ofNat 13 = (1 : Int32) by decide), if_neg (show ¬ Int32.ofNat 13 = (2 : Int32) by decide), if_neg (show ¬ Int32.ofNat 13 = (4 : Int32) by decide), if_neg (show ¬ Int32.ofNat 13 = (5 : Int32) by decide), if_pos (show Int32.ofNat 13 = (13 : Int32) by decide), if_pos (show Int32.ofNat (rk 13) = (1 : Int32) by decide), g9, if_neg (show ¬ (11 : Int32) < Int32.ofNat 5 by decide), if_neg (show ¬ Int32.ofNat 5 = (4 : Int32) by decide), if_pos (show Int32.ofNat 5 < (8 : Int32) by decide)]
    simp only [gs_ixn sr.1 (show gs_ok 120 13 153 = true from rfl) (show 5 < 9 by decide), gs_ixn sr.1 (show gs_ok 121 13 153 = true from rfl) (show 5 < 9 by decide), bx, mx']
    by_cases y : n5 = 10
    · rw [if_pos (en.mpr y), bI_bI, eq_X5_readCloud]
      simp only [yf1 sx, y_11 sx, gs_nn_s, yt0 sx, ax]
      have lb : ¬ Int32.ofNat n5 < (10 : Int32) := fun w => by have := (gs_nlt (b := 10) (by omega) (by decide)).mp w; omega
      rw [eq_X5_begin, if_neg lb]
      simp only [yf1 sx, bU_bU]
      exact jfail cx st h0
    · rw [if_neg (fun w => y (en.mp w)), hF, eq_X12_lineRead_66, if_pos (show Int32.ofNat 5 < (8 : Int32) by decide), fl_116 sr]
      simp only [if_neg (show ¬ Int32.ofNat 5 = (0 : Int32) by decide), if_neg (show ¬ Int32.ofNat 5 = (1 : Int32) by decide), if_neg (show ¬ Int32.ofNat 5 = (2 : Int32) by decide), if_neg (show ¬ Int32.ofNat 5 = (3 : Int32) by decide), if_neg (show ¬ Int32.ofNat 5 = (4 : Int32) by decide), if_pos (show Int32.ofNat 5 = (5 : Int32) by decide), ite_true]
      rw [r_strip (d' := d' + 6) cx st, bI_bU]
      simp only [bU_bU, bI_bI, gs_bU_s]
      have key := jQ_bind (Kx := fun m2 => gs_fld m2 1 5 (gs_bU (gs_exec X (d + 7) 44 [.inr (.inr 1), .inl (36 : Int32)] m2) gs_th Kx)) (Kr := fun x m => gs_bI (gs_iter X (gs_exec X (d' + 8)) gT_X12_lineRead (F + 1) 227 [(0, .inr (.inr 116)), (1, .inl (Int32.ofNat 5)), (2, .inl (Int32.ofNat 5)), (3, .inl x)] [] m) gs_th Kr) (j_cloud (X := X) (d := d + 1) (d' := d' + 4) cx st rl0 (by decide) (by omega)) (fun m => k0 F _ _ m) (fun mx1 mr1 h1 => aft 5 5 F mx1 mr1 (by decide) (by decide) h1)
      rw [bI_bU] at key
      exact key
  by_cases z17 : c = 17
  · subst z17
    have g9 := q9 (by decide)
    rw [show pmo 17 = 6 from rfl] at g9
    have bx : mr.2.1 120 6 = Int32.ofNat n6 := (st.2.2.2.1 1 6).trans b6
    have mx' : mr.2.1 121 6 = Int32.ofNat 6 := mo 6 (by decide)
    have ax : mx.2.1 (S + 13) 3 = Int32.ofNat n6 := (st.2.2.1 13 3).trans a6
    have en : Int32.ofNat n6 = Int32.ofNat 6 ↔ n6 = 6 := n_eq (by omega) (by decide)
    rw [if_neg (show ¬ Int32.ofNat 17 = (0 : Int32) by decide), if_neg (show ¬ Int32.ofNat 17 = (1 : Int32) by decide), if_neg (show ¬ Int32.ofNat 17 = (2 : Int32) by decide), if_neg (show ¬ Int32.ofNat 17 = (4 : Int32) by decide), if_neg (show ¬ Int32.ofNat 17 = (5 : Int32) by decide), if_neg (show ¬ Int32.ofNat 17 = (13 : Int32) by decide), if_pos (show Int32.ofNat 17 = (17 : Int32) by decide), if_pos (show Int32.ofNat (rk 17) = (1 : Int32) by decide), g9, if_neg (show ¬ (11 : Int32) < Int32.ofNat 6 by decide), if_neg (show ¬ Int32.ofNat 6 = (4 : Int32) by decide), if_pos (show Int32.ofNat 6 < (8 : Int32) by decide)]
    simp only [gs_ixn sr.1 (show gs_ok 120 13 153 = true from rfl) (show 6 < 9 by decide), gs_ixn sr.1 (show gs_ok 121 13 153 = true from rfl) (show 6 < 9 by decide), bx, mx']
    by_cases y : n6 = 6
    · rw [if_pos (en.mpr y), bI_bI, eq_X5_readSort]
      simp only [yf1 sx, y_11 sx, gs_nn_s, yt0 sx, y0_3 sx, yt13 sx, ax]
      have lb : ¬ Int32.ofNat n6 < (6 : Int32) := fun w => by have := (gs_nlt (b := 6) (by omega) (by decide)).mp w; omega
      rw [eq_X5_begin, if_neg lb]
      simp only [yf1 sx, bU_bU]
      exact jfail cx st h0
    · rw [if_neg (fun w => y (en.mp w)), hF, eq_X12_lineRead_66, if_pos (show Int32.ofNat 6 < (8 : Int32) by decide), fl_116 sr]
      simp only [if_neg (show ¬ Int32.ofNat 6 = (0 : Int32) by decide), if_neg (show ¬ Int32.ofNat 6 = (1 : Int32) by decide), if_neg (show ¬ Int32.ofNat 6 = (2 : Int32) by decide), if_neg (show ¬ Int32.ofNat 6 = (3 : Int32) by decide), if_neg (show ¬ Int32.ofNat 6 = (4 : Int32) by decide), if_neg (show ¬ Int32.ofNat 6 = (5 : Int32) by decide), if_pos (show Int32.ofNat 6 = (6 : Int32) by decide), ite_true]
      rw [r_strip (d' := d' + 6) cx st, bI_bU]
      simp only [bU_bU, bI_bI, gs_bU_s]
      exact j_sort (d := d + 1) (d' := d' + 3) cx st rl0 (by decide) (by omega) (fun m => k0 F _ _ m) (fun A1 B1 c11 c21 E1 mx1 mr1 c' v' p' q' hc' s1 => x_semiF cx s1 hc') (fun mx1 mr1 h1 => aft 6 6 F mx1 mr1 (by decide) (by decide) h1)
  by_cases z18 : c = 18
  · subst z18
    have g9 := q9 (by decide)
    rw [show pmo 18 = 7 from rfl] at g9
    have bx : mr.2.1 120 7 = Int32.ofNat n7 := (st.2.2.2.1 1 7).trans b7
    have mx' : mr.2.1 121 7 = Int32.ofNat 6 := mo 7 (by decide)
    have ax : mx.2.1 (S + 21) 3 = Int32.ofNat n7 := (st.2.2.1 21 3).trans a7
    have en : Int32.ofNat n7 = Int32.ofNat 6 ↔ n7 = 6 := n_eq (by omega) (by decide)
    rw [if_neg (show ¬ Int32.ofNat 18 = (0 : Int32) by decide), if_neg (show ¬ Int32.ofNat 18 = (1 : Int32) by decide), if_neg (show ¬ Int32.ofNat 18 = (2 : Int32) by decide), if_neg (show ¬ Int32.ofNat 18 = (4 : Int32) by decide), if_neg (show ¬ Int32.ofNat 18 = (5 : Int32) by decide), if_neg (show ¬ Int32.ofNat 18 = (13 : Int32) by decide), if_neg (show ¬ Int32.ofNat 18 = (17 : Int32) by decide), if_pos (show Int32.ofNat 18 = (18 : Int32) by decide), if_pos (show Int32.ofNat (rk 18) = (1 : Int32) by decide), g9, if_neg (show ¬ (11 : Int32) < Int32.ofNat 7 by decide), if_neg (show ¬ Int32.ofNat 7 = (4 : Int32) by decide), if_pos (show Int32.ofNat 7 < (8 : Int32) by decide)]
    simp only [gs_ixn sr.1 (show gs_ok 120 13 153 = true from rfl) (show 7 < 9 by decide), gs_ixn sr.1 (show gs_ok 121 13 153 = true from rfl) (show 7 < 9 by decide), bx, mx']
    by_cases y : n7 = 6
    · rw [if_pos (en.mpr y), bI_bI, eq_X5_readWatch]
      simp only [yf1 sx, y_11 sx, gs_nn_s, yt0 sx, y0_5 sx, yt21 sx, ax]
      have lb : ¬ Int32.ofNat n7 < (6 : Int32) := fun w => by have := (gs_nlt (b := 6) (by omega) (by decide)).mp w; omega
      rw [eq_X5_begin, if_neg lb]
      simp only [yf1 sx, bU_bU]
      exact jfail cx st h0
    · rw [if_neg (fun w => y (en.mp w)), hF, eq_X12_lineRead_66, if_pos (show Int32.ofNat 7 < (8 : Int32) by decide), fl_116 sr]
      simp only [if_neg (show ¬ Int32.ofNat 7 = (0 : Int32) by decide), if_neg (show ¬ Int32.ofNat 7 = (1 : Int32) by decide), if_neg (show ¬ Int32.ofNat 7 = (2 : Int32) by decide), if_neg (show ¬ Int32.ofNat 7 = (3 : Int32) by decide), if_neg (show ¬ Int32.ofNat 7 = (4 : Int32) by decide), if_neg (show ¬ Int32.ofNat 7 = (5 : Int32) by decide), if_neg (show ¬ Int32.ofNat 7 = (6 : Int32) by decide), if_pos (show Int32.ofNat 7 = (7 : Int32) by decide), ite_true]
      rw [r_strip (d' := d' + 6) cx st, bI_bU]
      simp only [bU_bU, bI_bI, gs_bU_s]
      have key := jQ_bind (Kx := fun m2 => gs_fld m2 1 5 (gs_bU (gs_exec X (d + 7) 44 [.inr (.inr 1), .inl (36 : Int32)] m2) gs_th Kx)) (Kr := fun x m => gs_bI (gs_iter X (gs_exec X (d' + 8)) gT_X12_lineRead (F + 1) 227 [(0, .inr (.inr 116)), (1, .inl (Int32.ofNat 7)), (2, .inl (Int32.ofNat 7)), (3, .inl x)] [] m) gs_th Kr) (j_watch (X := X) (d := d + 1) (d' := d' + 4) cx st rl0 (by decide) (by omega)) (fun m => k0 F _ _ m) (fun mx1 mr1 h1 => aft 7 7 F mx1 mr1 (by decide) (by decide) h1)
      rw [bI_bU] at key
      exact key
  by_cases z19 : c = 19
  · subst z19
    have g9 := q9 (by decide)
    rw [show pmo 19 = 8 from rfl] at g9
    obtain ⟨-, -, -, -, s, hs, u7, u17⟩ := rU
    have g17 : mr.2.1 116 17 = Int32.ofNat (s * 256) := (st.2.2.2.2.2.2.1 17 (by decide)).trans u17
    have d2 := set2 0 (by decide) s hs
    have d3 := set3 0 (by decide) s hs
    rw [if_neg (show ¬ Int32.ofNat 19 = (0 : Int32) by decide), if_neg (show ¬ Int32.ofNat 19 = (1 : Int32) by decide), if_neg (show ¬ Int32.ofNat 19 = (2 : Int32) by decide), if_neg (show ¬ Int32.ofNat 19 = (4 : Int32) by decide), if_neg (show ¬ Int32.ofNat 19 = (5 : Int32) by decide), if_neg (show ¬ Int32.ofNat 19 = (13 : Int32) by decide), if_neg (show ¬ Int32.ofNat 19 = (17 : Int32) by decide), if_neg (show ¬ Int32.ofNat 19 = (18 : Int32) by decide), if_pos (show Int32.ofNat 19 = (19 : Int32) by decide), if_pos (show Int32.ofNat (rk 19) = (1 : Int32) by decide), g9, if_neg (show ¬ (11 : Int32) < Int32.ofNat 8 by decide), if_neg (show ¬ Int32.ofNat 8 = (4 : Int32) by decide), if_neg (show ¬ Int32.ofNat 8 < (8 : Int32) by decide), hF, eq_X12_lineRead_66, if_neg (show ¬ Int32.ofNat 8 < (8 : Int32) by decide), fl_116 sr, g17, eq_X12_isOf]
    simp only [y_11 sx, gs_nn_s]
    by_cases tb : b1 s 0 = 0
    · obtain ⟨d4, d5, d6⟩ := d3 tb
      have st1 : gs_Sg S L m0 r0 A B c1 c2 (upf E 17 (Int32.ofNat ((s + 2 ^ 0) * 256))) mx (gs_sI mr 116 17 (Int32.ofNat ((s + 2 ^ 0) * 256))) 19 v p q := st_we st (by unfold rsVb upr; omega) (by omega)
      rw [if_neg (fun w => (d2.mp w) tb), gs_bt0, gs_bI_s, if_pos rfl, fl_116 sr, fl_116 sr, g17, d5]
      simp only [gs_fld_sI, fl_116 sr, if_neg (show ¬ Int32.ofNat 8 = (0 : Int32) by decide), if_neg (show ¬ Int32.ofNat 8 = (1 : Int32) by decide), if_neg (show ¬ Int32.ofNat 8 = (2 : Int32) by decide), if_neg (show ¬ Int32.ofNat 8 = (3 : Int32) by decide), if_neg (show ¬ Int32.ofNat 8 = (4 : Int32) by decide), if_neg (show ¬ Int32.ofNat 8 = (5 : Int32) by decide), if_neg (show ¬ Int32.ofNat 8 = (6 : Int32) by decide), if_neg (show ¬ Int32.ofNat 8 = (7 : Int32) by decide), show Int32.ofNat 8 - (8 : Int32) = Int32.ofNat 0 from rfl]
      rw [r_strip (d' := d' + 6) cx st1, bI_bU]
      simp only [bI_bI]
      exact j_set (i := 0) (s := s) (d := d + 1) (d' := d' + 4) cx st rl0 (by decide) rfl rfl hs u7 tb (fun m => k0 F _ _ m) (fun mx1 mr1 h1 => aft2 8 F mx1 mr1 (by decide) (by decide) h1)
    · rw [if_pos (d2.mpr tb), gs_bt1, gs_bI_s, if_neg i10, fl_116 sr, bI_bI]
      refine j_set2 (i := 0) (s := s) (d := d + 1) (d' := d' + 4) cx st (by decide) rfl hs u7 tb (fun m => ?_)
      exact h0 m
  by_cases z20 : c = 20
  · subst z20
    have g9 := q9 (by decide)
    rw [show pmo 20 = 9 from rfl] at g9
    obtain ⟨-, -, -, -, s, hs, u7, u17⟩ := rU
    have g17 : mr.2.1 116 17 = Int32.ofNat (s * 256) := (st.2.2.2.2.2.2.1 17 (by decide)).trans u17
    have d2 := set2 1 (by decide) s hs
    have d3 := set3 1 (by decide) s hs
    rw [if_neg (show ¬ Int32.ofNat 20 = (0 : Int32) by decide), if_neg (show ¬ Int32.ofNat 20 = (1 : Int32) by decide), if_neg (show ¬ Int32.ofNat 20 = (2 : Int32) by decide), if_neg (show ¬ Int32.ofNat 20 = (4 : Int32) by decide), if_neg (show ¬ Int32.ofNat 20 = (5 : Int32) by decide), if_neg (show ¬ Int32.ofNat 20 = (13 : Int32) by decide), if_neg (show ¬ Int32.ofNat 20 = (17 : Int32) by decide), if_neg (show ¬ Int32.ofNat 20 = (18 : Int32) by decide), if_neg (show ¬ Int32.ofNat 20 = (19 : Int32) by decide), if_pos (show Int32.ofNat 20 = (20 : Int32) by decide), if_pos (show Int32.ofNat (rk 20) = (1 : Int32) by decide), g9, if_neg (show ¬ (11 : Int32) < Int32.ofNat 9 by decide), if_neg (show ¬ Int32.ofNat 9 = (4 : Int32) by decide), if_neg (show ¬ Int32.ofNat 9 < (8 : Int32) by decide), hF, eq_X12_lineRead_66, if_neg (show ¬ Int32.ofNat 9 < (8 : Int32) by decide), fl_116 sr, g17, eq_X12_isOf]
    simp only [y_11 sx, gs_nn_s]
    by_cases tb : b1 s 1 = 0
    · obtain ⟨d4, d5, d6⟩ := d3 tb
      have st1 : gs_Sg S L m0 r0 A B c1 c2 (upf E 17 (Int32.ofNat ((s + 2 ^ 1) * 256))) mx (gs_sI mr 116 17 (Int32.ofNat ((s + 2 ^ 1) * 256))) 20 v p q := st_we st (by unfold rsVb upr; omega) (by omega)
      rw [if_neg (fun w => (d2.mp w) tb), gs_bt0, gs_bI_s, if_pos rfl, fl_116 sr, fl_116 sr, g17, d5]
      simp only [gs_fld_sI, fl_116 sr, if_neg (show ¬ Int32.ofNat 9 = (0 : Int32) by decide), if_neg (show ¬ Int32.ofNat 9 = (1 : Int32) by decide), if_neg (show ¬ Int32.ofNat 9 = (2 : Int32) by decide), if_neg (show ¬ Int32.ofNat 9 = (3 : Int32) by decide), if_neg (show ¬ Int32.ofNat 9 = (4 : Int32) by decide), if_neg (show ¬ Int32.ofNat 9 = (5 : Int32) by decide), if_neg (show ¬ Int32.ofNat 9 = (6 : Int32) by decide), if_neg (show ¬ Int32.ofNat 9 = (7 : Int32) by decide), show Int32.ofNat 9 - (8 : Int32) = Int32.ofNat 1 from rfl]
      rw [r_strip (d' := d' + 6) cx st1, bI_bU]
      simp only [bI_bI]
      exact j_set (i := 1) (s := s) (d := d + 1) (d' := d' + 4) cx st rl0 (by decide) rfl rfl hs u7 tb (fun m => k0 F _ _ m) (fun mx1 mr1 h1 => aft2 9 F mx1 mr1 (by decide) (by decide) h1)
    · rw [if_pos (d2.mpr tb), gs_bt1, gs_bI_s, if_neg i10, fl_116 sr, bI_bI]
      refine j_set2 (i := 1) (s := s) (d := d + 1) (d' := d' + 4) cx st (by decide) rfl hs u7 tb (fun m => ?_)
      exact h0 m
  by_cases z21 : c = 21
  · subst z21
    have g9 := q9 (by decide)
    rw [show pmo 21 = 10 from rfl] at g9
    obtain ⟨-, -, -, -, s, hs, u7, u17⟩ := rU
    have g17 : mr.2.1 116 17 = Int32.ofNat (s * 256) := (st.2.2.2.2.2.2.1 17 (by decide)).trans u17
    have d2 := set2 2 (by decide) s hs
    have d3 := set3 2 (by decide) s hs
    rw [if_neg (show ¬ Int32.ofNat 21 = (0 : Int32) by decide), if_neg (show ¬ Int32.ofNat 21 = (1 : Int32) by decide), if_neg (show ¬ Int32.ofNat 21 = (2 : Int32) by decide), if_neg (show ¬ Int32.ofNat 21 = (4 : Int32) by decide), if_neg (show ¬ Int32.ofNat 21 = (5 : Int32) by decide), if_neg (show ¬ Int32.ofNat 21 = (13 : Int32) by decide), if_neg (show ¬ Int32.ofNat 21 = (17 : Int32) by decide), if_neg (show ¬ Int32.ofNat 21 = (18 : Int32) by decide), if_neg (show ¬ Int32.ofNat 21 = (19 : Int32) by decide), if_neg (show ¬ Int32.ofNat 21 = (20 : Int32) by decide), if_pos (show Int32.ofNat 21 = (21 : Int32) by decide), if_pos (show Int32.ofNat (rk 21) = (1 : Int32) by decide), g9, if_neg (show ¬ (11 : Int32) < Int32.ofNat 10 by decide), if_neg (show ¬ Int32.ofNat 10 = (4 : Int32) by decide), if_neg (show ¬ Int32.ofNat 10 < (8 : Int32) by decide), hF, eq_X12_lineRead_66, if_neg (show ¬ Int32.ofNat 10 < (8 : Int32) by decide), fl_116 sr, g17, eq_X12_isOf]
    simp only [y_11 sx, gs_nn_s]
    by_cases tb : b1 s 2 = 0
    · obtain ⟨d4, d5, d6⟩ := d3 tb
      have st1 : gs_Sg S L m0 r0 A B c1 c2 (upf E 17 (Int32.ofNat ((s + 2 ^ 2) * 256))) mx (gs_sI mr 116 17 (Int32.ofNat ((s + 2 ^ 2) * 256))) 21 v p q := st_we st (by unfold rsVb upr; omega) (by omega)
      rw [if_neg (fun w => (d2.mp w) tb), gs_bt0, gs_bI_s, if_pos rfl, fl_116 sr, fl_116 sr, g17, d5]
      simp only [gs_fld_sI, fl_116 sr, if_neg (show ¬ Int32.ofNat 10 = (0 : Int32) by decide), if_neg (show ¬ Int32.ofNat 10 = (1 : Int32) by decide), if_neg (show ¬ Int32.ofNat 10 = (2 : Int32) by decide), if_neg (show ¬ Int32.ofNat 10 = (3 : Int32) by decide), if_neg (show ¬ Int32.ofNat 10 = (4 : Int32) by decide), if_neg (show ¬ Int32.ofNat 10 = (5 : Int32) by decide), if_neg (show ¬ Int32.ofNat 10 = (6 : Int32) by decide), if_neg (show ¬ Int32.ofNat 10 = (7 : Int32) by decide), show Int32.ofNat 10 - (8 : Int32) = Int32.ofNat 2 from rfl]
      rw [r_strip (d' := d' + 6) cx st1, bI_bU]
      simp only [bI_bI]
      exact j_set (i := 2) (s := s) (d := d + 1) (d' := d' + 4) cx st rl0 (by decide) rfl rfl hs u7 tb (fun m => k0 F _ _ m) (fun mx1 mr1 h1 => aft2 10 F mx1 mr1 (by decide) (by decide) h1)
    · rw [if_pos (d2.mpr tb), gs_bt1, gs_bI_s, if_neg i10, fl_116 sr, bI_bI]
      refine j_set2 (i := 2) (s := s) (d := d + 1) (d' := d' + 4) cx st (by decide) rfl hs u7 tb (fun m => ?_)
      exact h0 m
  by_cases z22 : c = 22
  · subst z22
    have g9 := q9 (by decide)
    rw [show pmo 22 = 11 from rfl] at g9
    obtain ⟨-, -, -, -, s, hs, u7, u17⟩ := rU
    have g17 : mr.2.1 116 17 = Int32.ofNat (s * 256) := (st.2.2.2.2.2.2.1 17 (by decide)).trans u17
    have d2 := set2 3 (by decide) s hs
    have d3 := set3 3 (by decide) s hs
    rw [if_neg (show ¬ Int32.ofNat 22 = (0 : Int32) by decide), if_neg (show ¬ Int32.ofNat 22 = (1 : Int32) by decide), if_neg (show ¬ Int32.ofNat 22 = (2 : Int32) by decide), if_neg (show ¬ Int32.ofNat 22 = (4 : Int32) by decide), if_neg (show ¬ Int32.ofNat 22 = (5 : Int32) by decide), if_neg (show ¬ Int32.ofNat 22 = (13 : Int32) by decide), if_neg (show ¬ Int32.ofNat 22 = (17 : Int32) by decide), if_neg (show ¬ Int32.ofNat 22 = (18 : Int32) by decide), if_neg (show ¬ Int32.ofNat 22 = (19 : Int32) by decide), if_neg (show ¬ Int32.ofNat 22 = (20 : Int32) by decide), if_neg (show ¬ Int32.ofNat 22 = (21 : Int32) by decide), if_pos (show Int32.ofNat 22 = (22 : Int32) by decide), if_pos (show Int32.ofNat (rk 22) = (1 : Int32) by decide), g9, if_neg (show ¬ (11 : Int32) < Int32.ofNat 11 by decide), if_neg (show ¬ Int32.ofNat 11 = (4 : Int32) by decide), if_neg (show ¬ Int32.ofNat 11 < (8 : Int32) by decide), hF, eq_X12_lineRead_66, if_neg (show ¬ Int32.ofNat 11 < (8 : Int32) by decide), fl_116 sr, g17, eq_X12_isOf]
    simp only [y_11 sx, gs_nn_s]
    by_cases tb : b1 s 3 = 0
    · obtain ⟨d4, d5, d6⟩ := d3 tb
      have st1 : gs_Sg S L m0 r0 A B c1 c2 (upf E 17 (Int32.ofNat ((s + 2 ^ 3) * 256))) mx (gs_sI mr 116 17 (Int32.ofNat ((s + 2 ^ 3) * 256))) 22 v p q := st_we st (by unfold rsVb upr; omega) (by omega)
      rw [if_neg (fun w => (d2.mp w) tb), gs_bt0, gs_bI_s, if_pos rfl, fl_116 sr, fl_116 sr, g17, d5]
      simp only [gs_fld_sI, fl_116 sr, if_neg (show ¬ Int32.ofNat 11 = (0 : Int32) by decide), if_neg (show ¬ Int32.ofNat 11 = (1 : Int32) by decide), if_neg (show ¬ Int32.ofNat 11 = (2 : Int32) by decide), if_neg (show ¬ Int32.ofNat 11 = (3 : Int32) by decide), if_neg (show ¬ Int32.ofNat 11 = (4 : Int32) by decide), if_neg (show ¬ Int32.ofNat 11 = (5 : Int32) by decide), if_neg (show ¬ Int32.ofNat 11 = (6 : Int32) by decide), if_neg (show ¬ Int32.ofNat 11 = (7 : Int32) by decide), show Int32.ofNat 11 - (8 : Int32) = Int32.ofNat 3 from rfl]
      rw [r_strip (d' := d' + 6) cx st1, bI_bU]
      simp only [bI_bI]
      exact j_set (i := 3) (s := s) (d := d + 1) (d' := d' + 4) cx st rl0 (by decide) rfl rfl hs u7 tb (fun m => k0 F _ _ m) (fun mx1 mr1 h1 => aft2 11 F mx1 mr1 (by decide) (by decide) h1)
    · rw [if_pos (d2.mpr tb), gs_bt1, gs_bI_s, if_neg i10, fl_116 sr, bI_bI]
      refine j_set2 (i := 3) (s := s) (d := d + 1) (d' := d' + 4) cx st (by decide) rfl hs u7 tb (fun m => ?_)
      exact h0 m
  rw [if_neg (show ¬ Int32.ofNat c = (0 : Int32) from fun w => z0 ((n_eq (b := 0) (by omega) (by decide)).mp w)), if_neg (show ¬ Int32.ofNat c = (1 : Int32) from fun w => z1 ((n_eq (b := 1) (by omega) (by decide)).mp w)), if_neg (show ¬ Int32.ofNat c = (2 : Int32) from fun w => z2 ((n_eq (b := 2) (by omega) (by decide)).mp w)), if_neg (show ¬ Int32.ofNat c = (4 : Int32) from fun w => z4 ((n_eq (b := 4) (by omega) (by decide)).mp w)), if_neg (show ¬ Int32.ofNat c = (5 : Int32) from fun w => z5 ((n_eq (b := 5) (by omega) (by decide)).mp w)), if_neg (show ¬ Int32.ofNat c = (13 : Int32) from fun w => z13 ((n_eq (b := 13) (by omega) (by decide)).mp w)), if_neg (show ¬ Int32.ofNat c = (17 : Int32) from fun w => z17 ((n_eq (b := 17) (by omega) (by decide)).mp w)), if_neg (show ¬ Int32.ofNat c = (18 : Int32) from fun w => z18 ((n_eq (b := 18) (by omega) (by decide)).mp w)), if_neg (show ¬ Int32.ofNat c = (19 : Int32) from fun w => z19 ((n_eq (b := 19) (by omega) (by decide)).mp w)), if_neg (show ¬ Int32.ofNat c = (20 : Int32) from fun w => z20 ((n_eq (b := 20) (by omega) (by decide)).mp w)), if_neg (show ¬ Int32.ofNat c = (21 : Int32) from fun w => z21 ((n_eq (b := 21) (by omega) (by decide)).mp w)), if_neg (show ¬ Int32.ofNat c = (22 : Int32) from fun w => z22 ((n_eq (b := 22) (by omega) (by decide)).mp w)), bU_bU]
  have fin : gs_jQ S m0 r0 Q (gs_bU (gs_exec X (d + 6) 43 [.inr (.inr 1), .inl (1 : Int32)] mx) gs_th (fun m => gs_bU (gs_rU m) gs_th (fun m2 => gs_fld m2 1 5 (gs_bU (gs_exec X (d + 7) 44 [.inr (.inr 1), .inl (36 : Int32)] m2) gs_th Kx)))) (gs_bI (gs_bI (gs_exec X (d' + 8) 178 [.inr (.inr 116), .inl (1 : Int32)] mr) gs_th (fun x16 m15 => gs_bt x16 (gs_rI x16 m15))) gs_th Kr) := by
    rw [bI_bI]
    exact jfail cx st h0
  have e1 : Int32.ofNat (rk c) = (1 : Int32) ↔ rk c = 1 := n_eq (b := 1) (by have := rk_lt c hc; omega) (by decide)
  by_cases y : c < 32
  · rw [if_pos (e1.mpr ((rk1 c hc).mpr y)), q9 y, if_pos (no_line c y (by omega))]
    exact fin
  · rw [if_neg (fun w => y ((rk1 c hc).mp (e1.mp w)))]
    exact fin
end JL
