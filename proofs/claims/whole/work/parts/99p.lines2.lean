/-! Lines of watches, books and settings. -/
section LN2
variable {X : gs_E} {d d' T S TR L : Nat} {by_ : Nat → Nat} {m0 r0 mx mr : gs_M} {A B : Nat → Nat → Int32} {c1 c2 E : Nat → Int32} {c v p q n0 n1 n2 n3 n5 n6 n7 n8 : Nat}
theorem j_watch (cx : gs_Cn X T S TR L by_ m0 r0) (st : gs_Sg S L m0 r0 A B c1 c2 E mx mr c v p q) (rl : gs_Rl A B c1 E n0 n1 n2 n3 n5 n6 n7 n8) (hc : c ≠ 34) (hn : n7 < 6) : gs_jQ S m0 r0 (gs_Le S L m0 r0 p (inc 7)) (gs_exec X (d + 5) 55 [.inr (.inr 1)] mx) (gs_bU (gs_exec X (d' + 4) 182 [.inr (.inr 116)] mr) gs_th (fun m => gs_exec X (d' + 4) 207 [.inr (.inr 116)] m)) := by
  have sx := st_sx cx st
  have pq := st_pq st hc
  obtain ⟨⟨⟨a0, a1, a2, a3, a5, a6, a7, a8⟩, ⟨b0, b1, b2, b3, b5, b6, b7, b8⟩, bd⟩, rR, rP, rB, rG, rC, rW, rK, rS, rU, u4, u43⟩ := rl
  have lb : Int32.ofNat n7 < (6 : Int32) ↔ n7 < 6 := gs_nlt (b := 6) (by omega) (by decide)
  have ax : mx.2.1 (S + 21) 3 = Int32.ofNat n7 := (st.2.2.1 21 3).trans a7
  rw [eq_X5_readWatch]
  simp only [yf1 sx, y_11 sx, gs_nn_s, yt0 sx, y0_5 sx, yt21 sx, ax]
  rw [eq_X5_begin, if_pos (lb.mpr hn)]
  simp only [yf1 sx, y_18 sx, gs_nn_s, yf3 sx, bU_bU]
  refine jadv cx st (fun mx1 mr1 k1 v1 p1 q1 le1 st1 => ?_)
  have sx1 := st_sx cx st1
  have sr1 := st_sr cx st1
  have bx1 : mr1.2.1 120 7 = Int32.ofNat n7 := (st1.2.2.2.1 1 7).trans b7
  have eo : (18 : Int32) + (3 : Int32) * Int32.ofNat n7 = Int32.ofNat (18 + 3 * n7) := by
    show Int32.ofNat 18 + Int32.ofNat 3 * Int32.ofNat n7 = _
    rw [n_mul, n_add]
  have eo2 : Int32.ofNat (18 + 3 * n7) + (2 : Int32) = Int32.ofNat (18 + 3 * n7 + 2) := n_add _ 2
  rw [eq_X12_watchLine]
  simp only [gs_bU_s, yf1 sx1, fl_116 sr1, sh_116_13 sr1, gs_nn_s, r_ix sr1 (a := 120) (k := 7) (len := 9) (j := (7 : Int32)) rfl rfl rfl (by decide), bx1, eo, gs_ns, eo2]
  refine j_number (lo := 0) (hi := 1999) cx st1 rfl rfl (by decide) (by decide) (fun m => kr0) (fun w2 mx2 mr2 k2 v2 p2 q2 l2 h2 le2 st2 => ?_)
  have sx2 := st_sx cx st2
  have sr2 := st_sr cx st2
  have g2 := st_got st2
  have st3 := st_wr (a := 19) (i := 18 + 3 * n7) (x := Int32.ofNat w2) st2 (by unfold rsVb upr; omega)
  have g3 : (gs_sI mr2 138 (18 + 3 * n7) (Int32.ofNat w2)).2.1 116 11 = Int32.ofNat w2 := st_got st3
  simp only [if_neg i10, yf1 sx2, fl_116 sr2, sh_116_32 sr2, gs_nn_s, gs_ixn sr2.1 (show gs_ok 138 13 153 = true from rfl) (show 18 + 3 * n7 < 36 by omega), g2, gs_fld_sI, g3]
  refine j_number (lo := w2) (hi := 1999) cx st3 rfl rfl (by omega) (by decide) (fun m => kr0) (fun w4 mx4 mr4 k4 v4 p4 q4 l4 h4 le4 st4 => ?_)
  have sx4 := st_sx cx st4
  have sr4 := st_sr cx st4
  have g4 := st_got st4
  have st5 := st_wr (a := 19) (i := 18 + 3 * n7 + 1) (x := Int32.ofNat w4) st4 (by unfold rsVb upr; omega)
  simp only [if_neg i10, yf1 sx4, fl_116 sr4, sh_116_32 sr4, gs_nn_s, gs_ixn sr4.1 (show gs_ok 138 13 153 = true from rfl) (show 18 + 3 * n7 + 1 < 36 by omega), g4, gs_fld_sI]
  refine j_number (lo := 1) (hi := 10) cx st5 rfl rfl (by decide) (by decide) (fun m => kr0) (fun w6 mx6 mr6 k6 v6 p6 q6 l6 h6 le6 st6 => ?_)
  have sx6 := st_sx cx st6
  have sr6 := st_sr cx st6
  have g6 := st_got st6
  have ax6 : mx6.2.1 (S + 21) 3 = Int32.ofNat n7 := (st6.2.2.1 21 3).trans a7
  have st7 := st_wx (a := 21) (i := 3) (x := Int32.ofNat (n7 + 1)) cx (st_wx (a := 24) (i := n7) (x := Int32.ofNat w6) cx (st_wx (a := 23) (i := n7) (x := Int32.ofNat w4) cx (st_wx (a := 22) (i := n7) (x := Int32.ofNat w2) cx (st_wr (a := 19) (i := 18 + 3 * n7 + 2) (x := Int32.ofNat w6) st6 (by unfold rsVb upr; omega)) (by decide)) (by decide)) (by decide)) (by decide)
  simp only [if_neg i10, yf1 sx6, y_11 sx6, yt0 sx6, y0_5 sx6, yt21 sx6, fl_116 sr6, sh_116_32 sr6, gs_nn_s, gs_ixn sr6.1 (show gs_ok 138 13 153 = true from rfl) (show 18 + 3 * n7 + 2 < 36 by omega), g6, gs_bt1, x_add21 sx6 ax6 hn, gs_bU_s]
  refine Or.inr ⟨_, _, rfl, rfl, _, _, _, _, _, _, _, _, _, n0, n1, n2, n3, n5, n6, n7 + 1, n8, ?_, st7, ⟨⟨a0, a1, a2, a3, a5, a6, up2_e _ _ _ _, a8⟩, ⟨b0, b1, b2, b3, b5, b6, (up2_e _ _ _ _).trans (n_s1 b7), b8⟩, bd.1, bd.2.1, bd.2.2.1, bd.2.2.2.1, bd.2.2.2.2.1, bd.2.2.2.2.2.1, by omega, bd.2.2.2.2.2.2.2⟩, rR, rP, rB, rRG_c rG (fun g hg => ?_) (fun g i hg hi => rfl) (Nat.le_refl _) (Nat.le_refl _) (Nat.le_refl _), rRC_c rC (fun g hg => ?_) (fun g i hg hi => rfl), ?_, rK, rS, rU, u4, u43⟩
  · omega
  · rw [up2_row (by omega), up2_row (by omega), up2_row (by omega), up2_row (by omega)]
  · rw [up2_row (by omega), up2_row (by omega), up2_row (by omega), up2_row (by omega)]
  · intro k hk
    by_cases e : k = n7
    · subst e
      refine ⟨by simp [gs_up2], by simp [gs_up2], by simp [gs_up2], ⟨w6, by omega, by simp [gs_up2]⟩⟩
    · have h := rW k (by omega)
      have e0 : ¬ 18 + 3 * k = 18 + 3 * n7 := by omega
      have e1 : ¬ 18 + 3 * k = 18 + 3 * n7 + 1 := by omega
      have e2 : ¬ 18 + 3 * k = 18 + 3 * n7 + 2 := by omega
      have e3 : ¬ 18 + 3 * k + 1 = 18 + 3 * n7 := by omega
      have e4 : ¬ 18 + 3 * k + 1 = 18 + 3 * n7 + 1 := by omega
      have e5 : ¬ 18 + 3 * k + 1 = 18 + 3 * n7 + 2 := by omega
      have e6 : ¬ 18 + 3 * k + 2 = 18 + 3 * n7 := by omega
      have e7 : ¬ 18 + 3 * k + 2 = 18 + 3 * n7 + 1 := by omega
      have e8 : ¬ 18 + 3 * k + 2 = 18 + 3 * n7 + 2 := by omega
      have hB : ∀ i, ¬ i = 18 + 3 * n7 → ¬ i = 18 + 3 * n7 + 1 → ¬ i = 18 + 3 * n7 + 2 → inc 7 (gs_up2 (gs_up2 (gs_up2 B 19 (18 + 3 * n7) (Int32.ofNat w2)) 19 (18 + 3 * n7 + 1) (Int32.ofNat w4)) 19 (18 + 3 * n7 + 2) (Int32.ofNat w6)) 19 i = B 19 i := fun i h1 h2 h3 => by
        unfold inc
        rw [up2_n (Or.inl (by decide)), up2_n (Or.inr h3), up2_n (Or.inr h2), up2_n (Or.inr h1)]
      rw [hB _ e0 e1 e2, hB _ e3 e4 e5, hB _ e6 e7 e8]
      refine ⟨?_, ?_, ?_, h.2.2.2⟩
      · rw [up2_n (Or.inl (by decide)), up2_n (Or.inl (by decide)), up2_n (Or.inl (by decide)), up2_n (Or.inr e)]; exact h.1
      · rw [up2_n (Or.inl (by decide)), up2_n (Or.inl (by decide)), up2_n (Or.inr e), up2_n (Or.inl (by decide))]; exact h.2.1
      · rw [up2_n (Or.inl (by decide)), up2_n (Or.inr e), up2_n (Or.inl (by decide)), up2_n (Or.inl (by decide))]; exact h.2.2.1
theorem j_book (cx : gs_Cn X T S TR L by_ m0 r0) (st : gs_Sg S L m0 r0 A B c1 c2 E mx mr c v p q) (rl : gs_Rl A B c1 E n0 n1 n2 n3 n5 n6 n7 n8) (hc : c ≠ 34) (hn : n2 < 8) : gs_jQ S m0 r0 (gs_Le S L m0 r0 p (inc 2)) (gs_exec X (d + 5) 54 [.inr (.inr 1)] mx) (gs_bU (gs_exec X (d' + 4) 182 [.inr (.inr 116)] mr) gs_th (fun m => gs_exec X (d' + 4) 196 [.inr (.inr 116)] m)) := by
  have sx := st_sx cx st
  have pq := st_pq st hc
  obtain ⟨⟨⟨a0, a1, a2, a3, a5, a6, a7, a8⟩, ⟨b0, b1, b2, b3, b5, b6, b7, b8⟩, bd⟩, rR, rP, rB, rG, rC, rW, rK, rS, rU, u4, u43⟩ := rl
  have lb : Int32.ofNat n2 < (8 : Int32) ↔ n2 < 8 := gs_nlt (b := 8) (by omega) (by decide)
  have ax : mx.2.1 (S + 9) 3 = Int32.ofNat n2 := (st.2.2.1 9 3).trans a2
  rw [eq_X5_readBook]
  simp only [yf1 sx, y_11 sx, gs_nn_s, yt0 sx, y0_2 sx, yt9 sx, ax]
  rw [eq_X5_begin, if_pos (lb.mpr hn)]
  simp only [yf1 sx, y_18 sx, gs_nn_s, yf3 sx, bU_bU]
  refine jadv cx st (fun mx1 mr1 k1 v1 p1 q1 le1 st1 => ?_)
  have sx1 := st_sx cx st1
  have sr1 := st_sr cx st1
  have bx1 : mr1.2.1 120 2 = Int32.ofNat n2 := (st1.2.2.2.1 1 2).trans b2
  have eo : (8 : Int32) + Int32.ofNat n2 = Int32.ofNat (8 + n2) := n_add 8 n2
  rw [eq_X12_bookLine]
  simp only [gs_bU_s, yf1 sx1, y_11 sx1, gs_nn_s, yt0 sx1, y0_2 sx1, fl_116 sr1, sh_116_13 sr1, sh_116_24 sr1, r_ix sr1 (a := 120) (k := 2) (len := 9) (j := (2 : Int32)) rfl rfl rfl (by decide), bx1, eo]
  refine j_newName (o := 9) (o' := 10) (b := 11) (off := 8) (n := n2) cx st1 (fun k => yt9 sx1) (y9_0 sx1) (fun k hk K => yar sx1 10 13 8 (by decide) (by omega)) a2 (by omega) (by decide) (fun k hk K => gs_ixn sr1.1 rfl (show 8 + k < 16 by omega)) (by unfold rsVb upr; omega) (fun k hk => (rB k hk).1) rfl rfl (fun m => kr0) (fun mx2 mr2 k2 v2 p2 q2 le2 st2 => ?_)
  have sx2 := st_sx cx st2
  have sr2 := st_sr cx st2
  have st3 := st_wr (a := 12) (i := 8 + n2) (x := (-1 : Int32)) st2 (by unfold rsVb upr; omega)
  have sr3 : gs_Sh (gs_sI mr2 131 (8 + n2) (-1)) TR := sr2
  have t3 := st3.2.2.2.2.2.2.2
  have ek : Int32.ofNat k2 = (3 : Int32) ↔ k2 = 3 := n_eq (b := 3) (by have := t3.1; omega) (by decide)
  have ky := r_isKey (X := X) (d := d' + 2) (k := 3) (a := (12 : Int32)) sr3 t3 (by decide) rfl
  have k5 : mx2.2.1 3 5 = Int32.ofNat k2 := t3.2.1
  have fin : ∀ (mx5 mr5 : gs_M) (x : Int32) (A' B' : Nat → Nat → Int32) (E' : Nat → Int32) (c5 v5 p5 q5 : Nat), isO x n2 → p < p5 → gs_Sg S L m0 r0 A B' c1 c2 E' mx5 mr5 c5 v5 p5 q5 → (∀ b, b ≠ 11 → b ≠ 12 → B' b = B b) → (∀ k, k < n2 → B' 11 (8 + k) = B 11 (8 + k) ∧ B' 12 (8 + k) = B 12 (8 + k)) → B' 11 (8 + n2) = Int32.ofNat v1 → B' 12 (8 + n2) = x → (∀ i, i ≠ 11 → E' i = E i) → gs_jQ S m0 r0 (gs_Le S L m0 r0 p (inc 2)) (gs_bU (gs_exec X (d + 4) 26 [.inr (.inr (S + 9)), .inl (Int32.ofNat v1), .inl x, .inl (0 : Int32)] mx5) gs_th (fun m => gs_rU m)) (gs_rI 1 mr5) := by
    intro mx5 mr5 x A' B' E' c5 v5 p5 q5 hO hp st5 hB hB2 hv hx hE
    have sx5 := st_sx cx st5
    have ax5 : mx5.2.1 (S + 9) 3 = Int32.ofNat n2 := (st5.2.2.1 9 3).trans a2
    have st6 := st_wx (a := 9) (i := 3) (x := Int32.ofNat (n2 + 1)) cx (st_wx (a := 12) (i := n2) (x := (0 : Int32)) cx (st_wx (a := 11) (i := n2) (x := x) cx (st_wx (a := 10) (i := n2) (x := Int32.ofNat v1) cx st5 (by decide)) (by decide)) (by decide)) (by decide)
    have h1 : B' 1 = B 1 := hB 1 (by decide) (by decide)
    have h4 : B' 4 = B 4 := hB 4 (by decide) (by decide)
    rw [x_add9 sx5 ax5 hn, gs_bU_s]
    have rl' : gs_Rl A B' c1 E' n0 n1 n2 n3 n5 n6 n7 n8 := by
      refine ⟨⟨⟨a0, a1, a2, a3, a5, a6, a7, a8⟩, ?_, bd⟩, ?_, ?_, ?_, rRG_c rG (fun g hg => rfl) (fun g i hg hi => ?_) (Nat.le_refl _) (Nat.le_refl _) (Nat.le_refl _), rRC_c rC (fun g hg => rfl) (fun g i hg hi => ?_), ?_, ?_, ?_, ?_, u4, ?_⟩
      · rw [h1]; exact ⟨b0, b1, b2, b3, b5, b6, b7, b8⟩
      · unfold rRR; rw [hB 5 (by decide) (by decide), hB 6 (by decide) (by decide), hB 7 (by decide) (by decide)]; exact rR
      · unfold rRP; rw [hB 8 (by decide) (by decide), hB 9 (by decide) (by decide), hB 10 (by decide) (by decide)]; exact rP
      · intro k hk
        rw [(hB2 k hk).1, (hB2 k hk).2]
        exact rB k hk
      · show B' 13 _ = B 13 _
        rw [hB 13 (by decide) (by decide)]
      · show B' 14 _ = B 14 _
        rw [hB 14 (by decide) (by decide)]
      · unfold rRW; rw [hB 19 (by decide) (by decide)]; exact rW
      · unfold rRK kB pB oB; rw [hB 20 (by decide) (by decide), hB 21 (by decide) (by decide), hB 22 (by decide) (by decide)]; exact rK
      · unfold rRS rS1 sbB seB kB pB oB; rw [hB 15 (by decide) (by decide), hB 16 (by decide) (by decide), hB 17 (by decide) (by decide), hB 18 (by decide) (by decide), hB 20 (by decide) (by decide), hB 21 (by decide) (by decide), hB 22 (by decide) (by decide)]; exact rS
      · unfold rRU; rw [h4, hE 17 (by decide)]; exact rU
      · rw [hE 43 (by decide)]; exact u43
    obtain ⟨⟨⟨a0, a1, a2, a3, a5, a6, a7, a8⟩, ⟨b0, b1, b2, b3, b5, b6, b7, b8⟩, bd⟩, rR, rP, rB, rG, rC, rW, rK, rS, rU, u4, u43⟩ := rl'
    refine Or.inr ⟨_, _, rfl, rfl, _, _, _, _, _, _, _, _, _, n0, n1, n2 + 1, n3, n5, n6, n7, n8, hp, st6, ⟨⟨a0, a1, up2_e _ _ _ _, a3, a5, a6, a7, a8⟩, ⟨b0, b1, (up2_e _ _ _ _).trans (n_s1 b2), b3, b5, b6, b7, b8⟩, bd.1, bd.2.1, by omega, bd.2.2.2⟩, rR, rP, ?_, rRG_c rG (fun g hg => ?_) (fun g i hg hi => rfl) (Nat.le_refl _) (Nat.le_refl _) (Nat.le_succ _), rRC_c rC (fun g hg => ?_) (fun g i hg hi => rfl), rW, rK, rS, rU, u4, u43⟩
    · intro k hk
      by_cases e : k = n2
      · subst e
        refine ⟨?_, ?_, ?_⟩
        · rw [up2_n (Or.inl (by decide)), up2_n (Or.inl (by decide)), up2_n (Or.inl (by decide)), up2_e]
          exact hv.symm
        · rw [up2_n (Or.inl (by decide)), up2_n (Or.inl (by decide)), up2_e]
          exact hx.symm
        · show isO (B' 12 (8 + k)) k
          rw [hx]
          exact hO
      · have h := rB k (by omega)
        refine ⟨?_, ?_, h.2.2⟩
        · rw [up2_n (Or.inl (by decide)), up2_n (Or.inl (by decide)), up2_n (Or.inl (by decide)), up2_n (Or.inr e)]
          exact h.1
        · rw [up2_n (Or.inl (by decide)), up2_n (Or.inl (by decide)), up2_n (Or.inr e), up2_n (Or.inl (by decide))]
          exact h.2.1
    · rw [up2_row (by omega), up2_row (by omega), up2_row (by omega), up2_row (by omega)]
    · rw [up2_row (by omega), up2_row (by omega), up2_row (by omega), up2_row (by omega)]
  simp only [if_neg i10, yf1 sx2, yf3 sx2, y_18 sx2, y_11 sx2, yt0 sx2, y0_2 sx2, yt9 sx2, fl_116 sr2, sh_116_25 sr2, gs_nn_s, gs_ixn sr2.1 (show gs_ok 131 13 153 = true from rfl) (show 8 + n2 < 16 by omega), gs_fld_sI, k5, ky, gs_bI_s, b2_if]
  by_cases z : k2 = 3
  · rw [if_pos (ek.mpr z), if_pos z]
    refine jadv cx st3 (fun mx4 mr4 k4 v4 p4 q4 le4 st4 => ?_)
    have sx4 := st_sx cx st4
    have sr4 := st_sr cx st4
    have bx4 : mr4.2.1 120 2 = Int32.ofNat n2 := (st4.2.2.2.1 1 2).trans b2
    simp only [yf1 sx4, y_11 sx4, yt0 sx4, y0_2 sx4, gs_nn_s, fl_116 sr4, sh_116_13 sr4, sh_116_24 sr4, r_ix sr4 (a := 120) (k := 2) (len := 9) (j := (2 : Int32)) rfl rfl rfl (by decide), bx4]
    refine j_oldName (o := 9) (o' := 10) (b := 11) (off := 8) (n := n2) cx st4 (fun k => yt9 sx4) (y9_0 sx4) (fun k hk K => yar sx4 10 13 8 (by decide) (by omega)) a2 (by omega) (by decide) (fun k hk K => gs_ixn sr4.1 rfl (show 8 + k < 16 by omega)) (fun k hk => (rB k hk).1.trans ?_) rfl rfl (fun m => kr0) (fun i mx5 mr5 k5 v5 p5 q5 li le5 st5 => ?_)
    · rw [up2_n (Or.inl (by decide)), up2_n (Or.inr (by omega))]
    have sx5 := st_sx cx st5
    have sr5 := st_sr cx st5
    have g5 := st_got st5
    have st6 := st_wr (a := 12) (i := 8 + n2) (x := Int32.ofNat i) st5 (by unfold rsVb upr; omega)
    simp only [if_neg i10, yf1 sx5, y_11 sx5, yt0 sx5, y0_2 sx5, yt9 sx5, fl_116 sr5, sh_116_25 sr5, gs_nn_s, gs_ixn sr5.1 (show gs_ok 131 13 153 = true from rfl) (show 8 + n2 < 16 by omega), g5, gs_bt1]
    have pq2 := st_pq st2 (by omega)
    refine fin mx5 _ (Int32.ofNat i) A _ _ _ _ p5 _ (Or.inr ⟨i, li, rfl⟩) (by omega) st6 (fun b h1 h2 => ?_) (fun k hk => ⟨?_, ?_⟩) ?_ (up2_e _ _ _ _) (fun j hj => upf_n hj)
    · rw [up2_row h2, up2_row h2, up2_row h1]
    · rw [up2_n (Or.inl (by decide)), up2_n (Or.inl (by decide)), up2_n (Or.inr (by omega))]
    · rw [up2_n (Or.inr (by omega)), up2_n (Or.inr (by omega)), up2_n (Or.inl (by decide))]
    · rw [up2_n (Or.inl (by decide)), up2_n (Or.inl (by decide)), up2_e]
  · rw [if_neg (fun y => z (ek.mp y)), if_neg z, gs_bt1]
    refine fin mx2 _ (-1) A _ _ _ _ p2 _ (Or.inl rfl) (by omega) st3 (fun b h1 h2 => ?_) (fun k hk => ⟨?_, ?_⟩) ?_ (up2_e _ _ _ _) (fun j hj => rfl)
    · rw [up2_row h2, up2_row h1]
    · rw [up2_n (Or.inl (by decide)), up2_n (Or.inr (by omega))]
    · rw [up2_n (Or.inr (by omega)), up2_n (Or.inl (by decide))]
    · rw [up2_n (Or.inl (by decide)), up2_e]
end LN2
