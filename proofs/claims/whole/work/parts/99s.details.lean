/-! The details of a guest. -/
section DE
variable {X : gs_E} {d d' T S TR L : Nat} {by_ : Nat → Nat} {m0 r0 mx mr : gs_M} {A B : Nat → Nat → Int32} {c1 c2 E : Nat → Int32} {c v p q n0 n1 n2 n3 n5 n6 n7 n8 : Nat} {Q : gs_M → gs_M → Prop}
abbrev itX (X : gs_E) (d S F g came k : Nat) (m : gs_M) : gs_O := gs_iter X (gs_exec X (d + 4)) gT_X5_readDetails F 20 [(0, .inr (.inr 1)), (1, .inr (.inr (S + (27 + g)))), (2, .inl (Int32.ofNat came)), (3, .inl (Int32.ofNat k))] [] m
abbrev itR (X : gs_E) (d F g s : Nat) (x : Int32) (m : gs_M) : gs_O := gs_iter X (gs_exec X (d + 6)) gT_X12_guestLine F 220 [(0, .inr (.inr 116)), (2, .inl (Int32.ofNat (192 + 16 * g))), (3, .inl (Int32.ofNat s)), (4, .inl x)] [] m
/-- one guest more -/
theorem rl_guest {ga gb : Nat → Int32} {E' : Nat → Int32} (rl : gs_Rl A B c1 E n0 n1 n2 n3 n5 n6 n7 n8) (hn : n3 < 12) (hg : gRl ga gb n0 n1 n2) (hE : ∀ i, i ≠ 11 → E' i = E i) : gs_Rl (gs_up2 (owA A (27 + n3) ga) 0 8 (Int32.ofNat (n3 + 1))) (inc 3 (owB B 13 (192 + 16 * n3) 16 gb)) c1 E' n0 n1 n2 (n3 + 1) n5 n6 n7 n8 := by
  obtain ⟨⟨⟨a0, a1, a2, a3, a5, a6, a7, a8⟩, ⟨b0, b1, b2, b3, b5, b6, b7, b8⟩, bd⟩, rR, rP, rB, rG, rC, rW, rK, rS, rU, u4, u43⟩ := rl
  have hA : ∀ a, a ≠ 0 → a ≠ 27 + n3 → gs_up2 (owA A (27 + n3) ga) 0 8 (Int32.ofNat (n3 + 1)) a = A a := fun a h1 h2 => by rw [up2_row h1, sA_n h2]
  have hA0 : ∀ i, i ≠ 8 → gs_up2 (owA A (27 + n3) ga) 0 8 (Int32.ofNat (n3 + 1)) 0 i = A 0 i := fun i h1 => by rw [up2_n (Or.inr h1), sA_n (by omega)]
  have hB : ∀ b, b ≠ 1 → b ≠ 13 → inc 3 (owB B 13 (192 + 16 * n3) 16 gb) b = B b := fun b h1 h2 => by
    unfold inc
    rw [up2_row h1, sB_n h2]
  have hB1 : ∀ k, k ≠ 3 → inc 3 (owB B 13 (192 + 16 * n3) 16 gb) 1 k = B 1 k := fun k h1 => by
    unfold inc
    rw [up2_n (Or.inr h1), sB_n (by decide)]
  have hB13 : ∀ g i, g ≠ n3 → i < 16 → bg (inc 3 (owB B 13 (192 + 16 * n3) 16 gb)) g i = bg B g i := fun g i h1 h2 => by
    unfold bg inc
    rw [up2_n (Or.inl (by decide)), sB_o (by omega)]
  have hBn : ∀ i, i < 16 → bg (inc 3 (owB B 13 (192 + 16 * n3) 16 gb)) n3 i = gb i := fun i h2 => by
    unfold bg inc
    rw [up2_n (Or.inl (by decide)), sB_e h2]
  refine ⟨⟨⟨?_, ?_, ?_, ?_, ?_, ?_, ?_, ?_⟩, ⟨?_, ?_, ?_, ?_, ?_, ?_, ?_, ?_⟩, bd.1, bd.2.1, bd.2.2.1, by omega, bd.2.2.2.2⟩, rRR_c rR (hA _ (by decide) (by omega)) (hA _ (by decide) (by omega)) (hA _ (by decide) (by omega)) (hB _ (by decide) (by decide)) (hB _ (by decide) (by decide)) (hB _ (by decide) (by decide)), rRP_c rP (hA _ (by decide) (by omega)) (hA _ (by decide) (by omega)) (hA _ (by decide) (by omega)) (hB _ (by decide) (by decide)) (hB _ (by decide) (by decide)) (hB _ (by decide) (by decide)), rRB_c rB (hA _ (by decide) (by omega)) (hA _ (by decide) (by omega)) (hB _ (by decide) (by decide)) (hB _ (by decide) (by decide)), ?_, rRC_c rC (fun g hg => hA _ (by omega) (by omega)) (fun g i hg hi => ?_), rRW_c rW (hA _ (by decide) (by omega)) (hA _ (by decide) (by omega)) (hA _ (by decide) (by omega)) (hB _ (by decide) (by decide)), rRK_c rK (hA _ (by decide) (by omega)) (hA _ (by decide) (by omega)) (hB _ (by decide) (by decide)) (hB _ (by decide) (by decide)) (hB _ (by decide) (by decide)), rRS_c rS (hA _ (by decide) (by omega)) (hA _ (by decide) (by omega)) (hA _ (by decide) (by omega)) (hB _ (by decide) (by decide)) (hB _ (by decide) (by decide)) (hB _ (by decide) (by decide)) (hB _ (by decide) (by decide)) (hB _ (by decide) (by decide)) (hB _ (by decide) (by decide)) (hB _ (by decide) (by decide)), rRU_c rU (hA0 _ (by decide)) (hA0 _ (by decide)) (hA0 _ (by decide)) (hA0 _ (by decide)) (hB _ (by decide) (by decide)) rfl (hE 17 (by decide)), u4, ?_⟩
  · rw [hA _ (by decide) (by omega)]; exact a0
  · rw [hA _ (by decide) (by omega)]; exact a1
  · rw [hA _ (by decide) (by omega)]; exact a2
  · exact up2_e _ _ _ _
  · rw [hA0 _ (by decide)]; exact a5
  · rw [hA _ (by decide) (by omega)]; exact a6
  · rw [hA _ (by decide) (by omega)]; exact a7
  · rw [hA _ (by decide) (by omega)]; exact a8
  · rw [hB1 _ (by decide)]; exact b0
  · rw [hB1 _ (by decide)]; exact b1
  · rw [hB1 _ (by decide)]; exact b2
  · unfold inc
    rw [up2_e, sB_n (by decide)]
    exact n_s1 b3
  · rw [hB1 _ (by decide)]; exact b5
  · rw [hB1 _ (by decide)]; exact b6
  · rw [hB1 _ (by decide)]; exact b7
  · rw [hB1 _ (by decide)]; exact b8
  · intro g hg'
    by_cases e : g = n3
    · subst e
      have ea : gs_up2 (owA A (27 + g) ga) 0 8 (Int32.ofNat (g + 1)) (27 + g) = ga := by
        rw [up2_row (by omega)]
        exact funext (fun i => sA_e)
      rw [ea]
      exact gRl_c hg hBn (Nat.le_refl _) (Nat.le_refl _) (Nat.le_refl _)
    · rw [hA _ (by omega) (by omega)]
      exact gRl_c (rG g (by omega)) (fun i hi => hB13 g i e hi) (Nat.le_refl _) (Nat.le_refl _) (Nat.le_refl _)
  · show inc 3 (owB B 13 (192 + 16 * n3) 16 gb) 14 _ = B 14 _
    rw [hB _ (by decide) (by decide)]
  · rw [hE 43 (by decide)]; exact u43
theorem j_det (cx : gs_Cn X T S TR L by_ m0 r0) (rl : gs_Rl A B c1 E n0 n1 n2 n3 n5 n6 n7 n8) (hn : n3 < 12) : ∀ (r s F F' : Nat) (ga gb E' : Nat → Int32) (mx mr : gs_M) (c v p' q' : Nat), pcs s + r = 8 → s < 128 → r < F → r < F' → p < p' → (∀ i, i ≠ 11 → E' i = E i) → gs_Sg S L m0 r0 (owA A (27 + n3) ga) (owB B 13 (192 + 16 * n3) 16 gb) c1 c2 E' mx mr c v p' q' → gRl ga gb n0 n1 n2 →
    gs_jQ S m0 r0 (gs_Le S L m0 r0 p (inc 3)) (itX X d S F n3 (cmk s) (pcs s) mx) (itR X d' F' n3 s (gwd c) mr) := by
  have rl0 := rl
  obtain ⟨⟨⟨a0, a1, a2, a3, a5, a6, a7, a8⟩, ⟨b0, b1', b2', b3, b5, b6, b7, b8⟩, bd⟩, rR, rP, rB, rG, rC, rW, rK, rS, rU, u4, u43⟩ := rl
  intro r
  induction r with
  | zero =>
    intro s F F' ga gb E' mx mr c v p' q' hr hs
    have := det4 s hs
    omega
  | succ r ih =>
    intro s F F' ga gb E' mx mr c v p' q' hr hs hF hF' hp hE st hg
    obtain ⟨F, rfl⟩ : ∃ y, F = y + 1 := ⟨F - 1, by omega⟩
    obtain ⟨F', rfl⟩ : ∃ y, F' = y + 1 := ⟨F' - 1, by omega⟩
    have sx := st_sx cx st
    have sr := st_sr cx st
    have p4 := det4 s hs
    have t := st.2.2.2.2.2.2.2
    have hc := t.1
    have k5 : mx.2.1 3 5 = Int32.ofNat c := t.2.1
    have l8 : Int32.ofNat (pcs s) < (8 : Int32) := (gs_nlt (b := 8) (by omega) (by decide)).mpr (by omega)
    have l6 : Int32.ofNat c < (6 : Int32) ↔ c < 6 := gs_nlt (b := 6) (by omega) (by decide)
    have l12 : (12 : Int32) < Int32.ofNat c ↔ 12 < c := gs_nlt (a := 12) (by decide) (by omega)
    unfold itX itR
    rw [eq_X5_readDetails_20, eq_X12_guestLine_220, if_pos l8]
    simp only [yf1 sx, y_18 sx, y_11 sx, gs_nn_s, yf3 sx, yt0 sx, k5]
    by_cases z : 6 ≤ c ∧ c ≤ 12
    · have pq := st_pq st (by omega)
      obtain ⟨w7, wk⟩ := det5 c (by omega) z.1
      have d1 := det1 s hs (wdk c) w7
      have d2 := det2 s hs (wdk c) w7
      have d3 := det3 s hs (wdk c) w7
      rw [wk] at d1 d3
      have eg : gwd c = Int32.ofNat (wdk c) := if_pos z
      rw [if_neg (fun y => by have := l6.mp y; omega), if_neg (fun y => by have := l12.mp y; omega), eg, if_neg (gs_nneg (by omega)), eq_X12_isOf, eq_X5_tellOnce]
      simp only [yf1 sx, y_18 sx, gs_nn_s, yf3 sx, k5]
      by_cases tb : b1 s (wdk c) = 0
      · rw [if_pos (d1.mpr tb), if_neg (fun y => (d2.mp y) tb), gs_bt0, gs_bI_s, if_pos rfl, fl_116 sr, bI_bU]
        obtain ⟨f1, f2, f3, f4⟩ := d3 tb
        have nxt : ∀ (ga' gb' E1 : Nat → Int32) (mx' mr' : gs_M) (c' v' p1 q1 : Nat), p < p1 → (∀ i, i ≠ 11 → E1 i = E i) → gs_Sg S L m0 r0 (owA A (27 + n3) ga') (owB B 13 (192 + 16 * n3) 16 gb') c1 c2 E1 mx' mr' c' v' p1 q1 → gRl ga' gb' n0 n1 n2 →
            gs_jQ S m0 r0 (gs_Le S L m0 r0 p (inc 3)) (gs_iter X (gs_exec X (d + 4)) gT_X5_readDetails F 20 [(0, .inr (.inr 1)), (1, .inr (.inr (S + (27 + n3)))), (2, .inl (Int32.ofNat (cmk s) ||| ((1 : Int32) <<< (Int32.ofNat c &&& 31)))), (3, .inl (Int32.ofNat (pcs s) + 1))] [] mx') (gs_fld mr' 116 11 (gs_bI (gs_exec X (d' + 6) 200 [.inr (.inr 116)] mr') gs_th (fun x7 m6 => gs_iter X (gs_exec X (d' + 6)) gT_X12_guestLine F' 220 [(0, .inr (.inr 116)), (2, .inl (Int32.ofNat (192 + 16 * n3))), (3, .inl (Int32.ofNat s ||| ((1 : Int32) <<< (Int32.ofNat (wdk c) &&& 31)))), (4, .inl x7)] [] m6))) := by
          intro ga' gb' E1 mx' mr' c' v' p1 q1 hp1 hE1 st1 hg1
          have sr1 := st_sr cx st1
          rw [fl_116 sr1, r_guestWord sr1 st1.2.2.2.2.2.2.2, gs_bI_s, f1, f2, gs_ns, ← f3]
          exact ih (s + 2 ^ wdk c) F F' ga' gb' E1 mx' mr' c' v' p1 q1 (by omega) f4 (by omega) (by omega) hp1 hE1 st1 hg1
        refine jadv cx st (fun mx1 mr1 k1 v1 p1 q1 le1 st1 => ?_)
        have sx1 := st_sx cx st1
        have sr1 := st_sr cx st1
        have G : ∀ i, i < 16 → ∀ (M : gs_M), gs_Sh M TR → ∀ K : Nat → gs_O, gs_ix M 132 13 (Int32.ofNat (192 + 16 * n3 + i)) K = K (192 + 16 * n3 + i) := fun i hi M hM K => gs_ixn hM.1 rfl (show 192 + 16 * n3 + i < 384 by omega)
        have rs : ∀ i, rsVb (119 + 13) (192 + 16 * n3 + i) := fun i => by unfold rsVb upr; omega
        have hA' : ∀ a, a ≠ 27 + n3 → ∀ f, owA A (27 + n3) f a = A a := fun a h f => sA_n h
        have hB' : ∀ b, b ≠ 13 → ∀ f, owB B 13 (192 + 16 * n3) 16 f b = B b := fun b h f => sB_n h
        simp only [gs_bI_s, fl_116 sr1]
        have h7 : c = 6 ∨ c = 7 ∨ c = 8 ∨ c = 9 ∨ c = 10 ∨ c = 11 ∨ c = 12 := by omega
        clear d1 d2 d3 wk eg f1 f2 f3 f4 tb ih
        rcases h7 with h | h | h | h | h | h | h
        · subst h
          have bx1 : mr1.2.1 120 2 = Int32.ofNat n2 := (st1.2.2.2.1 1 2).trans ((congrFun (hB' 1 (by decide) gb) 2).trans b2')
          have e12 : Int32.ofNat (192 + 16 * n3) + (12 : Int32) = Int32.ofNat (192 + 16 * n3 + 12) := n_add _ 12
          rw [if_pos (by decide), eq_X12_guestHas, if_pos (by decide)]
          simp only [yf1 sx1, y_11 sx1, gs_nn_s, yt0 sx1, y0_2 sx1, fl_116 sr1, sh_116_13 sr1, sh_116_24 sr1, r_ix sr1 (a := 120) (k := 2) (len := 9) (j := (2 : Int32)) rfl rfl rfl (by decide), bx1, bI_bI]
          refine j_oldName (o := 9) (o' := 10) (b := 11) (off := 8) (n := n2) cx st1 (fun k => yt9 sx1) (y9_0 sx1) (fun k hk K => yar sx1 10 13 8 (by decide) (by omega)) ((congrFun (hA' 9 (by omega) ga) 3).trans a2) (by omega) (by decide) (fun k hk K => gs_ixn sr1.1 rfl (show 8 + k < 16 by omega)) (fun k hk => ?_) rfl rfl (fun m => rfl) (fun i mx2 mr2 k2 v2 p2 q2 li le2 st2 => ?_)
          · rw [hA' 10 (by omega), hB' 11 (by decide)]
            exact (rB k hk).1
          have sx2 := st_sx cx st2
          have sr2 := st_sr cx st2
          have g2 := st_got st2
          simp only [if_neg i10, ytg sx2 hn, fl_116 sr2, sh_116_26 sr2, gs_nn_s, e12, G 12 (by decide) mr2 sr2, g2, gs_bt1, gs_bI_s]
          exact nxt _ _ _ _ _ _ _ _ _ (by omega) (fun j hj => (upf_n hj).trans (hE j hj)) (st_wb (st_wg cx st2 (show 27 + n3 < 49 by omega) 15 (Int32.ofNat i)) 12 (Int32.ofNat i) (by decide) (rs 12)) (gRl_12 hg (Or.inr ⟨i, li, rfl⟩))
        · subst h
          have bx1 : mr1.2.1 120 1 = Int32.ofNat n1 := (st1.2.2.2.1 1 1).trans ((congrFun (hB' 1 (by decide) gb) 1).trans b1')
          have e4 : Int32.ofNat (192 + 16 * n3) + (4 : Int32) = Int32.ofNat (192 + 16 * n3 + 4) := n_add _ 4
          have e5 : Int32.ofNat (192 + 16 * n3) + (5 : Int32) = Int32.ofNat (192 + 16 * n3 + 5) := n_add _ 5
          have e6 : Int32.ofNat (192 + 16 * n3) + (6 : Int32) = Int32.ofNat (192 + 16 * n3 + 6) := n_add _ 6
          rw [if_neg (by decide), if_pos (by decide), eq_X12_guestHas, if_neg (by decide), if_pos (by decide), fl_116 sr1, eq_X12_nearRead]
          simp only [yf1 sx1, y_11 sx1, gs_nn_s, yt0 sx1, y0_1 sx1, fl_116 sr1, sh_116_13 sr1, sh_116_21 sr1, r_ix sr1 (a := 120) (k := 1) (len := 9) (j := (1 : Int32)) rfl rfl rfl (by decide), bx1, bI_bI]
          refine j_oldName (o := 5) (o' := 6) (b := 8) (off := 10) (n := n1) cx st1 (fun k => yt5 sx1) (y5_0 sx1) (fun k hk K => yar sx1 6 13 10 (by decide) (by omega)) ((congrFun (hA' 5 (by omega) ga) 3).trans a1) (by omega) (by decide) (fun k hk K => gs_ixn sr1.1 rfl (show 10 + k < 20 by omega)) (fun k hk => ?_) rfl rfl (fun m => rfl) (fun i mx2 mr2 k2 v2 p2 q2 li le2 st2 => ?_)
          · rw [hA' 6 (by omega), hB' 8 (by decide)]
            exact (rP k hk).1
          have sx2 := st_sx cx st2
          have sr2 := st_sr cx st2
          have g2 := st_got st2
          have st3 := st_wb (st_wg cx st2 (show 27 + n3 < 49 by omega) 5 (Int32.ofNat i)) 4 (Int32.ofNat i) (by decide) (rs 4)
          simp only [if_neg i10, yf1 sx2, ytg sx2 hn, fl_116 sr2, sh_116_26 sr2, gs_nn_s, e4, e5, e6, G 4 (by decide) mr2 sr2, g2, gs_fld_sI]
          rw [eq_X12_kept, gs_fld_sI, fl_116 sr2]
          simp only [bI_bI]
          refine j_number (lo := 1) (hi := 20) cx st3 rfl rfl (by decide) (by decide) (fun m => rfl) (fun w4 mx4 mr4 k4 v4 p4 q4 l4 h4 le4 st4 => ?_)
          have sx4 := st_sx cx st4
          have sr4 := st_sr cx st4
          have g4 := st_got st4
          have st5 := st_wb (st_wg cx st4 (show 27 + n3 < 49 by omega) 6 (Int32.ofNat w4)) 5 (Int32.ofNat w4) (by decide) (rs 5)
          have t5 := st5.2.2.2.2.2.2.2
          have q5 : mx4.2.1 3 5 = Int32.ofNat k4 := st4.2.2.2.2.2.2.2.2.1
          have sr5 : gs_Sh (gs_sI mr4 132 (192 + 16 * n3 + 5) (Int32.ofNat w4)) TR := sr4
          have hk4 := t5.1
          have q5' : (gs_sI mx4 (S + (27 + n3)) 6 (Int32.ofNat w4)).2.1 3 5 = Int32.ofNat k4 := t5.2.1
          have rs5 : gs_exec X (d' + 4) 203 [.inr (.inr 116)] (gs_sI mr4 132 (192 + 16 * n3 + 5) (Int32.ofNat w4)) = gs_rI (b2 (23 ≤ k4 ∧ k4 ≤ 26)) (gs_sI mr4 132 (192 + 16 * n3 + 5) (Int32.ofNat w4)) := r_isSide sr5 t5
          simp only [if_neg i10, yf1 sx4, ytg sx4 hn, fl_116 sr4, sh_116_26 sr4, gs_nn_s, G 5 (by decide) mr4 sr4, g4, gs_fld_sI, gs_bt1, gs_bI_s, rs5, b2_if]
          rw [eq_X5_readSides]
          simp only [gs_fld_sI, gs_sI22, yf1 sx4, yf3 sx4, y_18 sx4, gs_nn_s, q5', x_isSide (X := X) hk4, gs_bI_s, b2_if]
          by_cases y1 : 23 ≤ k4 ∧ k4 ≤ 26
          · have pq4 := st_pq st5 (by omega)
            have k9 : (gs_sI mr4 132 (192 + 16 * n3 + 5) (Int32.ofNat w4)).2.1 116 9 = Int32.ofNat (pmo k4) := (t5.2.2.2.2.2.2.2.1 (by omega) (by omega)).trans (by rw [rvl_k (by omega)])
            have k9m : mr4.2.1 116 9 = Int32.ofNat (pmo k4) := (gs_sIn (Or.inl (by decide))).symm.trans k9
            obtain ⟨sb1, sb2⟩ := sd1 k4 (by omega) y1.1
            have st6 := st_wb st5 6 (Int32.ofNat (sdb k4)) (by decide) (rs 6)
            have ix6 : ∀ (M : gs_M), gs_Sh M TR → ∀ K : Nat → gs_O, gs_ix M 132 13 (Int32.ofNat (192 + 16 * n3 + 6)) K = K (192 + 16 * n3 + 6) := fun M hM K => G 6 (by decide) M hM K
            rw [if_pos y1, if_pos y1]
            simp only [gs_ix_sI, gs_sI22, sh_116_26 sr4, gs_nn_s, ix6 mr4 sr4, k9, sb1, gs_fld_sI, fl_116 sr4, bI_bU]
            refine jadv cx st6 (fun mx7 mr7 k7 v7 p7 q7 le7 st7 => ?_)
            have sx7 := st_sx cx st7
            have sr7 := st_sr cx st7
            have t7 := st7.2.2.2.2.2.2.2
            have hk7 := t7.1
            have q7 : mx7.2.1 3 5 = Int32.ofNat k7 := t7.2.1
            have pp4 := st4.2.2.2.2.2.2.2.2.2.2.2.2.2.2.2.2.2.2.2.1
            simp only [yf1 sx7, yf3 sx7, y_18 sx7, gs_nn_s, q7, x_isSide (X := X) hk7, gs_bI_s, b2_if, fl_116 sr7, r_isSide sr7 t7]
            by_cases y2 : 23 ≤ k7 ∧ k7 ≤ 26
            · have k97 : mr7.2.1 116 9 = Int32.ofNat (pmo k7) := (t7.2.2.2.2.2.2.2.1 (by omega) (by omega)).trans (by rw [rvl_k (by omega)])
              have sd := sd2 k4 (by omega) k7 (by omega) y1.1 y2.1
              have la : (24 : Int32) < Int32.ofNat k4 ↔ 24 < k4 := gs_nlt (a := 24) (by decide) (by omega)
              have lb : (24 : Int32) < Int32.ofNat k7 ↔ 24 < k7 := gs_nlt (a := 24) (by decide) (by omega)
              have i01 : ¬ (0 : Int32) = 1 := by decide
              rw [if_pos y2, if_pos y2]
              simp only [gs_nz_n (show (2 : Int32) ≠ 0 by decide), k97, la, lb, sd, if_pos (show (0 : Int32) = 0 from rfl), if_pos (show (1 : Int32) = 1 from rfl), if_neg i01, if_neg i10]
              by_cases y3 : (24 < k4 ↔ 24 < k7)
              · rw [if_pos y3]
                by_cases y4 : 24 < k4
                · simp only [if_pos y4, if_pos (y3.mp y4), ite_true, yf1 sx7, fl_116 sr7, bI_bU, bI_bI]
                  refine jfail cx st7 (fun m => ?_)
                  rfl
                · simp only [if_neg y4, if_neg (fun y => y4 (y3.mpr y)), ite_true, yf1 sx7, fl_116 sr7, bI_bU, bI_bI]
                  refine jfail cx st7 (fun m => ?_)
                  rfl
              · obtain ⟨so1, so2⟩ := sd3 k4 (by omega) k7 (by omega) ⟨y1.1, y2.1, y3⟩
                obtain ⟨sb3, sb4⟩ := sd1 k7 (by omega) y2.1
                have g6 : mr7.2.1 132 (192 + 16 * n3 + 6) = Int32.ofNat (sdb k4) := (st7.2.2.2.1 13 (192 + 16 * n3 + 6)).trans ((sB_e (by decide)).trans (upf_e _ _ _))
                have pq7 := st_pq st7 (by omega)
                have fin : gs_jQ S m0 r0 (gs_Le S L m0 r0 p (inc 3)) (gs_bU (gs_exec X (d + 3) 108 [.inr (.inr 3)] mx7) gs_th (fun m => gs_bI (gs_bI (gs_exec X (d + 3) 61 [.inl (Int32.ofNat k4)] m) gs_nt (fun x m => gs_bI (gs_exec X (d + 3) 61 [.inl (Int32.ofNat k7)] m) gs_nt (fun x2 m => gs_rI (x ||| x2) m))) gs_th (fun x24 m23 => gs_fld m23 (S + (27 + n3)) 2 (gs_bU (gs_exec X (d + 4) 23 [.inr (.inr (S + (27 + n3))), .inl x24] m23) gs_th (fun m25 => gs_iter X (gs_exec X (d + 4)) gT_X5_readDetails F 20 [(0, .inr (.inr 1)), (1, .inr (.inr (S + (27 + n3)))), (2, .inl (Int32.ofNat (cmk s) ||| ((1 : Int32) <<< (Int32.ofNat 7 &&& 31)))), (3, .inl (Int32.ofNat (pcs s) + 1))] [] m25))))) (gs_bU (gs_exec X (d' + 4) 182 [.inr (.inr 116)] (gs_sI mr7 132 (192 + 16 * n3 + 6) (Int32.ofNat (sdb k4 + sdb k7)))) gs_th (fun m27 => gs_fld m27 116 11 (gs_bI (gs_exec X (d' + 6) 200 [.inr (.inr 116)] m27) gs_th (fun x7 m6 => gs_iter X (gs_exec X (d' + 6)) gT_X12_guestLine F' 220 [(0, .inr (.inr 116)), (2, .inl (Int32.ofNat (192 + 16 * n3))), (3, .inl (Int32.ofNat s ||| ((1 : Int32) <<< (Int32.ofNat (wdk 7) &&& 31)))), (4, .inl x7)] [] m6)))) := by
                  refine jadv cx (st_wb st7 6 (Int32.ofNat (sdb k4 + sdb k7)) (by decide) (rs 6)) (fun mx8 mr8 k8 v8 p8 q8 le8 st8 => ?_)
                  have sx8 := st_sx cx st8
                  rw [x_sideBit y1.1 (by omega), gs_bI_s, x_sideBit y2.1 (by omega), gs_bI_s, so1, gs_bI_s, ytg sx8 hn, x_tellSides sx8 hn, gs_bU_s]
                  have sg := st_wg cx (st_wg cx (st_wg cx st8 (show 27 + n3 < 49 by omega) 7 (Int32.ofNat (sdb k4 + sdb k7))) (show 27 + n3 < 49 by omega) 8 (f_east (Int32.ofNat (sdb k4 + sdb k7)))) (show 27 + n3 < 49 by omega) 9 (f_north (Int32.ofNat (sdb k4 + sdb k7)))
                  have eu : upf (upf (upf (upf gb 4 (Int32.ofNat i)) 5 (Int32.ofNat w4)) 6 (Int32.ofNat (sdb k4))) 6 (Int32.ofNat (sdb k4 + sdb k7)) = upf (upf (upf gb 4 (Int32.ofNat i)) 5 (Int32.ofNat w4)) 6 (Int32.ofNat (sdb k4 + sdb k7)) := by
                    funext j
                    unfold upf
                    by_cases e : j = 6
                    · rw [if_pos e, if_pos e]
                    · rw [if_neg e, if_neg e, if_neg e]
                  rw [eu] at sg
                  exact nxt _ _ _ _ _ _ _ _ _ (by omega) (fun j hj => (upf_n hj).trans ((upf_n hj).trans (hE j hj))) sg (gRl_6 (gRl_5 (gRl_4 hg (Or.inr ⟨i, li, rfl⟩)) ⟨w4, by omega, rfl⟩) ⟨_, so2, rfl⟩)
                rw [if_neg y3]
                by_cases y4 : 24 < k4
                · have y5 : ¬ 24 < k7 := fun y => y3 ⟨fun _ => y, fun _ => y4⟩
                  simp only [if_pos y4, if_neg y5, yf1 sx7, yf3 sx7, y_18 sx7, gs_nn_s, fl_116 sr7, sh_116_26 sr7, ix6 mr7 sr7, g6, sb3, so1, gs_fld_sI, bI_bU, gs_bt1, gs_bI_s, if_neg i10]
                  exact fin
                · have y5 : 24 < k7 := by
                    by_cases y : 24 < k7
                    · exact y
                    · exact absurd ⟨fun a => absurd a y4, fun a => absurd a y⟩ y3
                  simp only [if_neg y4, if_pos y5, yf1 sx7, yf3 sx7, y_18 sx7, gs_nn_s, fl_116 sr7, sh_116_26 sr7, ix6 mr7 sr7, g6, sb3, so1, gs_fld_sI, bI_bU, gs_bt1, gs_bI_s, if_neg i10]
                  exact fin
            · rw [if_neg y2, if_neg y2]
              simp only [x_sideBit (X := X) y1.1 (show k4 < 27 by omega), gs_bI_s, gs_bt1, if_neg i10, ytg sx7 hn, x_tellSides (X := X) sx7 hn, gs_bU_s]
              have sg := st_wg cx (st_wg cx (st_wg cx st7 (show 27 + n3 < 49 by omega) 7 (Int32.ofNat (sdb k4))) (show 27 + n3 < 49 by omega) 8 (f_east (Int32.ofNat (sdb k4)))) (show 27 + n3 < 49 by omega) 9 (f_north (Int32.ofNat (sdb k4)))
              exact nxt _ _ _ _ _ _ _ _ _ (by omega) (fun j hj => (upf_n hj).trans ((upf_n hj).trans (hE j hj))) sg (gRl_6 (gRl_5 (gRl_4 hg (Or.inr ⟨i, li, rfl⟩)) ⟨w4, by omega, rfl⟩) ⟨_, sb2, rfl⟩)
          · rw [if_neg y1, if_neg y1]
            simp only [bI_bU, bI_bI]
            refine jfail cx st5 (fun m => ?_)
            rfl
        · subst h
          have e7 : Int32.ofNat (192 + 16 * n3) + (7 : Int32) = Int32.ofNat (192 + 16 * n3 + 7) := n_add _ 7
          rw [if_neg (by decide), if_neg (by decide), if_pos (by decide), eq_X12_guestHas, if_neg (by decide), if_neg (by decide), if_neg (by decide), if_pos (by decide), fl_116 sr1, eq_X12_kept, fl_116 sr1]
          simp only [yf1 sx1, e7, bI_bI]
          refine j_number (lo := 1) (hi := 999) cx st1 rfl rfl (by decide) (by decide) (fun m => rfl) (fun w2 mx2 mr2 k2 v2 p2 q2 l2 h2 le2 st2 => ?_)
          have sx2 := st_sx cx st2
          have sr2 := st_sr cx st2
          have g2 := st_got st2
          simp only [if_neg i10, ytg sx2 hn, fl_116 sr2, sh_116_26 sr2, gs_nn_s, G 7 (by decide) mr2 sr2, g2, gs_bt1, gs_bI_s]
          exact nxt _ _ _ _ _ _ _ _ _ (by omega) (fun j hj => (upf_n hj).trans (hE j hj)) (st_wb (st_wg cx st2 (show 27 + n3 < 49 by omega) 10 (Int32.ofNat w2)) 7 (Int32.ofNat w2) (by decide) (rs 7)) (gRl_7 hg ⟨w2, by omega, rfl⟩)
        · subst h
          have e8 : Int32.ofNat (192 + 16 * n3) + (8 : Int32) = Int32.ofNat (192 + 16 * n3 + 8) := n_add _ 8
          rw [if_neg (by decide), if_neg (by decide), if_neg (by decide), if_pos (by decide), eq_X12_guestHas, if_neg (by decide), if_neg (by decide), if_neg (by decide), if_neg (by decide), if_pos (by decide), fl_116 sr1, eq_X12_kept, fl_116 sr1]
          simp only [yf1 sx1, e8, bI_bI]
          refine j_number (lo := 0) (hi := 20) cx st1 rfl rfl (by decide) (by decide) (fun m => rfl) (fun w2 mx2 mr2 k2 v2 p2 q2 l2 h2 le2 st2 => ?_)
          have sx2 := st_sx cx st2
          have sr2 := st_sr cx st2
          have g2 := st_got st2
          simp only [if_neg i10, ytg sx2 hn, fl_116 sr2, sh_116_26 sr2, gs_nn_s, G 8 (by decide) mr2 sr2, g2, gs_bt1, gs_bI_s]
          exact nxt _ _ _ _ _ _ _ _ _ (by omega) (fun j hj => (upf_n hj).trans (hE j hj)) (st_wb (st_wg cx st2 (show 27 + n3 < 49 by omega) 11 (Int32.ofNat w2)) 8 (Int32.ofNat w2) (by decide) (rs 8)) (gRl_8 hg ⟨w2, by omega, rfl⟩)
        · subst h
          have e9 : Int32.ofNat (192 + 16 * n3) + (9 : Int32) = Int32.ofNat (192 + 16 * n3 + 9) := n_add _ 9
          rw [if_neg (by decide), if_neg (by decide), if_neg (by decide), if_neg (by decide), if_pos (by decide), eq_X12_guestHas, if_neg (by decide), if_neg (by decide), if_neg (by decide), if_neg (by decide), if_neg (by decide), if_pos (by decide), fl_116 sr1, eq_X12_kept, fl_116 sr1]
          simp only [yf1 sx1, e9, bI_bI]
          refine j_number (lo := 0) (hi := 99) cx st1 rfl rfl (by decide) (by decide) (fun m => rfl) (fun w2 mx2 mr2 k2 v2 p2 q2 l2 h2 le2 st2 => ?_)
          have sx2 := st_sx cx st2
          have sr2 := st_sr cx st2
          have g2 := st_got st2
          simp only [if_neg i10, ytg sx2 hn, fl_116 sr2, sh_116_26 sr2, gs_nn_s, G 9 (by decide) mr2 sr2, g2, gs_bt1, gs_bI_s]
          exact nxt _ _ _ _ _ _ _ _ _ (by omega) (fun j hj => (upf_n hj).trans (hE j hj)) (st_wb (st_wg cx st2 (show 27 + n3 < 49 by omega) 12 (Int32.ofNat w2)) 9 (Int32.ofNat w2) (by decide) (rs 9)) (gRl_9 hg ⟨w2, by omega, rfl⟩)
        · subst h
          have e11 : Int32.ofNat (192 + 16 * n3) + (11 : Int32) = Int32.ofNat (192 + 16 * n3 + 11) := n_add _ 11
          rw [if_neg (by decide), if_neg (by decide), if_neg (by decide), if_neg (by decide), if_neg (by decide), if_pos (by decide), eq_X12_guestHas, if_neg (by decide), if_neg (by decide), if_pos (by decide), fl_116 sr1, eq_X12_kept, fl_116 sr1]
          simp only [yf1 sx1, e11, bI_bI]
          refine j_number (lo := 1) (hi := 9) cx st1 rfl rfl (by decide) (by decide) (fun m => rfl) (fun w2 mx2 mr2 k2 v2 p2 q2 l2 h2 le2 st2 => ?_)
          have sx2 := st_sx cx st2
          have sr2 := st_sr cx st2
          have g2 := st_got st2
          simp only [if_neg i10, ytg sx2 hn, fl_116 sr2, sh_116_26 sr2, gs_nn_s, G 11 (by decide) mr2 sr2, g2, gs_bt1, gs_bI_s]
          exact nxt _ _ _ _ _ _ _ _ _ (by omega) (fun j hj => (upf_n hj).trans (hE j hj)) (st_wb (st_wg cx st2 (show 27 + n3 < 49 by omega) 14 (Int32.ofNat w2)) 11 (Int32.ofNat w2) (by decide) (rs 11)) (gRl_11 hg ⟨w2, by omega, by omega, rfl⟩)
        · subst h
          have e10 : Int32.ofNat (192 + 16 * n3) + (10 : Int32) = Int32.ofNat (192 + 16 * n3 + 10) := n_add _ 10
          rw [if_neg (by decide), if_neg (by decide), if_neg (by decide), if_neg (by decide), if_neg (by decide), if_neg (by decide), eq_X12_guestHas, if_neg (by decide), if_neg (by decide), if_neg (by decide), if_neg (by decide), if_neg (by decide), if_neg (by decide)]
          simp only [ytg sx1 hn, fl_116 sr1, sh_116_26 sr1, gs_nn_s, e10, G 10 (by decide) mr1 sr1, gs_bt1, gs_bI_s, if_neg i10]
          exact nxt _ _ _ _ _ _ _ _ _ (by omega) hE (st_wb (st_wg cx st1 (show 27 + n3 < 49 by omega) 13 1) 10 1 (by decide) (rs 10)) (gRl_10 hg ⟨1, by decide, rfl⟩)
      · rw [if_neg (fun y => tb (d1.mp y)), if_pos (d2.mpr tb), gs_bt1, gs_bI_s, if_neg i10, fl_116 sr, bI_bU]
        refine jfail cx st (fun m => ?_)
        rfl
    · have eg : gwd c = -1 := if_neg z
      have ax : mx.2.1 S 8 = Int32.ofNat n3 := (st.2.2.1 0 8).trans ((congrFun (sA_n (by omega)) 8).trans a3)
      rw [eg, if_pos (show (-1 : Int32) < 0 by decide), gs_bt1]
      have stz : gs_Sg S L m0 r0 (gs_up2 (owA A (27 + n3) ga) 0 8 (Int32.ofNat (n3 + 1))) (owB B 13 (192 + 16 * n3) 16 gb) c1 c2 E' (gs_sI mx S 8 (Int32.ofNat (n3 + 1))) mr c v p' q' := st_wx (a := 0) (i := 8) (x := Int32.ofNat (n3 + 1)) cx st (by decide)
      have fin : gs_jQ S m0 r0 (gs_Le S L m0 r0 p (inc 3)) (gs_rU (gs_sI mx S 8 (Int32.ofNat (n3 + 1)))) (gs_rI 1 mr) := Or.inr ⟨_, _, rfl, rfl, _, _, _, _, _, _, _, _, _, n0, n1, n2, n3 + 1, n5, n6, n7, n8, hp, stz, rl_guest rl0 hn hg hE⟩
      by_cases y : c < 6
      · rw [if_pos (l6.mpr y), ax, gs_ns]
        exact fin
      · rw [if_neg (fun a => y (l6.mp a)), if_pos (l12.mpr (by omega)), ax, gs_ns]
        exact fin
end DE
