/-! Luck (the reference). -/
section RLU
variable {X : gs_E} {d : Nat} {m M : gs_M} {T n n0 n1 n2 n5 turn price blur limit kn k g c s : Nat} {D x y w : Int32} {tl tf : Nat → Nat → Nat}
theorem sd_lt (hs : s < 2147483648) : ∀ g, sd m s g < 2147483648
  | 0 => hs
  | g + 1 => by
    show (if gd m g 4 = -1 then sd m s g else nRoll (nRoll (sd m s g))) < 2147483648
    split
    · exact sd_lt hs g
    · exact nRoll_lt _
theorem r_lk56 {N i base : Nat} {v : Int32} (hX : gs_Fu X) (hT : gs_To m T n n0 n1 n2 n5 turn blur price) (h51 : m.2.1 116 51 = 1) (e2 : m.2.1 122 2 = Int32.ofNat limit) (hlim : limit ≤ 999) (hK : gs_Kn m n kn D) (hb : base ≤ 12) (hs : s < 2147483648) : ∀ (q g F : Nat) (M : gs_M), g + q = n → gs_Wr m M → M.2.2.1 116 59 = Int64.ofNat (sd m s g) → (∀ j, j < g → gd m j 4 ≠ -1 → M.2.1 146 j = Int32.ofNat (dX m s j) ∧ M.2.1 147 j = Int32.ofNat (dY m s j)) →
    ∃ M', gs_iter X (gs_exec X (d + 7)) gT_X12_luck (F + q + 1) 56 [(0, .inr (.inr 116)), (2, .inl (Int32.ofNat N)), (3, .inl (Int32.ofNat base)), (4, .inl v), (5, .inl (Int32.ofNat i)), (6, .inl (Int32.ofNat g))] [] M = gs_iter X (gs_exec X (d + 7)) gT_X12_luck F 47 [(0, .inr (.inr 116)), (2, .inl (Int32.ofNat N)), (3, .inl (Int32.ofNat base)), (4, .inl (if nLk m n n5 blur limit kn D s < base then v else v + 1)), (5, .inl (Int32.ofNat (i + 1)))] [] M' ∧ gs_Wr m M' ∧ M'.2.2.1 116 59 = Int64.ofNat (sd m s n) := by
  have h := hT.1.1
  have hn := hT.1.2.2.2.1
  have hk := hT.2.2.1.2.2.2.1
  have h1 := hT.1.2.2.2.2.2.1
  have hV := hT.1.2.2.2.2.2.2.2.2.2.2.2.2
  intro q
  induction q with
  | zero =>
    intro g F M hg hW h59 hl
    have e : g = n := by omega
    subst e
    have hTM := wr_to hT hW
    have hM := hTM.1.1
    have e3M := hTM.1.2.2.1
    have e2M : M.2.1 122 2 = Int32.ofNat limit := by rw [wr_cell hW 122 (by decide) (by decide)]; exact e2
    have hKM := wd_kn hK (wd_r hW)
    obtain ⟨M1, l1, l2, l3, l4⟩ := r_layPairs (X := X) (d := d) (tf := nTL m blur s) hX hM e3M hTM.2.2.1.2.2.1 hn hk e2M hlim hKM (fun a c ha hc => by have := (nTL_n (s := s) hT ha hc).2; omega) (fun M2 a c w2 ha hc => by
      have w3 := wr_trans hW (wl_r w2)
      have hT2 := wr_to hT w3
      have h512 : M2.2.1 116 51 = 1 := (w3.2.2 116 51 (fun q => by unfold gs_rs at q; omega)).trans h51
      obtain ⟨M3, t1, t2⟩ := r_tollL (X := X) (d := d) hX hT2 h512 ha hc
      refine ⟨M3, ?_, t2⟩
      rw [t1, ← (nTL_n (s := s) hT ha hc).1]
      unfold f_tollL f_ptL f_pL
      rw [wr_outA w3, wr_gd w3]
      by_cases z : gd m a 4 = -1
      · rw [if_pos z, if_pos z]
      · obtain ⟨q1, q2⟩ := hl a ha z
        rw [if_neg z, if_neg z, w2.2.2 146 a (fun q => by unfold rsL rsN at q; omega), w2.2.2 147 a (fun q => by unfold rsL rsN at q; omega), q1, q2]
        unfold cd
        rw [wr_cell w3 133 (by decide) (by decide)])
    have hW1 := wr_trans hW (wq_r l2)
    have hM1 := wr_sh h hW1
    have e3M1 := (wr_to hT hW1).1.2.2.1
    have pmn : gs_exec X (d + 7) 271 [.inr (.inr 116)] M1 = gs_rI (Int32.ofNat (nLk m g n5 blur limit kn D s)) M1 := by
      rw [eq_X12_pairMany]
      exact r_pm_loop (X := X) (d := d + 6) (tl := tlx (nTL m blur s) limit kn D) hM1 e3M1 hn hk l4 g 0 X.1 (by omega) (by unfold gs_Fu at hX; omega)
    have b2 : nLk m g n5 blur limit kn D s ≤ g := nCt_le g
    refine ⟨M1, ?_, hW1, by rw [r_lay_longs l1]; exact h59⟩
    show gs_iter X (gs_exec X (d + 7)) gT_X12_luck (F + 1) 56 _ [] M = _
    rw [eq_X12_luck_56, fl_116 hM, sh_116_12 hM, gs_nn_s, r_i119_3 hM, e3M, if_neg (by rw [gs_nlt (by omega) (by omega)]; omega), fl_116 hM, l1, gs_bU_s, fl_116 hM1, pmn, gs_bI_s, gs_ns, show v + (0 : Int32) = v by simp]
    by_cases z : nLk m g n5 blur limit kn D s < base
    · rw [if_pos z, if_pos ((gs_nlt (by omega) (by omega)).mpr z)]
    · rw [if_neg z, if_neg (fun y => z ((gs_nlt (by omega) (by omega)).mp y))]
  | succ q ih =>
    intro g F M hg hW h59 hl
    have hTM := wr_to hT hW
    have hM := hTM.1.1
    have e3M := hTM.1.2.2.1
    have hg12 : g < 12 := by omega
    have hgn : g < n := by omega
    have es : sd m s (g + 1) = if gd m g 4 = -1 then sd m s g else nRoll (nRoll (sd m s g)) := rfl
    show ∃ M', gs_iter X (gs_exec X (d + 7)) gT_X12_luck (F + q + 1 + 1) 56 _ [] M = _ ∧ _
    rw [eq_X12_luck_56, fl_116 hM, sh_116_12 hM, gs_nn_s, r_i119_3 hM, e3M, if_pos (by rw [gs_nlt (by omega) (by omega)]; omega), fl_116 hM, r_hasGate hM hg12, gs_bI_s, b2_if, wr_gd hW]
    by_cases z : gd m g 4 = -1
    · rw [if_pos z] at es
      rw [if_neg (fun y => y ((f_gate (hV g hgn) h1).mpr z)), gs_ns]
      exact ih (g + 1) F M (by omega) hW (by rw [es]; exact h59) (fun j hj zj => hl j (by
        by_cases e : j = g
        · exact absurd (e ▸ z) zj
        · omega) zj)
    · rw [if_neg z] at es
      have ls := sd_lt (m := m) hs g
      have l1 := nRoll_lt (sd m s g)
      have hW1 : gs_Wr m (gs_sJ M 116 59 (Int64.ofNat (nRoll (sd m s g)))) := wr_sJ hW
      have hM1 := wr_sh h hW1
      have hW2 : gs_Wr m (gs_sI (gs_sJ M 116 59 (Int64.ofNat (nRoll (sd m s g)))) 146 g (Int32.ofNat (nRoll (sd m s g) / 65536 % 120))) := wr_sI hW1 (Or.inr (Or.inl ⟨by decide, by decide⟩))
      have hM2 := wr_sh h hW2
      have hW3 : gs_Wr m (gs_sJ (gs_sI (gs_sJ M 116 59 (Int64.ofNat (nRoll (sd m s g)))) 146 g (Int32.ofNat (nRoll (sd m s g) / 65536 % 120))) 116 59 (Int64.ofNat (nRoll (nRoll (sd m s g))))) := wr_sJ hW2
      have hM3 := wr_sh h hW3
      have hW4 : gs_Wr m (gs_sI (gs_sJ (gs_sI (gs_sJ M 116 59 (Int64.ofNat (nRoll (sd m s g)))) 146 g (Int32.ofNat (nRoll (sd m s g) / 65536 % 120))) 116 59 (Int64.ofNat (nRoll (nRoll (sd m s g))))) 147 g (Int32.ofNat (nRoll (nRoll (sd m s g)) / 65536 % 60))) := wr_sI hW3 (Or.inr (Or.inl ⟨by decide, by decide⟩))
      obtain ⟨M', i1, i2⟩ := ih (g + 1) F _ (by omega) hW4 (by rw [es]; exact gs_sJe _ _ _ _) (fun j hj zj => by
        by_cases e : j = g
        · subst e
          exact ⟨by rw [gs_sIn (Or.inl (by decide)), gs_sJ21, gs_sIe], by rw [gs_sIe]⟩
        · have := hl j (by omega) zj
          exact ⟨by rw [gs_sIn (Or.inl (by decide)), gs_sJ21, gs_sIn (Or.inr e), gs_sJ21]; exact this.1, by rw [gs_sIn (Or.inr e), gs_sJ21, gs_sIn (Or.inl (by decide)), gs_sJ21]; exact this.2⟩)
      refine ⟨M', ?_, i2⟩
      rw [if_pos (fun y => z ((f_gate (hV g hgn) h1).mp y)), fl_116 hM, sh_116_52 hM, gs_nn_s, fl_116 hM]
      show gs_bI (gs_exec X (d + 7) 304 [.inr (.inr 116), .inl (Int32.ofNat 120)] M) _ _ = _
      rw [r_drawn (by decide) (by decide) hM h59 ls, gs_bI_s, gs_ixn hM1.1 (show gs_ok 146 13 153 = true from rfl) (show g < 12 from hg12)]
      show gs_fld (gs_sI (gs_sJ M 116 59 (Int64.ofNat (nRoll (sd m s g)))) 146 g (Int32.ofNat (nRoll (sd m s g) / 65536 % 120))) 116 11 _ = _
      rw [fl_116 hM2, sh_116_53 hM2, gs_nn_s, fl_116 hM2]
      show gs_bI (gs_exec X (d + 7) 304 [.inr (.inr 116), .inl (Int32.ofNat 60)] _) _ _ = _
      rw [r_drawn (by decide) (by decide) hM2 (gs_sJe _ _ _ _) l1, gs_bI_s, gs_ixn hM3.1 (show gs_ok 147 13 153 = true from rfl) (show g < 12 from hg12), gs_ns]
      exact i1
theorem r_lk47 {N base : Nat} (hX : gs_Fu X) (hT : gs_To m T n n0 n1 n2 n5 turn blur price) (h51 : m.2.1 116 51 = 1) (e2 : m.2.1 122 2 = Int32.ofNat limit) (hlim : limit ≤ 999) (hK : gs_Kn m n kn D) (hb : base ≤ 12) (hN : N ≤ 20) : ∀ (q i F s : Nat) (v : Int32) (M : gs_M), i + q = N → q * 14 < F → s < 2147483648 → gs_Wr m M → M.2.2.1 116 59 = Int64.ofNat s →
    ∃ M', gs_iter X (gs_exec X (d + 7)) gT_X12_luck F 47 [(0, .inr (.inr 116)), (2, .inl (Int32.ofNat N)), (3, .inl (Int32.ofNat base)), (4, .inl v), (5, .inl (Int32.ofNat i))] [] M = gs_rI (f_lk m n n5 blur limit kn D base q s v) (gs_sI M' 116 51 0) ∧ gs_Wr m M' := by
  have h := hT.1.1
  have hn := hT.1.2.2.2.1
  intro q
  induction q with
  | zero =>
    intro i F s v M hi hF hs hW h59
    obtain ⟨F, rfl⟩ : ∃ z, F = z + 1 := ⟨F - 1, by omega⟩
    have hM := wr_sh h hW
    refine ⟨M, ?_, hW⟩
    rw [eq_X12_luck_47, if_neg (by rw [gs_nlt (by omega) (by omega)]; omega), fl_116 hM, gs_bt0]
    rfl
  | succ q ih =>
    intro i F s v M hi hF hs hW h59
    obtain ⟨F, rfl⟩ : ∃ z, F = z + n + 1 + 1 := ⟨F - n - 2, by omega⟩
    obtain ⟨M1, a1, a2, a3⟩ := r_lk56 (X := X) (d := d) (N := N) (i := i) (v := v) (s := s) hX hT h51 e2 hlim hK hb hs n 0 F M (by omega) hW h59 (fun j hj => by omega)
    obtain ⟨M2, b1, b2⟩ := ih (i + 1) F (sd m s n) (if nLk m n n5 blur limit kn D s < base then v else v + 1) M1 (by omega) (by omega) (sd_lt hs n) a2 a3
    refine ⟨M2, ?_, b2⟩
    rw [eq_X12_luck_47, if_pos (by rw [gs_nlt (by omega) (by omega)]; omega), f_lk_s]
    exact a1.trans b1
theorem r_luck (hX : gs_Fu X) (hP : gs_Pa m T n n0 n1 n2 n5 turn blur price limit kn D) : ∃ M, gs_exec X (d + 8) 306 [.inr (.inr 116), .inl x, .inl y] m = gs_rI (f_luck m n n5 price blur limit kn D x y) M ∧ gs_Wr m M := by
  have hW0 := wr_thr (m := m) (x := 0)
  have hP2 := wr_pa hP hW0
  have h := hP.1.1.1
  have hs := hP2.1.1.1
  have hn := hP.1.1.2.2.2.1
  have hk := hP.1.2.2.1.2.2.2.1
  unfold f_luck
  rw [eq_X12_luck, fl_116 h]
  show ∃ M, (if x < 0 then gs_rI (-1) (gs_sI m 116 2 0) else gs_bI (gs_exec X (d + 7) 175 [.inl y, .inl 1, .inl 20] (gs_sI m 116 2 0)) _ _) = _ ∧ _
  by_cases hx : x < 0
  · rw [if_pos hx, if_pos hx]
    exact ⟨_, rfl, hW0⟩
  rw [if_neg hx, if_neg hx, r_isIn, gs_bI_s, b2_if]
  obtain ⟨ex, bx⟩ := i_pos hx
  by_cases hy : isBt y 1 20
  · obtain ⟨N, hN, rfl, eN⟩ := i_20 hy
    obtain ⟨M, e, hW, h148, h150⟩ := r_pairsN (X := X) (d := d) hX hP2
    rw [wd_tlF (wd_r hW0)] at h150
    have hWr := wr_trans hW0 (wq_r hW)
    have hM := wr_sh h hWr
    have hPM := wr_pa hP hWr
    have pmn : gs_exec X (d + 7) 271 [.inr (.inr 116)] M = gs_rI (Int32.ofNat (nCt (sgm (tlF m price blur limit kn D) n n5) n5 n)) M := by
      rw [eq_X12_pairMany]
      exact r_pm_loop (X := X) (d := d + 6) (tl := tlF m price blur limit kn D) hM hPM.1.1.2.2.1 hn hk h150 n 0 X.1 (by omega) (by unfold gs_Fu at hX; omega)
    have b1 := nCt_le (σ := sgm (tlF m price blur limit kn D) n n5) (k := n5) n
    have hWd : gs_Wd M (gs_sI (gs_sJ M 116 59 (Int32.toInt64 x)) 116 51 1) := wx_sI (wd_r (wr_sJ (wr_refl M))) (Or.inr (Or.inr (Or.inr ⟨rfl, rfl⟩)))
    have hB := wd_to hPM.1 hWd
    have hWm : gs_Wd m (gs_sI (gs_sJ M 116 59 (Int32.toInt64 x)) 116 51 1) := wx_trans (wd_r hWr) hWd
    obtain ⟨M', l1, l2⟩ := r_lk47 (X := X) (d := d) (base := nCt (sgm (tlF m price blur limit kn D) n n5) n5 n) hX hB (gs_sIe _ _ _ _) (by rw [wd_cell hWd 122 (by decide) (by decide)]; exact hPM.2.2.1) hP.2.2.2.1 (wd_kn hPM.2.2.2.2.1 hWd) (by omega) hN N 0 X.1 x.toInt.toNat 0 _ (by omega) (by unfold gs_Fu at hX; omega) bx (wr_refl _) ((gs_sJe _ _ _ _).trans (by rw [← l_32 bx, ← ex]))
    rw [f_lk_wd hWm] at l1
    have hMB := hB.1.1
    refine ⟨gs_sI M' 116 51 0, ?_, l2.1.trans hWr.1, l2.2.1.trans hWr.2.1, fun a i hn => ?_⟩
    · rw [if_pos hy, if_pos hy, fl_116 hs, e, gs_bU_s, fl_116 hM, pmn, gs_bI_s, fl_116 hM, eN]
      show gs_fld (gs_sJ M 116 59 (Int32.toInt64 x)) 116 11 (gs_bt 1 _) = _
      rw [fl_116 (show gs_Sh (gs_sJ M 116 59 (Int32.toInt64 x)) T from hM), gs_bt1]
      exact l1
    · by_cases z : a = 116 ∧ i = 51
      · rw [z.1, z.2, gs_sIe]
        exact hP.2.2.2.2.2.symm
      · have z2 : a ≠ 116 ∨ i ≠ 51 := by omega
        rw [gs_sIn z2, l2.2.2 a i hn, gs_sIn z2, gs_sJ21, hWr.2.2 a i hn]
  · rw [if_neg hy, if_neg hy]
    exact ⟨_, rfl, hW0⟩
end RLU
