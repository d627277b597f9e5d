/-! The reference goes on to the next token. -/
def gs_RT (M : gs_M) (by_ : Nat → Nat) (L p : Nat) : Prop := M.2.1 116 10 = Int32.ofNat p ∧
  (if p < L then
    (if isSm (by_ p) then
      M.2.1 116 7 = Int32.ofNat (wEnd by_ (L - p) p) ∧ M.2.1 116 8 = rWk (wEnd by_ (L - p) p - p) (pkV by_ p (wEnd by_ (L - p) p - p) * 32 ^ (6 - (wEnd by_ (L - p) p - p))) ∧ M.2.1 116 9 = rWv (wEnd by_ (L - p) p - p) (pkV by_ p (wEnd by_ (L - p) p - p) * 32 ^ (6 - (wEnd by_ (L - p) p - p)))
    else if isDg (by_ p) then
      M.2.1 116 7 = Int32.ofNat (nVal by_ (L - p) p 0).1 ∧ M.2.1 116 9 = Int32.ofNat (nVal by_ (L - p) p 0).2 ∧ M.2.1 116 8 = 3
    else
      M.2.1 116 7 = Int32.ofNat (p + 1 + (rSg (by_ p) (if p + 1 < L then by_ (p + 1) else 0)).2.2) ∧ M.2.1 116 8 = Int32.ofNat (rSg (by_ p) (if p + 1 < L then by_ (p + 1) else 0)).1 ∧ M.2.1 116 9 = Int32.ofNat (rSg (by_ p) (if p + 1 < L then by_ (p + 1) else 0)).2.1)
  else M.2.1 116 7 = Int32.ofNat p ∧ M.2.1 116 8 = 0)
section RTK
variable {X : gs_E} {d : Nat} {m M : gs_M} {T L p : Nat} {by_ : Nat → Nat}
theorem r_take_loop (hX : gs_Fu X) (h : gs_Sh m T) (hB : gs_Bz m by_ L) (hD : gs_Dc m) : ∀ (q p F : Nat) (M : gs_M), p + q = L → q + 900 < F → gs_Wx rsY m M → M.2.1 116 7 = Int32.ofNat p →
    ∃ M', gs_iter X (gs_exec X (d + 1)) gT_X12_take F 0 [(0, .inr (.inr 116))] [] M = gs_rU M' ∧ gs_Wx rsY m M' ∧ gs_RT M' by_ L (bEnd by_ q p) := by
  have hL := hB.1
  intro q
  induction q with
  | zero =>
    intro p F M hp hF hW h7
    obtain ⟨F, rfl⟩ : ∃ y, F = y + 1 := ⟨F - 1, by omega⟩
    have hM := wc_sh h hW
    have e6 := (by_y hB hW).2.2.2
    have r7 : (gs_sI M 116 10 (Int32.ofNat p)).2.1 116 7 = Int32.ofNat p := by rw [gs_sIn (Or.inr (by decide))]; exact h7
    have r6 : (gs_sI M 116 10 (Int32.ofNat p)).2.1 116 6 = Int32.ofNat L := by rw [gs_sIn (Or.inr (by decide))]; exact e6
    have nl : ¬ Int32.ofNat p < Int32.ofNat L := by rw [gs_nlt (by omega) (by omega)]; omega
    have eL : Int32.ofNat p = Int32.ofNat L := by rw [show p = L by omega]
    refine ⟨gs_sI (gs_sI M 116 10 (Int32.ofNat p)) 116 8 0, ?_, wx_sI (wx_sI hW ⟨rfl, Or.inr (Or.inr (Or.inr rfl))⟩) ⟨rfl, Or.inr (Or.inl rfl)⟩, ?_, ?_⟩
    · rw [eq_X12_take_0, fl_116 hM, fl_116 hM, h7, e6, if_neg nl]
      simp only [gs_fld_sI, fl_116 hM, r7, r6, if_pos eL]
    · rw [gs_sIn (Or.inr (by decide)), gs_sIe]
      rfl
    · show if p < L then _ else _
      rw [if_neg (by omega)]
      exact ⟨by rw [gs_sIn (Or.inr (by decide))]; exact r7, gs_sIe _ _ _ _⟩
  | succ q ih =>
    intro p F M hp hF hW h7
    obtain ⟨F, rfl⟩ : ∃ y, F = y + 1 := ⟨F - 1, by omega⟩
    have hM := wc_sh h hW
    have hBM := by_y hB hW
    have e6 := hBM.2.2.2
    obtain ⟨-, bp, b256⟩ := hBM.2.1 p (by omega)
    have hpL : p < L := by omega
    have lt : Int32.ofNat p < Int32.ofNat L := by rw [gs_nlt (by omega) (by omega)]; omega
    have ne : ¬ Int32.ofNat p = Int32.ofNat L := fun y => by have := (n_eq (by omega) (by omega)).mp y; omega
    have s10 : Int32.ofNat (by_ p) = (10 : Int32) ↔ by_ p = 10 := n_eq (b := 10) (by omega) (by decide)
    have s32 : Int32.ofNat (by_ p) = (32 : Int32) ↔ by_ p = 32 := n_eq (b := 32) (by omega) (by decide)
    have w1 : gs_Wx rsY m (gs_sI M 116 10 (Int32.ofNat p)) := wx_sI hW ⟨rfl, Or.inr (Or.inr (Or.inr rfl))⟩
    have hM1 := wc_sh h w1
    have hB1 := by_y hB w1
    have r7 : (gs_sI M 116 10 (Int32.ofNat p)).2.1 116 7 = Int32.ofNat p := by rw [gs_sIn (Or.inr (by decide))]; exact h7
    have r6 : (gs_sI M 116 10 (Int32.ofNat p)).2.1 116 6 = Int32.ofNat L := by rw [gs_sIn (Or.inr (by decide))]; exact e6
    have r10 : (gs_sI M 116 10 (Int32.ofNat p)).2.1 116 10 = Int32.ofNat p := gs_sIe _ _ _ _
    rw [eq_X12_take_0, bEnd_s]
    simp only [fl_116 hM, h7, e6, if_pos lt, sh_116_0 hM, gs_nn_s, gs_ixn hM.1 (show gs_ok 117 13 153 = true from rfl) (show p < 800 by omega), bp, gs_ns]
    by_cases z1 : by_ p = 10
    · rw [if_pos (s10.mpr z1), if_pos (Or.inl z1)]
      exact ih (p + 1) F _ (by omega) (by omega) (wx_sI hW ⟨rfl, Or.inl rfl⟩) (gs_sIe _ _ _ _)
    by_cases z2 : by_ p = 32
    · rw [if_neg (fun y => z1 (s10.mp y)), if_pos (s32.mpr z2), if_pos (Or.inr z2)]
      exact ih (p + 1) F _ (by omega) (by omega) (wx_sI hW ⟨rfl, Or.inl rfl⟩) (gs_sIe _ _ _ _)
    rw [if_neg (fun y => z1 (s10.mp y)), if_neg (fun y => z2 (s32.mp y)), if_neg (show ¬ isBl (by_ p) by omega)]
    generalize gs_sI M 116 10 (Int32.ofNat p) = M1 at w1 hM1 hB1 r7 r6 r10 ⊢
    rw [fl_116 hM1, fl_116 hM1, r7, r6, if_neg ne, fl_116 hM1, fl_116 hM1, r_isSmall hM1 hB1 (by omega), gs_bI_s, b2_if]
    by_cases c1 : isSm (by_ p)
    · obtain ⟨M', a1, a2, a3, a4, a5, a6⟩ := r_word_loop (X := X) (d := d) (a := p) hX hM1 hB1 (dc_y hD w1) (L - p) p F M1 (by omega) (Nat.le_refl _) (by omega) (fun j h1 h2 => by omega) (wx_refl M1) r7 r10
      refine ⟨M', ?_, wx_trans w1 a2, a4, ?_⟩
      · rw [if_pos ⟨hpL, c1⟩]
        exact a1
      · rw [if_pos hpL, if_pos c1]
        exact ⟨a3, a5, a6⟩
    rw [if_neg (fun y => c1 y.2), fl_116 hM1, fl_116 hM1, r7, r_isDigit hM1 hB1 (by omega), gs_bI_s, b2_if]
    by_cases c2 : isDg (by_ p)
    · have w2 : gs_Wx rsY M1 (gs_sI (gs_sI M1 116 8 3) 116 9 0) := wx_sI (wx_sI (wx_refl M1) ⟨rfl, Or.inr (Or.inl rfl)⟩) ⟨rfl, Or.inr (Or.inr (Or.inl rfl))⟩
      obtain ⟨M', a1, a2, a3, a4, a5, a6⟩ := r_num_loop (X := X) (d := d) hM1 hB1 (L - p) p 0 F (gs_sI (gs_sI M1 116 8 3) 116 9 0) (by omega) (by omega) (by decide) w2 (by rw [gs_sIn (Or.inr (by decide)), gs_sIn (Or.inr (by decide))]; exact r7) (by rw [gs_sIe]; rfl)
      refine ⟨M', ?_, wx_trans w1 a2, ?_, ?_⟩
      · rw [if_pos ⟨hpL, c2⟩]
        simp only [gs_fld_sI, fl_116 hM1]
        exact a1
      · rw [a6, gs_sIn (Or.inr (by decide)), gs_sIn (Or.inr (by decide))]
        exact r10
      · rw [if_pos hpL, if_neg c1, if_pos c2]
        exact ⟨a3, a4, by rw [a5, gs_sIn (Or.inr (by decide)), gs_sIe]⟩
    obtain ⟨M', a1, a2, a3, a4, a5, a6⟩ := r_takeSign (X := X) (d := d) hX hM1 hB1 hpL r7
    refine ⟨M', ?_, wx_trans w1 a2, a6.trans r10, ?_⟩
    · rw [if_neg (fun y => c2 y.2), fl_116 hM1, a1, gs_bU_s]
    · rw [if_pos hpL, if_neg c1, if_neg c2]
      exact ⟨a3, a4, a5⟩
theorem r_take (hX : gs_Fu X) (h : gs_Sh m T) (hB : gs_Bz m by_ L) (hD : gs_Dc m) (hp : p ≤ L) (h7 : m.2.1 116 7 = Int32.ofNat p) : ∃ M', gs_exec X (d + 2) 182 [.inr (.inr 116)] m = gs_rU M' ∧ gs_Wx rsY m M' ∧ gs_RT M' by_ L (bEnd by_ (L - p) p) := by
  have hL := hB.1
  have e := (eq_X12_take X (d + 1) 116 m).trans (eq_X12_take_0 X (d + 1) X.1 116 m).symm
  rw [e]
  exact r_take_loop hX h hB hD (L - p) p (X.1 + 1) m (by omega) (by unfold gs_Fu at hX; omega) (wx_refl m) h7
end RTK
