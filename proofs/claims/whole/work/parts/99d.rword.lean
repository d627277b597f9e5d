/-! The reference reads a word. -/
section RW
variable {X : gs_E} {d : Nat} {m M : gs_M} {T L a len k p : Nat} {by_ : Nat → Nat}
theorem dc_y (hD : gs_Dc m) (hW : gs_Wx rsY m M) : gs_Dc M := fun j hj => by
  rw [hW.2.2 118 j (fun q => by unfold rsY at q; omega)]
  exact hD j hj
/-- kind and value of a word of so many letters, packed v -/
def rWk (len v : Nat) : Int32 := if len ≤ 6 then (if kWr v 32 < 32 then 1 else 2) else 6
def rWv (len v : Nat) : Int32 := if len ≤ 6 then (if kWr v 32 < 32 then Int32.ofNat (kWr v 32) else Int32.ofNat v) else -1
theorem kWr_le {v : Nat} : ∀ i, i ≤ 32 → kWr v i ≤ 32
  | 0, _ => Nat.le_refl _
  | i + 1, h => by
    show (if lnr i = v then i else kWr v i) ≤ 32
    split
    · omega
    · exact kWr_le i (by omega)
theorem r_word_loop (hX : gs_Fu X) (h : gs_Sh m T) (hB : gs_Bz m by_ L) (hD : gs_Dc m) : ∀ (q p F : Nat) (M : gs_M), p + q = L → a ≤ p → q < F → (∀ j, a ≤ j → j < p → isSm (by_ j)) → gs_Wx rsY m M → M.2.1 116 7 = Int32.ofNat p → M.2.1 116 10 = Int32.ofNat a →
    ∃ M', gs_iter X (gs_exec X (d + 1)) gT_X12_take F 90 [(0, .inr (.inr 116))] [] M = gs_rU M' ∧ gs_Wx rsY m M' ∧ M'.2.1 116 7 = Int32.ofNat (wEnd by_ q p) ∧ M'.2.1 116 10 = Int32.ofNat a ∧ M'.2.1 116 8 = rWk (wEnd by_ q p - a) (pkV by_ a (wEnd by_ q p - a) * 32 ^ (6 - (wEnd by_ q p - a))) ∧ M'.2.1 116 9 = rWv (wEnd by_ q p - a) (pkV by_ a (wEnd by_ q p - a) * 32 ^ (6 - (wEnd by_ q p - a))) := by
  have hL := hB.1
  have fin : ∀ (p F : Nat) (M : gs_M), p ≤ L → a ≤ p → (∀ j, a ≤ j → j < p → isSm (by_ j)) → ¬ (p < L ∧ isSm (by_ p)) → gs_Wx rsY m M → M.2.1 116 7 = Int32.ofNat p → M.2.1 116 10 = Int32.ofNat a → ∃ M', gs_iter X (gs_exec X (d + 1)) gT_X12_take (F + 1) 90 [(0, .inr (.inr 116))] [] M = gs_rU M' ∧ gs_Wx rsY m M' ∧ M'.2.1 116 7 = Int32.ofNat p ∧ M'.2.1 116 10 = Int32.ofNat a ∧ M'.2.1 116 8 = rWk (p - a) (pkV by_ a (p - a) * 32 ^ (6 - (p - a))) ∧ M'.2.1 116 9 = rWv (p - a) (pkV by_ a (p - a) * 32 ^ (6 - (p - a))) := by
    intro p F M hp ha hsm hno hW h7 h10
    have hM := wc_sh h hW
    have hBM := by_y hB hW
    have hs : ∀ j, j < p - a → isSm (by_ (a + j)) := fun j hj => hsm (a + j) (by omega) (by omega)
    have wa := r_wordAt (X := X) (d := d) (a := a) (len := p - a) hX hM hBM (dc_y hD hW) (by omega) hs
    rw [show a + (p - a) = p by omega] at wa
    unfold rWk rWv
    generalize hv : pkV by_ a (p - a) * 32 ^ (6 - (p - a)) = v at wa ⊢
    have kb := kWr_le (v := v) 32 (Nat.le_refl _)
    rw [eq_X12_take_90, fl_116 hM, fl_116 hM, h7, r_isSmall hM hBM (by omega), gs_bI_s, b2_if, if_neg hno]
    have w1 : ∀ x, gs_Wx rsY m (gs_sI M 116 9 x) := fun x => wx_sI hW ⟨rfl, Or.inr (Or.inr (Or.inl rfl))⟩
    have w2 : ∀ x y, gs_Wx rsY m (gs_sI (gs_sI M 116 9 x) 116 8 y) := fun x y => wx_sI (w1 x) ⟨rfl, Or.inr (Or.inl rfl)⟩
    have c7 : ∀ x y, (gs_sI (gs_sI M 116 9 x) 116 8 y).2.1 116 7 = Int32.ofNat p := fun x y => by
      rw [gs_sIn (Or.inr (by decide)), gs_sIn (Or.inr (by decide))]; exact h7
    have c10 : ∀ x y, (gs_sI (gs_sI M 116 9 x) 116 8 y).2.1 116 10 = Int32.ofNat a := fun x y => by
      rw [gs_sIn (Or.inr (by decide)), gs_sIn (Or.inr (by decide))]; exact h10
    have d7 : ∀ x, (gs_sI M 116 9 x).2.1 116 7 = Int32.ofNat p := fun x => by rw [gs_sIn (Or.inr (by decide))]; exact h7
    have d10 : ∀ x, (gs_sI M 116 9 x).2.1 116 10 = Int32.ofNat a := fun x => by rw [gs_sIn (Or.inr (by decide))]; exact h10
    have l6 : (6 : Int32) < Int32.ofNat (p - a) ↔ 6 < p - a := gs_nlt (a := 6) (by decide) (by omega)
    by_cases z : p - a ≤ 6
    · by_cases y : kWr v 32 < 32
      · rw [if_pos (show p - a ≤ 6 ∧ kWr v 32 < 32 from ⟨z, y⟩)] at wa
        simp only [gs_fld_sI, fl_116 hM, h7, h10, wa, gs_bI_s, gs_sIe, d7, d10, c7, c10, n_sb ha]
        rw [if_neg (gs_nneg (by omega)), if_neg (show ¬ (1 : Int32) = 2 by decide)]
        refine ⟨_, rfl, w2 _ _, c7 _ _, c10 _ _, ?_, ?_⟩
        · rw [gs_sIe, if_pos z, if_pos y]
        · rw [gs_sIn (Or.inr (by decide)), gs_sIe, if_pos z, if_pos y]
      · rw [if_neg (show ¬ (p - a ≤ 6 ∧ kWr v 32 < 32) from fun w => y w.2)] at wa
        simp only [gs_fld_sI, fl_116 hM, h7, h10, wa, gs_bI_s, gs_sIe, d7, d10, c7, c10, n_sb ha]
        rw [if_pos (show (-1 : Int32) < 0 by decide), if_neg (show ¬ (6 : Int32) < Int32.ofNat (p - a) from fun w => by have := l6.mp w; omega), if_pos trivial]
        have pk := r_packed (X := X) (d := d) (a := a) (len := p - a) hX (wc_sh h (w2 (-1) 2)) (by_y hB (w2 (-1) 2)) (by omega) z hs
        rw [show a + (p - a) = p by omega, hv] at pk
        rw [pk, gs_bI_s]
        simp only [gs_fld_sI, fl_116 hM]
        refine ⟨_, rfl, wx_sI (w2 (-1) 2) ⟨rfl, Or.inr (Or.inr (Or.inl rfl))⟩, ?_, ?_, ?_, ?_⟩
        · rw [gs_sIn (Or.inr (by decide))]; exact c7 _ _
        · rw [gs_sIn (Or.inr (by decide))]; exact c10 _ _
        · rw [gs_sIn (Or.inr (by decide)), gs_sIe, if_pos z, if_neg y]
        · rw [gs_sIe, if_pos z, if_neg y]
    · rw [if_neg (show ¬ (p - a ≤ 6 ∧ kWr v 32 < 32) from fun w => z w.1)] at wa
      simp only [gs_fld_sI, fl_116 hM, h7, h10, wa, gs_bI_s, gs_sIe, d7, d10, c7, c10, n_sb ha]
      rw [if_pos (show (-1 : Int32) < 0 by decide), if_pos (l6.mpr (by omega)), if_neg (show ¬ (6 : Int32) = 2 by decide)]
      refine ⟨_, rfl, w2 _ _, c7 _ _, c10 _ _, ?_, ?_⟩
      · rw [gs_sIe, if_neg z]
      · rw [gs_sIn (Or.inr (by decide)), gs_sIe, if_neg z]
  intro q
  induction q with
  | zero =>
    intro p F M hp ha hF hsm hW h7 h10
    obtain ⟨F, rfl⟩ : ∃ y, F = y + 1 := ⟨F - 1, by omega⟩
    exact fin p F M (by omega) ha hsm (fun y => by have := y.1; omega) hW h7 h10
  | succ q ih =>
    intro p F M hp ha hF hsm hW h7 h10
    obtain ⟨F, rfl⟩ : ∃ y, F = y + 1 := ⟨F - 1, by omega⟩
    have hM := wc_sh h hW
    rw [wEnd_s]
    by_cases z : isSm (by_ p)
    · rw [if_pos z, eq_X12_take_90, fl_116 hM, fl_116 hM, h7, r_isSmall hM (by_y hB hW) (by omega), gs_bI_s, b2_if, if_pos ⟨by omega, z⟩]
      simp only [fl_116 hM, h7, gs_ns]
      exact ih (p + 1) F _ (by omega) (by omega) (by omega) (fun j h1 h2 => by
        by_cases e : j = p
        · rw [e]
          exact z
        · exact hsm j h1 (by omega)) (wx_sI hW ⟨rfl, Or.inl rfl⟩) (gs_sIe _ _ _ _) (by rw [gs_sIn (Or.inr (by decide))]; exact h10)
    · rw [if_neg z]
      exact fin p F M (by omega) ha hsm (fun y => z y.2) hW h7 h10
end RW
