/-! The class reads a word's letters. -/
section LE
variable {X : gs_E} {d : Nat} {m M : gs_M} {T L p v a len : Nat} {by_ : Nat → Nat}
theorem n_sb {p a : Nat} (h : a ≤ p) : Int32.ofNat p - Int32.ofNat a = Int32.ofNat (p - a) := by
  have e : Int32.ofNat p = Int32.ofNat (p - a) + Int32.ofNat a := by rw [n_add, Nat.sub_add_cancel h]
  rw [e, Int32.add_sub_cancel]
theorem n_shk : ∀ k, k ≤ 6 → ((((5 : Int32) * ((6 : Int32) - Int32.ofNat k)) &&& 31).toBitVec.smod 32).toNat = 5 * (6 - k) := by decide
theorem n_shw {v k : Nat} (hk : k ≤ 6) : Int32.ofNat v <<< (((5 : Int32) * ((6 : Int32) - Int32.ofNat k)) &&& 31) = Int32.ofNat (v * 32 ^ (6 - k)) := by
  apply Int32.toBitVec_inj.mp
  rw [Int32.toBitVec_shiftLeft, Int32.toBitVec_ofNat', Int32.toBitVec_ofNat']
  apply BitVec.eq_of_toNat_eq
  rw [BitVec.shiftLeft_eq', BitVec.toNat_shiftLeft, BitVec.toNat_ofNat, BitVec.toNat_ofNat, n_shk k hk, Nat.shiftLeft_eq, Nat.pow_mul, show (2 : Nat) ^ 5 = 32 from rfl, Nat.mul_mod, Nat.mod_mod, ← Nat.mul_mod]
theorem wEnd_le : ∀ q p, p ≤ wEnd by_ q p ∧ wEnd by_ q p ≤ p + q
  | 0, p => ⟨Nat.le_refl _, Nat.le_refl _⟩
  | q + 1, p => by
    rw [wEnd_s]
    split
    · have := wEnd_le q (p + 1)
      omega
    · omega
theorem wEnd_sm : ∀ q p j, p ≤ j → j < wEnd by_ q p → isSm (by_ j)
  | 0, p, j, h1, h2 => by
    have e : wEnd by_ 0 p = p := rfl
    omega
  | q + 1, p, j, h1, h2 => by
    rw [wEnd_s] at h2
    by_cases z : isSm (by_ p)
    · rw [if_pos z] at h2
      by_cases y : j = p
      · rw [y]
        exact z
      · exact wEnd_sm q (p + 1) j (by omega) h2
    · rw [if_neg z] at h2
      omega
/-- what stands when the letters end at e -/
def gs_Wd6 (o : gs_O) (m : gs_M) (X : gs_E) (d : Nat) (by_ : Nat → Nat) (a e : Nat) : Prop := ∃ M' F', 33 < F' ∧ gs_Wx rsX m M' ∧ M'.2.1 3 3 = Int32.ofNat e ∧ M'.2.1 3 6 = Int32.ofNat a ∧ o = (if 6 < e - a then gs_rU M' else gs_iter X (gs_exec X d) gT_X9_takeWord F' 142 [(0, .inr (.inr 3)), (2, .inl 0)] [] M') ∧ (6 < e - a → M'.2.1 3 5 = 35) ∧ (e - a ≤ 6 → M'.2.1 3 5 = 32 ∧ M'.2.1 3 7 = Int32.ofNat (pkV by_ a (e - a) * 32 ^ (6 - (e - a))))
theorem x_word_loop (h : gs_Sh m T) (hB : gs_Bx m by_ L) : ∀ (q p F : Nat) (M : gs_M), p + q = L → a ≤ p → q + 40 < F → gs_Wx rsX m M → M.2.1 3 3 = Int32.ofNat p → M.2.1 3 6 = Int32.ofNat a → M.2.1 3 7 = Int32.ofNat (pkV by_ a (min (p - a) 6)) →
    gs_Wd6 (gs_iter X (gs_exec X d) gT_X9_takeWord F 5 [(0, .inr (.inr 3))] [] M) m X d by_ a (wEnd by_ q p) := by
  have hL := hB.1
  have fin : ∀ (p F : Nat) (M : gs_M), p ≤ L → a ≤ p → 33 < F → gs_Wx rsX m M → M.2.1 3 3 = Int32.ofNat p → M.2.1 3 6 = Int32.ofNat a → M.2.1 3 7 = Int32.ofNat (pkV by_ a (min (p - a) 6)) → gs_Wd6 (if (6 : Int32) < Int32.ofNat (p - a) then gs_rU (gs_sI M 3 5 35) else gs_iter X (gs_exec X d) gT_X9_takeWord F 142 [(0, .inr (.inr 3)), (2, .inl 0)] [] (gs_sI (gs_sI M 3 7 (Int32.ofNat (pkV by_ a (min (p - a) 6)) <<< (((5 : Int32) * ((6 : Int32) - Int32.ofNat (p - a))) &&& 31))) 3 5 32)) m X d by_ a p := by
    intro p F M hp ha hF hW h3 h6 h7
    have l6 : (6 : Int32) < Int32.ofNat (p - a) ↔ 6 < p - a := gs_nlt (a := 6) (by decide) (by omega)
    by_cases z : 6 < p - a
    · refine ⟨gs_sI M 3 5 35, F, hF, wx_sI hW ⟨rfl, Or.inr (Or.inl rfl)⟩, by rw [gs_sIn (Or.inr (by decide))]; exact h3, by rw [gs_sIn (Or.inr (by decide))]; exact h6, ?_, fun _ => gs_sIe _ _ _ _, fun y => by omega⟩
      rw [if_pos z, if_pos (l6.mpr z)]
    · refine ⟨gs_sI (gs_sI M 3 7 (Int32.ofNat (pkV by_ a (min (p - a) 6)) <<< (((5 : Int32) * ((6 : Int32) - Int32.ofNat (p - a))) &&& 31))) 3 5 32, F, hF, wx_sI (wx_sI hW ⟨rfl, Or.inr (Or.inr (Or.inr rfl))⟩) ⟨rfl, Or.inr (Or.inl rfl)⟩, by rw [gs_sIn (Or.inr (by decide)), gs_sIn (Or.inr (by decide))]; exact h3, by rw [gs_sIn (Or.inr (by decide)), gs_sIn (Or.inr (by decide))]; exact h6, by rw [if_neg z, if_neg (fun y => z (l6.mp y))], fun y => absurd y z, fun y => ⟨gs_sIe _ _ _ _, ?_⟩⟩
      rw [gs_sIn (Or.inr (by decide)), gs_sIe, n_shw (by omega), Nat.min_eq_left y]
  intro q
  induction q with
  | zero =>
    intro p F M hp ha hF hW h3 h6 h7
    obtain ⟨F, rfl⟩ : ∃ y, F = y + 1 := ⟨F - 1, by omega⟩
    have hM := wc_sh h hW
    have e2 := (by_x hB hW).2.2.1
    rw [eq_X9_takeWord_5, fl_3 hM, fl_3 hM, h3, e2, if_neg (by rw [gs_nlt (by omega) (by omega)]; omega)]
    simp only [gs_fld_sI, fl_3 hM, h3, h6, h7, n_sb ha]
    exact fin p F M (by omega) ha (by omega) hW h3 h6 h7
  | succ q ih =>
    intro p F M hp ha hF hW h3 h6 h7
    obtain ⟨F, rfl⟩ : ∃ y, F = y + 1 := ⟨F - 1, by omega⟩
    have hM := wc_sh h hW
    have hBM := by_x hB hW
    have e2 := hBM.2.2.1
    obtain ⟨bp, -, b256⟩ := hBM.2.1 p (by omega)
    have l1 : sgn (by_ p) < (97 : Int32) ↔ (by_ p < 97 ∨ 128 ≤ by_ p) := sgn_lt (k := 97) b256 (by decide)
    have l2 : (122 : Int32) < sgn (by_ p) ↔ (122 < by_ p ∧ by_ p < 128) := sgn_gt (k := 122) b256 (by decide)
    rw [eq_X9_takeWord_5, fl_3 hM, fl_3 hM, h3, e2, if_pos (by rw [gs_nlt (by omega) (by omega)]; omega), wEnd_s]
    have r3 : ∀ w, (gs_sI M 3 7 w).2.1 3 3 = Int32.ofNat p := fun w => by rw [gs_sIn (Or.inr (by decide))]; exact h3
    simp only [gs_fld_sI, fl_3 hM, sh_3_0 hM, gs_nn_s, h3, h6, h7, n_sb ha, gs_ixn hM.1 (show gs_ok 4 12 153 = true from rfl) (show p < 800 by omega), bp, r3, gs_ns]
    by_cases z : isSm (by_ p)
    · rw [if_pos z, if_neg (fun y => by have := l1.mp y; omega), if_neg (fun y => by have := l2.mp y; omega)]
      have eb : sgn (by_ p) = Int32.ofNat (by_ p) := sgn_n (by have := z.2; omega)
      have l6 : Int32.ofNat (p - a) < (6 : Int32) ↔ p - a < 6 := gs_nlt (b := 6) (by omega) (by decide)
      by_cases y : p - a < 6
      · have ed : (Int32.ofNat (by_ p) - (97 : Int32)) + (1 : Int32) = Int32.ofNat (by_ p - 96) := by
          show Int32.ofNat (by_ p) - Int32.ofNat 97 + Int32.ofNat 1 = _
          rw [n_sb z.1, n_add, show by_ p - 97 + 1 = by_ p - 96 by have := z.1; omega]
        rw [if_pos (l6.mpr y), eb, ed, n_pk (by have := z.2; omega)]
        refine ih (p + 1) F _ (by omega) (by omega) (by omega) (wx_sI (wx_sI hW ⟨rfl, Or.inr (Or.inr (Or.inr rfl))⟩) ⟨rfl, Or.inl rfl⟩) (gs_sIe _ _ _ _) (by rw [gs_sIn (Or.inr (by decide)), gs_sIn (Or.inr (by decide))]; exact h6) ?_
        rw [gs_sIn (Or.inr (by decide)), gs_sIe, Nat.min_eq_left (show p - a ≤ 6 by omega), Nat.min_eq_left (show p + 1 - a ≤ 6 by omega), show p + 1 - a = (p - a) + 1 by omega, pkV_s, show a + (p - a) = p by omega]
      · rw [if_neg (fun w => y (l6.mp w))]
        refine ih (p + 1) F _ (by omega) (by omega) (by omega) (wx_sI hW ⟨rfl, Or.inl rfl⟩) (gs_sIe _ _ _ _) (by rw [gs_sIn (Or.inr (by decide))]; exact h6) ?_
        rw [gs_sIn (Or.inr (by decide)), h7, Nat.min_eq_right (show 6 ≤ p - a by omega), Nat.min_eq_right (show 6 ≤ p + 1 - a by omega)]
    · rw [if_neg z]
      have f := fin p F M (by omega) ha (by omega) hW h3 h6 h7
      by_cases y : by_ p < 97 ∨ 128 ≤ by_ p
      · rw [if_pos (l1.mpr y)]
        exact f
      · rw [if_neg (fun w => y (l1.mp w)), if_pos (l2.mpr (by omega))]
        exact f
end LE
