/-! The class reads a number. -/
abbrev cv4 (v : Nat) : Nat := min 10000 v
section NU
variable {X : gs_E} {d : Nat} {m M : gs_M} {T L p v : Nat} {by_ : Nat → Nat}
theorem x_dig {b w : Nat} (hb : isDg b) : (Int32.ofNat w * (10 : Int32) + Int32.ofNat b) - (48 : Int32) = Int32.ofNat (10 * w + (b - 48)) := by
  rw [Int32.mul_comm]
  exact n_dig hb
theorem cv_step {v s : Nat} (hs : s ≤ 9) : cv4 (if 9999 < v then v else 10 * v + s) = if 10 * cv4 v + s < 10000 then 10 * cv4 v + s else 10000 := by
  unfold cv4
  by_cases z : 9999 < v
  · rw [if_pos z, Nat.min_eq_left (by omega), if_neg (by omega)]
  · rw [if_neg z, Nat.min_eq_right (show v ≤ 10000 by omega)]
    by_cases y : 10 * v + s < 10000
    · rw [if_pos y, Nat.min_eq_right (by omega)]
    · rw [if_neg y, Nat.min_eq_left (by omega)]
theorem x_num_loop (h : gs_Sh m T) (hB : gs_Bx m by_ L) : ∀ (q p v F : Nat) (M : gs_M), p + q = L → q < F → gs_Wx rsX m M → M.2.1 3 3 = Int32.ofNat p → M.2.1 3 7 = Int32.ofNat (cv4 v) →
    ∃ M', gs_iter X (gs_exec X (d + 1)) gT_X9_takeNumber F 11 [(0, .inr (.inr 3))] [] M = gs_rU M' ∧ gs_Wx rsX m M' ∧ M'.2.1 3 3 = Int32.ofNat (nVal by_ q p v).1 ∧ M'.2.1 3 7 = Int32.ofNat (cv4 (nVal by_ q p v).2) ∧ M'.2.1 3 5 = M.2.1 3 5 ∧ M'.2.1 3 6 = M.2.1 3 6 := by
  have hL := hB.1
  intro q
  induction q with
  | zero =>
    intro p v F M hp hF hW h3 h7
    obtain ⟨F, rfl⟩ : ∃ y, F = y + 1 := ⟨F - 1, by omega⟩
    have hM := wc_sh h hW
    have e2 := (by_x hB hW).2.2.1
    refine ⟨M, ?_, hW, h3, h7, rfl, rfl⟩
    rw [eq_X9_takeNumber_11, fl_3 hM, fl_3 hM, h3, e2, if_neg (by rw [gs_nlt (by omega) (by omega)]; omega)]
  | succ q ih =>
    intro p v F M hp hF hW h3 h7
    obtain ⟨F, rfl⟩ : ∃ y, F = y + 1 := ⟨F - 1, by omega⟩
    have hM := wc_sh h hW
    have hBM := by_x hB hW
    have e2 := hBM.2.2.1
    obtain ⟨bp, -, b256⟩ := hBM.2.1 p (by omega)
    have l1 : sgn (by_ p) < (48 : Int32) ↔ (by_ p < 48 ∨ 128 ≤ by_ p) := sgn_lt (k := 48) b256 (by decide)
    have l2 : (57 : Int32) < sgn (by_ p) ↔ (57 < by_ p ∧ by_ p < 128) := sgn_gt (k := 57) b256 (by decide)
    rw [eq_X9_takeNumber_11, nVal_s, fl_3 hM, fl_3 hM, h3, e2, if_pos (by rw [gs_nlt (by omega) (by omega)]; omega)]
    simp only [fl_3 hM, sh_3_0 hM, gs_nn_s, gs_ixn hM.1 (show gs_ok 4 12 153 = true from rfl) (show p < 800 by omega), bp]
    by_cases z : isDg (by_ p)
    · rw [if_pos z, if_neg (fun y => by have := l1.mp y; omega), if_neg (fun y => by have := l2.mp y; omega)]
      have eb : sgn (by_ p) = Int32.ofNat (by_ p) := sgn_n (by have := z.2; omega)
      rw [h7, eb, x_dig z, x_min, gs_bI_s]
      have bc : cv4 v ≤ 10000 := Nat.min_le_left _ _
      have l3 : Int32.ofNat (10 * cv4 v + (by_ p - 48)) < (10000 : Int32) ↔ 10 * cv4 v + (by_ p - 48) < 10000 := gs_nlt (b := 10000) (by omega) (by decide)
      have ev : (if Int32.ofNat (10 * cv4 v + (by_ p - 48)) < (10000 : Int32) then Int32.ofNat (10 * cv4 v + (by_ p - 48)) else (10000 : Int32)) = Int32.ofNat (cv4 (if 9999 < v then v else 10 * v + (by_ p - 48))) := by
        rw [cv_step (by have := z.2; omega)]
        by_cases y : 10 * cv4 v + (by_ p - 48) < 10000
        · rw [if_pos y, if_pos (l3.mpr y)]
        · rw [if_neg y, if_neg (fun w => y (l3.mp w))]
          rfl
      rw [ev]
      have r3 : ∀ w, (gs_sI M 3 7 w).2.1 3 3 = Int32.ofNat p := fun w => by rw [gs_sIn (Or.inr (by decide))]; exact h3
      obtain ⟨M', a1, a2, a3, a4, a5, a6⟩ := ih (p + 1) (if 9999 < v then v else 10 * v + (by_ p - 48)) F (gs_sI (gs_sI M 3 7 (Int32.ofNat (cv4 (if 9999 < v then v else 10 * v + (by_ p - 48))))) 3 3 (Int32.ofNat (p + 1))) (by omega) (by omega) (wx_sI (wx_sI hW ⟨rfl, Or.inr (Or.inr (Or.inr rfl))⟩) ⟨rfl, Or.inl rfl⟩) (gs_sIe _ _ _ _) (by rw [gs_sIn (Or.inr (by decide)), gs_sIe])
      refine ⟨M', ?_, a2, a3, a4, ?_, ?_⟩
      · simp only [gs_fld_sI, fl_3 hM, r3, gs_ns]
        exact a1
      · rw [a5, gs_sIn (Or.inr (by decide)), gs_sIn (Or.inr (by decide))]
      · rw [a6, gs_sIn (Or.inr (by decide)), gs_sIn (Or.inr (by decide))]
    · rw [if_neg z]
      refine ⟨M, ?_, hW, h3, h7, rfl, rfl⟩
      by_cases y : by_ p < 48 ∨ 128 ≤ by_ p
      · rw [if_pos (l1.mpr y)]
      · rw [if_neg (fun w => y (l1.mp w)), if_pos (l2.mpr (by omega))]
theorem x_takeNumber (hX : gs_Fu X) (h : gs_Sh m T) (hB : gs_Bx m by_ L) (hp : p ≤ L) (h3 : m.2.1 3 3 = Int32.ofNat p) : ∃ M', gs_exec X (d + 2) 110 [.inr (.inr 3)] m = gs_rU M' ∧ gs_Wx rsX m M' ∧ M'.2.1 3 3 = Int32.ofNat (nVal by_ (L - p) p 0).1 ∧ M'.2.1 3 7 = Int32.ofNat (cv4 (nVal by_ (L - p) p 0).2) ∧ M'.2.1 3 5 = 33 ∧ M'.2.1 3 6 = m.2.1 3 6 := by
  have hL := hB.1
  obtain ⟨M', a1, a2, a3, a4, a5, a6⟩ := x_num_loop (X := X) (d := d) h hB (L - p) p 0 X.1 (gs_sI (gs_sI m 3 5 33) 3 7 0) (by omega) (by unfold gs_Fu at hX; omega) (wx_sI (wx_sI (wx_refl m) ⟨rfl, Or.inr (Or.inl rfl)⟩) ⟨rfl, Or.inr (Or.inr (Or.inr rfl))⟩) (by rw [gs_sIn (Or.inr (by decide)), gs_sIn (Or.inr (by decide))]; exact h3) (by rw [gs_sIe]; rfl)
  refine ⟨M', ?_, a2, a3, a4, ?_, ?_⟩
  · rw [eq_X9_takeNumber, fl_3 h]
    simp only [gs_fld_sI, fl_3 h]
    exact a1
  · rw [a5, gs_sIn (Or.inr (by decide)), gs_sIe]
  · rw [a6, gs_sIn (Or.inr (by decide)), gs_sIn (Or.inr (by decide))]
end NU
