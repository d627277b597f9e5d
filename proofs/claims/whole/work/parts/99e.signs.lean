/-! The class reads a sign. -/
def sKd (b : Nat) : Nat := if b = 40 then 37 else if b = 41 then 38 else if b = 42 then 47 else if b = 43 then 45 else if b = 45 then 46 else if b = 47 then 48 else if b = 59 then 36 else if b = 60 then 39 else if b = 61 then 41 else if b = 62 then 44 else 35
def wdn (k nb : Nat) : Nat × Nat := if k = 39 ∧ nb = 61 then (40, 1) else if k = 44 ∧ nb = 61 then (43, 1) else if k = 39 ∧ nb = 62 then (42, 1) else (k, 0)
section SI
variable {X : gs_E} {d : Nat} {m M : gs_M} {T L a len k p b : Nat} {by_ : Nat → Nat}
theorem x_signKind (hb : b < 256) : gs_exec X (d + 1) 112 [.inl (sgn b)] m = gs_rI (Int32.ofNat (sKd b)) m := by
  have h40 : (sgn b = (40 : Int32)) = (b = 40) := propext (sgn_eq (k := 40) hb (by decide))
  have h41 : (sgn b = (41 : Int32)) = (b = 41) := propext (sgn_eq (k := 41) hb (by decide))
  have h42 : (sgn b = (42 : Int32)) = (b = 42) := propext (sgn_eq (k := 42) hb (by decide))
  have h43 : (sgn b = (43 : Int32)) = (b = 43) := propext (sgn_eq (k := 43) hb (by decide))
  have h45 : (sgn b = (45 : Int32)) = (b = 45) := propext (sgn_eq (k := 45) hb (by decide))
  have h47 : (sgn b = (47 : Int32)) = (b = 47) := propext (sgn_eq (k := 47) hb (by decide))
  have h59 : (sgn b = (59 : Int32)) = (b = 59) := propext (sgn_eq (k := 59) hb (by decide))
  have h60 : (sgn b = (60 : Int32)) = (b = 60) := propext (sgn_eq (k := 60) hb (by decide))
  have h61 : (sgn b = (61 : Int32)) = (b = 61) := propext (sgn_eq (k := 61) hb (by decide))
  have h62 : (sgn b = (62 : Int32)) = (b = 62) := propext (sgn_eq (k := 62) hb (by decide))
  rw [eq_X9_signKind]
  unfold sKd
  simp only [h40, h41, h42, h43, h45, h47, h59, h60, h61, h62]
  repeat' split
  all_goals rfl
theorem x_widenSign (h : gs_Sh m T) (hB : gs_Bx m by_ L) (hp : p ≤ L) (hk : k < 100) (h3 : m.2.1 3 3 = Int32.ofNat p) (h5 : m.2.1 3 5 = Int32.ofNat k) : ∃ M', gs_exec X (d + 1) 111 [.inr (.inr 3)] m = gs_rU M' ∧ gs_Wx rsX m M' ∧ M'.2.1 3 3 = Int32.ofNat (p + (wdn k (if p < L then by_ p else 0)).2) ∧ M'.2.1 3 5 = Int32.ofNat (wdn k (if p < L then by_ p else 0)).1 ∧ M'.2.1 3 6 = m.2.1 3 6 := by
  have hL := hB.1
  have e2 := hB.2.2.1
  have k39 : Int32.ofNat k = (39 : Int32) ↔ k = 39 := n_eq (b := 39) (by omega) (by decide)
  have k44 : Int32.ofNat k = (44 : Int32) ↔ k = 44 := n_eq (b := 44) (by omega) (by decide)
  have r3 : ∀ w, (gs_sI m 3 5 w).2.1 3 3 = Int32.ofNat p := fun w => by rw [gs_sIn (Or.inr (by decide))]; exact h3
  have yes : ∀ w : Nat, ∃ M', gs_rU (gs_sI (gs_sI m 3 5 (Int32.ofNat w)) 3 3 (Int32.ofNat (p + 1))) = gs_rU M' ∧ gs_Wx rsX m M' ∧ M'.2.1 3 3 = Int32.ofNat (p + 1) ∧ M'.2.1 3 5 = Int32.ofNat w ∧ M'.2.1 3 6 = m.2.1 3 6 := fun w => ⟨_, rfl, wx_sI (wx_sI (wx_refl m) ⟨rfl, Or.inr (Or.inl rfl)⟩) ⟨rfl, Or.inl rfl⟩, gs_sIe _ _ _ _, by rw [gs_sIn (Or.inr (by decide)), gs_sIe], by rw [gs_sIn (Or.inr (by decide)), gs_sIn (Or.inr (by decide))]⟩
  have no : ∃ M', gs_rU m = gs_rU M' ∧ gs_Wx rsX m M' ∧ M'.2.1 3 3 = Int32.ofNat (p + 0) ∧ M'.2.1 3 5 = Int32.ofNat k ∧ M'.2.1 3 6 = m.2.1 3 6 := ⟨m, rfl, wx_refl m, h3, h5, rfl⟩
  have u61 : ¬ (0 : Int32) = 61 := by decide
  have u62 : ¬ (0 : Int32) = 62 := by decide
  rw [eq_X9_widenSign, fl_3 h, fl_3 h, h3, e2]
  unfold wdn
  by_cases q : p < L
  · obtain ⟨bp, -, b256⟩ := hB.2.1 p q
    have s61 : sgn (by_ p) = (61 : Int32) ↔ by_ p = 61 := sgn_eq (k := 61) b256 (by decide)
    have s62 : sgn (by_ p) = (62 : Int32) ↔ by_ p = 62 := sgn_eq (k := 62) b256 (by decide)
    rw [if_pos ((gs_nlt (by omega) (by omega)).mpr q), if_pos q]
    simp only [gs_fld_sI, fl_3 h, sh_3_0 h, gs_nn_s, gs_ixn h.1 (show gs_ok 4 12 153 = true from rfl) (show p < 800 by omega), bp, h3, h5, r3, gs_ns]
    by_cases a1 : k = 39
    · by_cases b1 : by_ p = 61
      · rw [if_pos (k39.mpr a1), if_pos (s61.mpr b1), if_pos (k39.mpr a1), if_pos ⟨a1, b1⟩]
        exact yes 40
      · by_cases b2 : by_ p = 62
        · rw [if_pos (k39.mpr a1), if_neg (fun y => b1 (s61.mp y)), if_pos (k39.mpr a1), if_pos (s62.mpr b2), if_neg (fun y => b1 y.2), if_neg (fun y => b1 y.2), if_pos ⟨a1, b2⟩]
          exact yes 42
        · rw [if_pos (k39.mpr a1), if_neg (fun y => b1 (s61.mp y)), if_pos (k39.mpr a1), if_neg (fun y => b2 (s62.mp y)), if_neg (fun y => b1 y.2), if_neg (fun y => b1 y.2), if_neg (fun y => b2 y.2)]
          exact no
    · rw [if_neg (fun y => a1 (k39.mp y))]
      by_cases a2 : k = 44
      · by_cases b1 : by_ p = 61
        · rw [if_pos (k44.mpr a2), if_pos (s61.mpr b1), if_neg (fun y => a1 (k39.mp y)), if_neg (fun y => a1 y.1), if_pos ⟨a2, b1⟩]
          exact yes 43
        · rw [if_pos (k44.mpr a2), if_neg (fun y => b1 (s61.mp y)), if_neg (fun y => a1 (k39.mp y)), if_neg (fun y => a1 y.1), if_neg (fun y => b1 y.2), if_neg (fun y => a1 y.1)]
          exact no
      · rw [if_neg (fun y => a2 (k44.mp y)), if_neg (fun y => a1 (k39.mp y)), if_neg (fun y => a1 y.1), if_neg (fun y => a2 y.1), if_neg (fun y => a1 y.1)]
        exact no
  · rw [if_neg (fun y => q ((gs_nlt (by omega) (by omega)).mp y)), if_neg q]
    simp only [gs_fld_sI, fl_3 h, h3, h5, r3, gs_ns, if_neg u61, if_neg u62, ite_self]
    rw [if_neg (fun y => by have := y.2; omega), if_neg (fun y => by have := y.2; omega), if_neg (fun y => by have := y.2; omega)]
    exact no
end SI
