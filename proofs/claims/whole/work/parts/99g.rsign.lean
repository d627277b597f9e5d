/-! The reference reads a sign. -/
/-- kind, value, one more byte or none -/
def rSg (b nb : Nat) : Nat × Nat × Nat := if b = 60 then (if nb = 61 then (5, 1, 1) else if nb = 62 then (5, 3, 1) else (5, 0, 0)) else if b = 62 then (if nb = 61 then (5, 4, 1) else (5, 5, 0)) else if b = 61 then (5, 2, 0) else if b = 59 ∨ b = 40 ∨ b = 41 ∨ b = 43 ∨ b = 45 ∨ b = 42 ∨ b = 47 then (4, b, 0) else (6, b, 0)
def gs_RS9 (m M' : gs_M) (p : Nat) (t : Nat × Nat × Nat) : Prop := gs_Wx rsY m M' ∧ M'.2.1 116 7 = Int32.ofNat (p + t.2.2) ∧ M'.2.1 116 8 = Int32.ofNat t.1 ∧ M'.2.1 116 9 = Int32.ofNat t.2.1 ∧ M'.2.1 116 10 = m.2.1 116 10
section RS
variable {X : gs_E} {d : Nat} {m M : gs_M} {T L a len k p b F : Nat} {by_ : Nat → Nat}
theorem rs_end {kd v : Nat} (hW : gs_Wx rsY m M) (h7 : M.2.1 116 7 = Int32.ofNat (p + k)) (h10 : M.2.1 116 10 = m.2.1 116 10) : gs_RS9 m (gs_sI (gs_sI M 116 8 (Int32.ofNat kd)) 116 9 (Int32.ofNat v)) p (kd, v, k) := by
  refine ⟨wx_sI (wx_sI hW ⟨rfl, Or.inr (Or.inl rfl)⟩) ⟨rfl, Or.inr (Or.inr (Or.inl rfl))⟩, ?_, ?_, gs_sIe _ _ _ _, ?_⟩
  · rw [gs_sIn (Or.inr (by decide)), gs_sIn (Or.inr (by decide))]; exact h7
  · rw [gs_sIn (Or.inr (by decide)), gs_sIe]
  · rw [gs_sIn (Or.inr (by decide)), gs_sIn (Or.inr (by decide))]; exact h10
/-- what 135 lays for a comparison -/
def cmpV (b : Nat) (A B : Int32) : Nat := if b = 61 then 2 else if b = 60 then (if A = 0 then (if B = 0 then 0 else 3) else 1) else (if A = 0 then 5 else 4)
theorem r_s135 {A B : Int32} (h : gs_Sh M T) (hb : b < 256) (h9 : M.2.1 116 9 = Int32.ofNat b) : gs_iter X (gs_exec X d) gT_X12_takeSign (F + 1) 135 [(0, .inr (.inr 116)), (2, .inl A), (3, .inl B)] [] M = gs_rU (gs_sI (gs_sI M 116 8 (Int32.ofNat 5)) 116 9 (Int32.ofNat (cmpV b A B))) := by
  have e61 : Int32.ofNat b = (61 : Int32) ↔ b = 61 := n_eq (b := 61) (by omega) (by decide)
  have e60 : Int32.ofNat b = (60 : Int32) ↔ b = 60 := n_eq (b := 60) (by omega) (by decide)
  have r9 : (gs_sI M 116 8 (5 : Int32)).2.1 116 9 = Int32.ofNat b := by rw [gs_sIn (Or.inr (by decide))]; exact h9
  rw [eq_X12_takeSign_135]
  unfold cmpV
  simp only [gs_fld_sI, fl_116 h, r9]
  by_cases c1 : b = 61
  · rw [if_pos (e61.mpr c1), if_pos c1]
    rfl
  · rw [if_neg (fun y => c1 (e61.mp y)), if_neg c1]
    by_cases c2 : b = 60
    · rw [if_pos (e60.mpr c2), if_pos c2]
      repeat' split
      all_goals rfl
    · rw [if_neg (fun y => c2 (e60.mp y)), if_neg c2]
      repeat' split
      all_goals rfl
theorem r_s116 {A B : Int32} (h : gs_Sh M T) (h7 : M.2.1 116 7 = Int32.ofNat p) : gs_iter X (gs_exec X d) gT_X12_takeSign (F + 1) 116 [(0, .inr (.inr 116)), (2, .inl A)] [.inl B] M = gs_iter X (gs_exec X d) gT_X12_takeSign F 135 [(0, .inr (.inr 116)), (2, .inl A), (3, .inl B)] [] (if A = 0 ∧ B = 0 then M else gs_sI M 116 7 (Int32.ofNat (p + 1))) := by
  rw [eq_X12_takeSign_116]
  simp only [fl_116 h, h7, gs_ns]
  by_cases c1 : A = 0
  · rw [if_pos c1]
    by_cases c2 : B = 0
    · rw [if_pos c2, if_pos ⟨c1, c2⟩]
    · rw [if_neg c2, if_neg (fun y => c2 y.2)]
  · rw [if_neg c1, if_neg (fun y => c1 y.1)]
end RS
