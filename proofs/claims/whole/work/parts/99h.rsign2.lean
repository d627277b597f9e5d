/-! The reference reads a sign: what stands behind it. -/
section RS2
variable {X : gs_E} {d : Nat} {m M : gs_M} {T L a len k p b F : Nat} {by_ : Nat → Nat}
abbrev sgA (b nb : Nat) : Int32 := if b = 61 then 0 else if nb = 61 then 1 else 0
abbrev sgB (b nb : Nat) : Int32 := if b = 60 then (if nb = 62 then 1 else 0) else 0
theorem r_s50 (h : gs_Sh M T) (hB : gs_Bz M by_ L) (hp : p ≤ L) (hb : b < 256) (h7 : M.2.1 116 7 = Int32.ofNat p) (h9 : M.2.1 116 9 = Int32.ofNat b) : gs_iter X (gs_exec X d) gT_X12_takeSign (F + 1) 50 [(0, .inr (.inr 116))] [] M = gs_iter X (gs_exec X d) gT_X12_takeSign F 116 [(0, .inr (.inr 116)), (2, .inl (sgA b (if p < L then by_ p else 0)))] [.inl (sgB b (if p < L then by_ p else 0))] M := by
  have hL := hB.1
  have e6 := hB.2.2.2
  have e61 : (Int32.ofNat b = (61 : Int32)) = (b = 61) := propext (n_eq (b := 61) (by omega) (by decide))
  have e60 : (Int32.ofNat b = (60 : Int32)) = (b = 60) := propext (n_eq (b := 60) (by omega) (by decide))
  have u61 : ((0 : Int32) = 61) = False := by decide
  have u62 : ((0 : Int32) = 62) = False := by decide
  have n61 : ((0 : Nat) = 61) = False := by decide
  have n62 : ((0 : Nat) = 62) = False := by decide
  rw [eq_X12_takeSign_50, fl_116 h, fl_116 h, h7, e6]
  unfold sgA sgB
  by_cases q : p < L
  · obtain ⟨-, bp, b256⟩ := hB.2.1 p q
    have v61 : (Int32.ofNat (by_ p) = (61 : Int32)) = (by_ p = 61) := propext (n_eq (b := 61) (by omega) (by decide))
    have v62 : (Int32.ofNat (by_ p) = (62 : Int32)) = (by_ p = 62) := propext (n_eq (b := 62) (by omega) (by decide))
    rw [if_pos ((gs_nlt (by omega) (by omega)).mpr q), if_pos q]
    simp only [fl_116 h, sh_116_0 h, gs_nn_s, h7, gs_ixn h.1 (show gs_ok 117 13 153 = true from rfl) (show p < 800 by omega), bp, h9, e61, e60, v61, v62]
    repeat' split
    all_goals first | rfl | (exfalso; omega)
  · rw [if_neg (fun y => q ((gs_nlt (by omega) (by omega)).mp y)), if_neg q]
    simp only [fl_116 h, h9, e61, e60, u61, u62, n61, n62, if_false, ite_self]
end RS2
