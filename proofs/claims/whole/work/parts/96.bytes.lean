/-! Bytes of the tape; numbers read. -/
abbrev sgn (b : Nat) : Int32 := (Int32.ofNat b).toInt8.toInt32
theorem sgn_a : (List.range 256).all (fun b => decide ((sgn b).toInt = if b < 128 then (b : Int) else (b : Int) - 256)) = true := by decide +kernel
theorem sgn_i {b : Nat} (hb : b < 256) : (sgn b).toInt = if b < 128 then (b : Int) else (b : Int) - 256 := of_decide_eq_true (List.all_eq_true.mp sgn_a b (List.mem_range.mpr hb))
theorem sgn_lt {b k : Nat} (hb : b < 256) (hk : k < 128) : sgn b < Int32.ofNat k ↔ (b < k ∨ 128 ≤ b) := by
  rw [i_lt, sgn_i hb, gs_n32 (by omega)]
  split <;> omega
theorem sgn_gt {b k : Nat} (hb : b < 256) (hk : k < 128) : Int32.ofNat k < sgn b ↔ (k < b ∧ b < 128) := by
  rw [i_lt, sgn_i hb, gs_n32 (by omega)]
  split <;> omega
theorem sgn_eq {b k : Nat} (hb : b < 256) (hk : k < 128) : sgn b = Int32.ofNat k ↔ b = k := by
  rw [i_eq, sgn_i hb, gs_n32 (by omega)]
  split <;> omega
theorem sgn_n {b : Nat} (hb : b < 128) : sgn b = Int32.ofNat b := (sgn_eq (by omega) hb).mpr rfl
/-- the text's bytes, as the class holds them, as the reference does -/
def gs_Bx (m : gs_M) (by_ : Nat → Nat) (L : Nat) : Prop := L ≤ 800 ∧ (∀ j, j < L → m.2.1 4 j = sgn (by_ j) ∧ True ∧ by_ j < 256) ∧ m.2.1 3 2 = Int32.ofNat L ∧ True
def gs_Bz (m : gs_M) (by_ : Nat → Nat) (L : Nat) : Prop := L ≤ 800 ∧ (∀ j, j < L → True ∧ m.2.1 117 j = Int32.ofNat (by_ j) ∧ by_ j < 256) ∧ True ∧ m.2.1 116 6 = Int32.ofNat L
abbrev isDg (b : Nat) : Prop := 48 ≤ b ∧ b ≤ 57
abbrev isSm (b : Nat) : Prop := 97 ≤ b ∧ b ≤ 122
/-- a number's end and value, from p on -/
def nVal (by_ : Nat → Nat) : Nat → Nat → Nat → Nat × Nat
  | 0, p, v => (p, v)
  | q + 1, p, v => if isDg (by_ p) then nVal by_ q (p + 1) (if 9999 < v then v else 10 * v + (by_ p - 48)) else (p, v)
theorem nVal_s (by_ : Nat → Nat) (q p v : Nat) : nVal by_ (q + 1) p v = if isDg (by_ p) then nVal by_ q (p + 1) (if 9999 < v then v else 10 * v + (by_ p - 48)) else (p, v) := rfl
def rsX (x i : Nat) : Prop := x = 3 ∧ (i = 3 ∨ i = 5 ∨ i = 6 ∨ i = 7)
def rsY (x i : Nat) : Prop := x = 116 ∧ (i = 7 ∨ i = 8 ∨ i = 9 ∨ i = 10)
section BY
variable {X : gs_E} {d : Nat} {m M : gs_M} {T L p v : Nat} {by_ : Nat → Nat}
theorem by_x (hB : gs_Bx m by_ L) (hW : gs_Wx rsX m M) : gs_Bx M by_ L := by
  obtain ⟨a, b, c, e⟩ := hB
  refine ⟨a, fun j hj => ?_, ?_, e⟩
  · rw [hW.2.2 4 j (fun q => by unfold rsX at q; omega)]
    exact b j hj
  · rw [hW.2.2 3 2 (fun q => by unfold rsX at q; omega)]; exact c
theorem by_y (hB : gs_Bz m by_ L) (hW : gs_Wx rsY m M) : gs_Bz M by_ L := by
  obtain ⟨a, b, c, e⟩ := hB
  refine ⟨a, fun j hj => ?_, c, ?_⟩
  · rw [hW.2.2 117 j (fun q => by unfold rsY at q; omega)]
    exact b j hj
  · rw [hW.2.2 116 6 (fun q => by unfold rsY at q; omega)]; exact e
theorem r_isDigit (h : gs_Sh m T) (hB : gs_Bz m by_ L) (hp : p ≤ 800) : gs_exec X (d + 1) 181 [.inr (.inr 116), .inl (Int32.ofNat p)] m = gs_rI (b2 (p < L ∧ isDg (by_ p))) m := by
  obtain ⟨a, b, c, e⟩ := hB
  unfold b2
  rw [eq_X12_isDigit, fl_116 h, e]
  by_cases q : p < L
  · obtain ⟨-, b2, b3⟩ := b p q
    rw [if_pos ((gs_nlt (by omega) (by omega)).mpr q), fl_116 h, sh_116_0 h, gs_nn_s, gs_ixn h.1 (show gs_ok 117 13 153 = true from rfl) (show p < 800 by omega), b2]
    have l1 : Int32.ofNat (by_ p) < (48 : Int32) ↔ by_ p < 48 := gs_nlt (b := 48) (by omega) (by decide)
    have l2 : (57 : Int32) < Int32.ofNat (by_ p) ↔ 57 < by_ p := gs_nlt (a := 57) (by decide) (by omega)
    by_cases z1 : by_ p < 48
    · rw [if_pos (l1.mpr z1), if_neg (fun y => by have := y.2.1; omega), gs_bt0]
    · rw [if_neg (fun y => z1 (l1.mp y)), fl_116 h, gs_nn_s, gs_ixn h.1 (show gs_ok 117 13 153 = true from rfl) (show p < 800 by omega), b2]
      by_cases z2 : 57 < by_ p
      · rw [if_pos (l2.mpr z2), if_neg (fun y => by have := y.2.2; omega), gs_bt0]
      · rw [if_neg (fun y => z2 (l2.mp y)), if_pos ⟨q, by omega, by omega⟩, gs_bt1]
  · rw [if_neg (fun y => q ((gs_nlt (by omega) (by omega)).mp y)), if_neg (fun y => q y.1), gs_bt0]
theorem r_isSmall (h : gs_Sh m T) (hB : gs_Bz m by_ L) (hp : p ≤ 800) : gs_exec X (d + 1) 180 [.inr (.inr 116), .inl (Int32.ofNat p)] m = gs_rI (b2 (p < L ∧ isSm (by_ p))) m := by
  obtain ⟨a, b, c, e⟩ := hB
  unfold b2
  rw [eq_X12_isSmall, fl_116 h, e]
  by_cases q : p < L
  · obtain ⟨-, b2, b3⟩ := b p q
    rw [if_pos ((gs_nlt (by omega) (by omega)).mpr q), fl_116 h, sh_116_0 h, gs_nn_s, gs_ixn h.1 (show gs_ok 117 13 153 = true from rfl) (show p < 800 by omega), b2]
    have l1 : Int32.ofNat (by_ p) < (97 : Int32) ↔ by_ p < 97 := gs_nlt (b := 97) (by omega) (by decide)
    have l2 : (122 : Int32) < Int32.ofNat (by_ p) ↔ 122 < by_ p := gs_nlt (a := 122) (by decide) (by omega)
    by_cases z1 : by_ p < 97
    · rw [if_pos (l1.mpr z1), if_neg (fun y => by have := y.2.1; omega), gs_bt0]
    · rw [if_neg (fun y => z1 (l1.mp y)), fl_116 h, gs_nn_s, gs_ixn h.1 (show gs_ok 117 13 153 = true from rfl) (show p < 800 by omega), b2]
      by_cases z2 : 122 < by_ p
      · rw [if_pos (l2.mpr z2), if_neg (fun y => by have := y.2.2; omega), gs_bt0]
      · rw [if_neg (fun y => z2 (l2.mp y)), if_pos ⟨q, by omega, by omega⟩, gs_bt1]
  · rw [if_neg (fun y => q ((gs_nlt (by omega) (by omega)).mp y)), if_neg (fun y => q y.1), gs_bt0]
theorem n_dig {b v : Nat} (hb : isDg b) : ((10 : Int32) * Int32.ofNat v + Int32.ofNat b) - (48 : Int32) = Int32.ofNat (10 * v + (b - 48)) := by
  have e : Int32.ofNat b = Int32.ofNat (b - 48) + (48 : Int32) := by
    show _ = Int32.ofNat (b - 48) + Int32.ofNat 48
    rw [n_add, show b - 48 + 48 = b by omega]
  rw [e]
  show Int32.ofNat 10 * Int32.ofNat v + (Int32.ofNat (b - 48) + 48) - 48 = _
  rw [n_mul, ← n_add, ← Int32.add_assoc, Int32.add_sub_cancel]
/-- the reference reads a number -/
theorem r_num_loop (h : gs_Sh m T) (hB : gs_Bz m by_ L) : ∀ (q p v F : Nat) (M : gs_M), p + q = L → q < F → v ≤ 99999 → gs_Wx rsY m M → M.2.1 116 7 = Int32.ofNat p → M.2.1 116 9 = Int32.ofNat v →
    ∃ M', gs_iter X (gs_exec X (d + 1)) gT_X12_take F 213 [(0, .inr (.inr 116))] [] M = gs_rU M' ∧ gs_Wx rsY m M' ∧ M'.2.1 116 7 = Int32.ofNat (nVal by_ q p v).1 ∧ M'.2.1 116 9 = Int32.ofNat (nVal by_ q p v).2 ∧ M'.2.1 116 8 = M.2.1 116 8 ∧ M'.2.1 116 10 = M.2.1 116 10 := by
  have hL := hB.1
  intro q
  induction q with
  | zero =>
    intro p v F M hp hF hv hW h7 h9
    obtain ⟨F, rfl⟩ : ∃ y, F = y + 1 := ⟨F - 1, by omega⟩
    have hM := wc_sh h hW
    refine ⟨M, ?_, hW, h7, h9, rfl, rfl⟩
    rw [eq_X12_take_213, fl_116 hM, fl_116 hM, h7, r_isDigit hM (by_y hB hW) (by omega), gs_bI_s, b2_if, if_neg (fun y => by have := y.1; omega)]
  | succ q ih =>
    intro p v F M hp hF hv hW h7 h9
    obtain ⟨F, rfl⟩ : ∃ y, F = y + 1 := ⟨F - 1, by omega⟩
    have hM := wc_sh h hW
    have hBM := by_y hB hW
    rw [eq_X12_take_213, fl_116 hM, fl_116 hM, h7, r_isDigit hM hBM (by omega), gs_bI_s, b2_if, nVal_s]
    by_cases z : isDg (by_ p)
    · rw [if_pos z, if_pos ⟨by omega, z⟩, fl_116 hM, h9]
      have l1 : (9999 : Int32) < Int32.ofNat v ↔ 9999 < v := gs_nlt (a := 9999) (by decide) (by omega)
      obtain ⟨-, bp, -⟩ := hBM.2.1 p (by omega)
      have key : ∀ w : Nat, w ≤ 99999 → ∃ M', gs_iter X (gs_exec X (d + 1)) gT_X12_take F 213 [(0, .inr (.inr 116))] [] (gs_sI (gs_sI M 116 9 (Int32.ofNat w)) 116 7 (Int32.ofNat (p + 1))) = gs_rU M' ∧ gs_Wx rsY m M' ∧ M'.2.1 116 7 = Int32.ofNat (nVal by_ q (p + 1) w).1 ∧ M'.2.1 116 9 = Int32.ofNat (nVal by_ q (p + 1) w).2 ∧ M'.2.1 116 8 = M.2.1 116 8 ∧ M'.2.1 116 10 = M.2.1 116 10 := fun w hw => by
        obtain ⟨M', a1, a2, a3, a4, a5, a6⟩ := ih (p + 1) w F (gs_sI (gs_sI M 116 9 (Int32.ofNat w)) 116 7 (Int32.ofNat (p + 1))) (by omega) (by omega) hw (wx_sI (wx_sI hW ⟨rfl, Or.inr (Or.inr (Or.inl rfl))⟩) ⟨rfl, Or.inl rfl⟩) (gs_sIe _ _ _ _) (by rw [gs_sIn (Or.inr (by decide)), gs_sIe])
        refine ⟨M', a1, a2, a3, a4, ?_, ?_⟩
        · rw [a5, gs_sIn (Or.inr (by decide)), gs_sIn (Or.inr (by decide))]
        · rw [a6, gs_sIn (Or.inr (by decide)), gs_sIn (Or.inr (by decide))]
      have r7 : ∀ w, (gs_sI M 116 9 w).2.1 116 7 = Int32.ofNat p := fun w => by rw [gs_sIn (Or.inr (by decide))]; exact h7
      by_cases z2 : 9999 < v
      · rw [if_pos z2, if_pos (l1.mpr z2)]
        simp only [gs_fld_sI, fl_116 hM, h9, r7, gs_ns]
        exact key v hv
      · rw [if_neg z2, if_neg (fun y => z2 (l1.mp y))]
        simp only [gs_fld_sI, fl_116 hM, sh_116_0 hM, gs_nn_s, h7, gs_ixn hM.1 (show gs_ok 117 13 153 = true from rfl) (show p < 800 by omega), bp, h9, n_dig z, r7, gs_ns]
        exact key _ (by have := z.2; omega)
    · rw [if_neg z, if_neg (fun y => z y.2)]
      exact ⟨M, rfl, hW, h7, h9, rfl, rfl⟩
end BY
