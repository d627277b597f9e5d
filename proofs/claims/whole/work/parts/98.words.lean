/-! Words read: their letters as one number. -/
def wEnd (by_ : Nat → Nat) : Nat → Nat → Nat
  | 0, p => p
  | q + 1, p => if isSm (by_ p) then wEnd by_ q (p + 1) else p
theorem wEnd_s (by_ : Nat → Nat) (q p : Nat) : wEnd by_ (q + 1) p = if isSm (by_ p) then wEnd by_ q (p + 1) else p := rfl
def pkV (by_ : Nat → Nat) (a : Nat) : Nat → Nat
  | 0 => 0
  | c + 1 => pkV by_ a c * 32 + (by_ (a + c) - 96)
theorem pkV_s (by_ : Nat → Nat) (a c : Nat) : pkV by_ a (c + 1) = pkV by_ a c * 32 + (by_ (a + c) - 96) := rfl
theorem n_shl5 (v : Nat) : Int32.ofNat v <<< ((5 : Int32) &&& 31) = Int32.ofNat (v * 32) := by
  apply Int32.toBitVec_inj.mp
  rw [Int32.toBitVec_shiftLeft, Int32.toBitVec_ofNat', Int32.toBitVec_ofNat']
  apply BitVec.eq_of_toNat_eq
  rw [BitVec.shiftLeft_eq', BitVec.toNat_shiftLeft, BitVec.toNat_ofNat, BitVec.toNat_ofNat, show ((((5 : Int32) &&& 31).toBitVec.smod 32)).toNat = 5 by decide, Nat.shiftLeft_eq]
  omega
theorem n_pk {v x : Nat} (hx : x < 32) : (Int32.ofNat v <<< ((5 : Int32) &&& 31)) ||| Int32.ofNat x = Int32.ofNat (v * 32 + x) := by
  rw [n_shl5]
  have e : Int32.ofNat (v * 32) ||| Int32.ofNat x = Int32.ofNat (v * 32 ||| x) := by
    apply Int32.toBitVec_inj.mp
    rw [Int32.toBitVec_or, Int32.toBitVec_ofNat', Int32.toBitVec_ofNat', Int32.toBitVec_ofNat', BitVec.ofNat_or]
  rw [e]
  have s := Nat.shiftLeft_add_eq_or_of_lt (show x < 2 ^ 5 from hx) v
  rw [Nat.shiftLeft_eq] at s
  rw [show v * 32 = v * 2 ^ 5 from rfl, ← s]
section WO
variable {X : gs_E} {d : Nat} {m M : gs_M} {T L p v a len : Nat} {by_ : Nat → Nat}
theorem n_let {b : Nat} (hb : isSm b) : Int32.ofNat b - (96 : Int32) = Int32.ofNat (b - 96) := by
  have e : Int32.ofNat b = Int32.ofNat (b - 96) + (96 : Int32) := by
    show _ = Int32.ofNat (b - 96) + Int32.ofNat 96
    rw [n_add, show b - 96 + 96 = b by omega]
  rw [e, Int32.add_sub_cancel]
theorem r_packed_loop (h : gs_Sh m T) (hB : gs_Bz m by_ L) (ha : a + len ≤ L) (hl : len ≤ 6) (hs : ∀ j, j < len → isSm (by_ (a + j))) : ∀ (q c F : Nat), c + q = 6 → q < F →
    gs_iter X (gs_exec X d) gT_X12_packed F 5 [(0, .inr (.inr 116)), (1, .inl (Int32.ofNat a)), (2, .inl (Int32.ofNat (a + len))), (3, .inl (Int32.ofNat (if c ≤ len then pkV by_ a c else pkV by_ a len * 32 ^ (c - len)))), (4, .inl (Int32.ofNat (a + c)))] [] m = gs_rI (Int32.ofNat (pkV by_ a len * 32 ^ (6 - len))) m := by
  have hL := hB.1
  have e6 : Int32.ofNat a + (6 : Int32) = Int32.ofNat (a + 6) := n_add a 6
  intro q
  induction q with
  | zero =>
    intro c F hc hF
    obtain ⟨F, rfl⟩ : ∃ y, F = y + 1 := ⟨F - 1, by omega⟩
    have ec : c = 6 := by omega
    subst ec
    rw [eq_X12_packed_5, e6, if_neg (by rw [gs_nlt (by omega) (by omega)]; omega)]
    by_cases z : 6 ≤ len
    · have e : len = 6 := by omega
      subst e
      rw [if_pos (Nat.le_refl _), Nat.sub_self, Nat.pow_zero, Nat.mul_one]
    · rw [if_neg z]
  | succ q ih =>
    intro c F hc hF
    obtain ⟨F, rfl⟩ : ∃ y, F = y + 1 := ⟨F - 1, by omega⟩
    have i := ih (c + 1) F (by omega) (by omega)
    rw [eq_X12_packed_5, e6, if_pos (by rw [gs_nlt (by omega) (by omega)]; omega)]
    by_cases z : c < len
    · obtain ⟨-, b2, b3⟩ := hB.2.1 (a + c) (by omega)
      have hsm := hs c z
      rw [if_pos (show c + 1 ≤ len by omega)] at i
      rw [if_pos (by rw [gs_nlt (by omega) (by omega)]; omega), fl_116 h, sh_116_0 h, gs_nn_s, gs_ixn h.1 (show gs_ok 117 13 153 = true from rfl) (show a + c < 800 by omega), b2, n_let hsm, n_pk (by omega), gs_ns, if_pos (show c ≤ len by omega)]
      exact i
    · rw [if_neg (show ¬ c + 1 ≤ len by omega)] at i
      rw [if_neg (fun y => by have := (gs_nlt (by omega) (by omega)).mp y; omega), show (0 : Int32) = Int32.ofNat 0 from rfl, n_pk (by decide), gs_ns]
      have e : (if c ≤ len then pkV by_ a c else pkV by_ a len * 32 ^ (c - len)) * 32 + 0 = pkV by_ a len * 32 ^ (c + 1 - len) := by
        by_cases y : c ≤ len
        · have e2 : c = len := by omega
          subst e2
          rw [if_pos y, show c + 1 - c = 1 by omega, Nat.pow_one]
          rfl
        · rw [if_neg y, show c + 1 - len = (c - len) + 1 by omega, Nat.pow_succ, ← Nat.mul_assoc]
          rfl
      rw [e]
      exact i
theorem r_packed (hX : gs_Fu X) (h : gs_Sh m T) (hB : gs_Bz m by_ L) (ha : a + len ≤ L) (hl : len ≤ 6) (hs : ∀ j, j < len → isSm (by_ (a + j))) : gs_exec X (d + 1) 184 [.inr (.inr 116), .inl (Int32.ofNat a), .inl (Int32.ofNat (a + len))] m = gs_rI (Int32.ofNat (pkV by_ a len * 32 ^ (6 - len))) m := by
  rw [eq_X12_packed]
  exact r_packed_loop h hB ha hl hs 6 0 X.1 (by omega) (by unfold gs_Fu at hX; omega)
end WO
