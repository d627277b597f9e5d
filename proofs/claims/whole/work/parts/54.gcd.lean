/-! The greatest common divisor, in both classes; fractions in least terms. -/
theorem j_n {a : Nat} (h : a < 4611686018427387904) : (Int64.ofNat a).toInt = (a : Int) := Int64.toInt_ofNat_of_lt (by omega)
theorem j_eq {a b : Int64} : a = b ↔ a.toInt = b.toInt := Int64.toInt_inj.symm
theorem j_neq {a b : Nat} (ha : a < 4611686018427387904) (hb : b < 4611686018427387904) : Int64.ofNat a = Int64.ofNat b ↔ a = b := by
  rw [j_eq, j_n ha, j_n hb]
  omega
theorem j_add (a b : Nat) : Int64.ofNat a + Int64.ofNat b = Int64.ofNat (a + b) := (Int64.ofNat_add a b).symm
theorem j_mul (a b : Nat) : Int64.ofNat a * Int64.ofNat b = Int64.ofNat (a * b) := (Int64.ofNat_mul a b).symm
theorem j_sub {a b : Nat} (h : b ≤ a) : Int64.ofNat a - Int64.ofNat b = Int64.ofNat (a - b) := by
  have e : Int64.ofNat a = Int64.ofNat (a - b) + Int64.ofNat b := by rw [j_add, Nat.sub_add_cancel h]
  rw [e]
  simp
theorem j_div {a b : Nat} (ha : a < 4611686018427387904) (hb : b < 4611686018427387904) : Int64.ofNat a / Int64.ofNat b = Int64.ofNat (a / b) := by
  have h1 : a / b ≤ a := Nat.div_le_self a b
  rw [j_eq, j_n (Nat.lt_of_le_of_lt h1 ha), Int64.toInt_div, j_n ha, j_n hb]
  have e : ((a : Int).tdiv (b : Int)) = ((a / b : Nat) : Int) := rfl
  rw [e]
  have key : ∀ q : Nat, q < 4611686018427387904 → Int.bmod (q : Int) Int64.size = (q : Int) := fun q hq => Int.bmod_eq_of_le (by show -9223372036854775808 ≤ _; omega) (by show _ < 9223372036854775808; omega)
  exact key _ (Nat.lt_of_le_of_lt h1 ha)
theorem j_mod {a b : Nat} (ha : a < 4611686018427387904) (hb : b < 4611686018427387904) : Int64.ofNat a - Int64.ofNat a / Int64.ofNat b * Int64.ofNat b = Int64.ofNat (a % b) := by
  rw [j_div ha hb, j_mul, j_sub (Nat.div_mul_le_self a b)]
  congr 1
  have := Nat.div_add_mod a b
  rw [Nat.mul_comm] at this
  omega
theorem j_cmp0 {a : Nat} (ha : a < 4611686018427387904) : (lg_cmp (Int64.ofNat a) 0 = 0) ↔ a = 0 := by
  have e : lg_cmp (Int64.ofNat a) 0 = 0 ↔ Int64.ofNat a = 0 := by
    constructor
    · intro h
      unfold lg_cmp at h
      split at h
      · cases h
      · split at h
        · assumption
        · cases h
    · intro h
      rw [h]
      exact gs_cmp_self 0
  rw [e]
  exact j_neq ha (by decide : (0 : Nat) < 4611686018427387904)
theorem j_nz {a : Nat} (ha : a < 4611686018427387904) (h : a ≠ 0) (k : gs_O) : gs_nzL (Int64.ofNat a) k = k := gs_nzL_n (fun e => h ((j_neq ha (by decide : (0 : Nat) < 4611686018427387904)).mp e)) k
section GCD
variable {X : gs_E} {d : Nat} {m : gs_M}
theorem f_gcds (x y : Nat) : Nat.gcd y (x % y) = Nat.gcd x y := by rw [Nat.gcd_comm y (x % y), ← Nat.gcd_rec y x, Nat.gcd_comm]
theorem r_gcd_loop : ∀ (q x y F : Nat), x < 4611686018427387904 → y < 2 ^ q → q ≤ 60 → 2 * q + 1 < F → gs_iter X (gs_exec X d) gT_X12_common F 6 [(4, .inr (.inl (Int64.ofNat x))), (6, .inr (.inl (Int64.ofNat y)))] [] m = gs_rJ (Int64.ofNat (Nat.gcd x y)) m := by
  have fin : ∀ (x F : Nat), 0 < F → gs_iter X (gs_exec X d) gT_X12_common F 6 [(4, .inr (.inl (Int64.ofNat x))), (6, .inr (.inl (Int64.ofNat 0)))] [] m = gs_rJ (Int64.ofNat (Nat.gcd x 0)) m := by
    intro x F hF
    obtain ⟨F, rfl⟩ : ∃ z, F = z + 1 := ⟨F - 1, by omega⟩
    rw [eq_X12_common_6, if_pos ((j_cmp0 (by decide)).mpr rfl), Nat.gcd_zero_right]
  have step : ∀ (x y F : Nat), x < 4611686018427387904 → y < 4611686018427387904 → y ≠ 0 → gs_iter X (gs_exec X d) gT_X12_common (F + 1) 6 [(4, .inr (.inl (Int64.ofNat x))), (6, .inr (.inl (Int64.ofNat y)))] [] m = gs_iter X (gs_exec X d) gT_X12_common F 6 [(4, .inr (.inl (Int64.ofNat y))), (6, .inr (.inl (Int64.ofNat (x % y))))] [] m := by
    intro x y F hx hy h0
    rw [eq_X12_common_6, if_neg (fun q => h0 ((j_cmp0 hy).mp q)), j_nz hy h0, j_mod hx hy]
  intro q
  induction q with
  | zero =>
    intro x y F hx hy hq hF
    have e : y = 0 := by omega
    subst e
    exact fin x F (by omega)
  | succ q ih =>
    intro x y F hx hy hq hF
    by_cases h0 : y = 0
    · subst h0
      exact fin x F (by omega)
    · have hp : 2 ^ (q + 1) = 2 ^ q * 2 := Nat.pow_succ 2 q
      have hp60 : 2 ^ (q + 1) ≤ 2 ^ 60 := Nat.pow_le_pow_right (by decide) hq
      have e60 : 2 ^ 60 = 1152921504606846976 := by decide
      have hy62 : y < 4611686018427387904 := by omega
      have hr : x % y < y := Nat.mod_lt _ (by omega)
      obtain ⟨F, rfl⟩ : ∃ z, F = z + 1 := ⟨F - 1, by omega⟩
      rw [step x y F hx hy62 h0, ← f_gcds x y]
      generalize x % y = r at hr
      by_cases h1 : r = 0
      · subst h1
        exact fin y F (by omega)
      · obtain ⟨F, rfl⟩ : ∃ z, F = z + 1 := ⟨F - 1, by omega⟩
        have hs : y % r < r := Nat.mod_lt _ (by omega)
        have hh : y % r < 2 ^ q := by
          have h3 := Nat.div_add_mod y r
          have h4 : 1 ≤ y / r := (Nat.one_le_div_iff (by omega)).mpr (by omega)
          have h5 : r * 1 ≤ r * (y / r) := Nat.mul_le_mul_left r h4
          omega
        rw [step y r F hy62 (by omega) h1, ← f_gcds y r]
        exact ih r (y % r) F (by omega) hh (by omega) (by omega)
def f_q (a b g : Nat) (w : Int32) : Int64 := if w = 0 then Int64.ofNat (a / g) else Int64.ofNat (b / g)
theorem gs_if_rJ2 (c : Prop) [Decidable c] (a b : Int64) (m : gs_M) : (if c then gs_rJ a m else gs_rJ b m) = gs_rJ (if c then a else b) m := by split <;> rfl
theorem x_gcd_loop {a b : Nat} {w : Int32} (ha : a < 4611686018427387904) (hb : b < 4611686018427387904) : ∀ (q x y k F : Nat), x < 4611686018427387904 → y < 2 ^ q → q ≤ 40 → k + 2 * q + 1 ≤ 100 → 2 * q + 1 < F → 0 < x →
    gs_iter X (gs_exec X d) gT_X7_leastTerms F 17 [(0, .inr (.inl (Int64.ofNat a))), (2, .inr (.inl (Int64.ofNat b))), (4, .inl w), (5, .inr (.inl (Int64.ofNat x))), (7, .inr (.inl (Int64.ofNat y))), (9, .inl (Int32.ofNat k))] [] m = gs_rJ (f_q a b (Nat.gcd x y) w) m := by
  have fin : ∀ (x k F : Nat), x < 4611686018427387904 → 0 < x → k ≤ 100 → 0 < F → gs_iter X (gs_exec X d) gT_X7_leastTerms F 17 [(0, .inr (.inl (Int64.ofNat a))), (2, .inr (.inl (Int64.ofNat b))), (4, .inl w), (5, .inr (.inl (Int64.ofNat x))), (7, .inr (.inl (Int64.ofNat 0))), (9, .inl (Int32.ofNat k))] [] m = gs_rJ (f_q a b (Nat.gcd x 0) w) m := by
    intro x k F hx hx0 hk hF
    obtain ⟨F, rfl⟩ : ∃ z, F = z + 1 := ⟨F - 1, by omega⟩
    have e : (if w = 0 then gs_nzL (Int64.ofNat x) (gs_rJ (Int64.ofNat a / Int64.ofNat x) m) else gs_nzL (Int64.ofNat x) (gs_rJ (Int64.ofNat b / Int64.ofNat x) m)) = gs_rJ (f_q a b (Nat.gcd x 0) w) m := by
      rw [j_nz hx (by omega), j_nz hx (by omega), j_div ha hx, j_div hb hx, gs_if_rJ2, Nat.gcd_zero_right]
      rfl
    rw [eq_X7_leastTerms_17, e]
    by_cases h1 : Int32.ofNat k < 100
    · rw [if_pos h1, if_pos ((j_cmp0 (by decide)).mpr rfl)]
    · rw [if_neg h1]
  have step : ∀ (x y k F : Nat), x < 4611686018427387904 → y < 4611686018427387904 → y ≠ 0 → k < 100 → gs_iter X (gs_exec X d) gT_X7_leastTerms (F + 1) 17 [(0, .inr (.inl (Int64.ofNat a))), (2, .inr (.inl (Int64.ofNat b))), (4, .inl w), (5, .inr (.inl (Int64.ofNat x))), (7, .inr (.inl (Int64.ofNat y))), (9, .inl (Int32.ofNat k))] [] m = gs_iter X (gs_exec X d) gT_X7_leastTerms F 17 [(0, .inr (.inl (Int64.ofNat a))), (2, .inr (.inl (Int64.ofNat b))), (4, .inl w), (5, .inr (.inl (Int64.ofNat y))), (7, .inr (.inl (Int64.ofNat (x % y)))), (9, .inl (Int32.ofNat (k + 1)))] [] m := by
    intro x y k F hx hy h0 hk
    rw [eq_X7_leastTerms_17, if_pos (by show _ < Int32.ofNat 100; rw [gs_nlt (by omega) (by omega)]; omega), if_neg (fun q => h0 ((j_cmp0 hy).mp q)), j_nz hy h0, j_mod hx hy, gs_ns]
  have gs : ∀ x y : Nat, Nat.gcd y (x % y) = Nat.gcd x y := fun x y => by rw [Nat.gcd_comm y (x % y), ← Nat.gcd_rec y x, Nat.gcd_comm]
  intro q
  induction q with
  | zero =>
    intro x y k F hx hy hq hk hF hx0
    have e : y = 0 := by omega
    subst e
    exact fin x k F hx hx0 (by omega) (by omega)
  | succ q ih =>
    intro x y k F hx hy hq hk hF hx0
    by_cases h0 : y = 0
    · subst h0
      exact fin x k F hx hx0 (by omega) (by omega)
    · have hp : 2 ^ (q + 1) = 2 ^ q * 2 := Nat.pow_succ 2 q
      have hp40 : 2 ^ (q + 1) ≤ 2 ^ 40 := Nat.pow_le_pow_right (by decide) hq
      have e40 : 2 ^ 40 = 1099511627776 := by decide
      have hy62 : y < 4611686018427387904 := by omega
      have hr : x % y < y := Nat.mod_lt _ (by omega)
      obtain ⟨F, rfl⟩ : ∃ z, F = z + 1 := ⟨F - 1, by omega⟩
      rw [step x y k F hx hy62 h0 (by omega), ← gs x y]
      generalize x % y = r at hr
      by_cases h1 : r = 0
      · subst h1
        exact fin y (k + 1) F hy62 (by omega) (by omega) (by omega)
      · obtain ⟨F, rfl⟩ : ∃ z, F = z + 1 := ⟨F - 1, by omega⟩
        have hs : y % r < r := Nat.mod_lt _ (by omega)
        have hh : y % r < 2 ^ q := by
          have h3 := Nat.div_add_mod y r
          have h4 : 1 ≤ y / r := (Nat.one_le_div_iff (by omega)).mpr (by omega)
          have h5 : r * 1 ≤ r * (y / r) := Nat.mul_le_mul_left r h4
          omega
        rw [step y r (k + 1) F hy62 (by omega) h1 (by omega), ← gs y r]
        exact ih r (y % r) (k + 1 + 1) F (by omega) hh (by omega) (by omega) (by omega) (by omega)
def f_least (a b : Nat) (w : Int32) : Int64 := if b = 0 then 0 else f_q a b (Nat.gcd a b) w
theorem x_least {a b : Nat} {w : Int32} (hX : gs_Fu X) (ha : a < 1099511627776) (hb : b < 4611686018427387904) : gs_exec X (d + 1) 85 [.inr (.inl (Int64.ofNat a)), .inr (.inl (Int64.ofNat b)), .inl w] m = gs_rJ (f_least a b w) m := by
  unfold f_least
  rw [eq_X7_leastTerms]
  by_cases h0 : b = 0
  · rw [if_pos ((j_cmp0 hb).mpr h0), if_pos h0]
  · rw [if_neg (fun q => h0 ((j_cmp0 hb).mp q)), if_neg h0, Nat.gcd_comm]
    exact x_gcd_loop (by omega) hb 40 b a 0 X.1 hb (by have : 2 ^ 40 = 1099511627776 := by decide
                                                       omega) (by decide) (by decide) (by unfold gs_Fu at hX; omega) (by omega)
theorem r_least {a b : Nat} {w : Int32} (hX : gs_Fu X) (ha : a < 1099511627776) (hb : b < 1152921504606846976) : gs_exec X (d + 2) 233 [.inr (.inl (Int64.ofNat a)), .inr (.inl (Int64.ofNat b)), .inl w] m = gs_rJ (f_least a b w) m := by
  unfold f_least
  rw [eq_X12_least]
  by_cases h0 : b = 0
  · rw [if_pos ((j_cmp0 (by omega)).mpr h0), if_pos h0]
  · have hg : Nat.gcd a b ≤ b := Nat.gcd_le_right a (by omega)
    have hb60 : b < 2 ^ 60 := hb
    have hg0 : Nat.gcd a b ≠ 0 := fun q => h0 (Nat.eq_zero_of_gcd_eq_zero_right q)
    rw [if_neg (fun q => h0 ((j_cmp0 (by omega)).mp q)), if_neg h0, eq_X12_common, r_gcd_loop 60 a b X.1 (by omega) hb60 (by decide) (by unfold gs_Fu at hX; omega), gs_bJ_s, j_nz (by omega) hg0, j_nz (by omega) hg0, j_div (by omega) (by omega), j_div (by omega) (by omega), gs_if_rJ2]
    rfl
end GCD
