/-! Int32 as integers, where nothing runs over. -/
theorem i_sub {a b : Int32} (h1 : -2147483648 ≤ a.toInt - b.toInt) (h2 : a.toInt - b.toInt < 2147483648) : (a - b).toInt = a.toInt - b.toInt := by
  rw [Int32.toInt_sub]
  exact Int.bmod_eq_of_le (by show -2147483648 ≤ _; omega) (by show _ < 2147483648; omega)
theorem i_add {a b : Int32} (h1 : -2147483648 ≤ a.toInt + b.toInt) (h2 : a.toInt + b.toInt < 2147483648) : (a + b).toInt = a.toInt + b.toInt := by
  rw [Int32.toInt_add]
  exact Int.bmod_eq_of_le (by show -2147483648 ≤ _; omega) (by show _ < 2147483648; omega)
theorem i_mul {a b : Int32} (h1 : -2147483648 ≤ a.toInt * b.toInt) (h2 : a.toInt * b.toInt < 2147483648) : (a * b).toInt = a.toInt * b.toInt := by
  rw [Int32.toInt_mul]
  exact Int.bmod_eq_of_le (by show -2147483648 ≤ _; omega) (by show _ < 2147483648; omega)
theorem i_neg {a : Int32} (h1 : -2147483648 < a.toInt) : (-a).toInt = -a.toInt := by
  have h2 := a.toInt_lt
  rw [Int32.toInt_neg]
  exact Int.bmod_eq_of_le (by show -2147483648 ≤ _; omega) (by show _ < 2147483648; omega)
theorem i_lt {a b : Int32} : a < b ↔ a.toInt < b.toInt := Int32.lt_iff_toInt_lt
theorem i_eq {a b : Int32} : a = b ↔ a.toInt = b.toInt := Int32.toInt_inj.symm
theorem i_ix {x n : Int32} : isIx x n ↔ 0 ≤ x.toInt ∧ x.toInt < n.toInt := by
  unfold isIx
  rw [i_lt, i_lt]
  show ¬ x.toInt < 0 ∧ _ ↔ _
  omega
theorem i_bt {x a b : Int32} : isBt x a b ↔ a.toInt ≤ x.toInt ∧ x.toInt ≤ b.toInt := by
  unfold isBt
  rw [i_lt, i_lt]
  omega
/-- an index is a number -/
theorem i_nat {x n : Int32} (h : isIx x n) : x = Int32.ofNat x.toInt.toNat := by
  have h1 := i_ix.mp h
  have h2 := x.toInt_lt
  rw [i_eq, gs_n32 (by omega)]
  omega
theorem i_abs {x : Int32} (h : -2147483648 < x.toInt) : (f_abs x).toInt = if x.toInt < 0 then -x.toInt else x.toInt := by
  unfold f_abs
  by_cases h1 : x < 0
  · rw [if_pos h1, i_neg h, if_pos (show x.toInt < 0 from i_lt.mp h1)]
  · rw [if_neg h1, if_neg (show ¬ x.toInt < 0 from fun h2 => h1 (i_lt.mpr h2))]
def f_around (x x2 : Int32) : Int32 := if 60 < f_abs (x - x2) then 120 - f_abs (x - x2) else f_abs (x - x2)
def f_apart (x y x2 y2 : Int32) : Int32 := if f_abs (y - y2) < f_around x x2 then f_around x x2 else f_abs (y - y2)
section SKY
variable {X : gs_E} {d : Nat} {m : gs_M} {T : Nat} {x y x2 y2 a b : Int32}
theorem r_around : gs_exec X (d + 2) 256 [.inl x, .inl x2] m = gs_rI (f_around x x2) m := by
  rw [eq_X12_around, r_sizeOf, gs_bI_s, gs_if_rI]
  rfl
theorem r_apart : gs_exec X (d + 3) 257 [.inl x, .inl y, .inl x2, .inl y2] m = gs_rI (f_apart x y x2 y2) m := by
  rw [eq_X12_apart, r_around, gs_bI_s, r_sizeOf, gs_bI_s, gs_if_rI]
  rfl
theorem x_abs : gs_exec X (d + 1) 310 [.inl x] m = gs_rI (f_abs x) m := by rw [eq_J9_abs_0f7a4, gs_if_rI]; rfl
theorem x_min : gs_exec X (d + 1) 314 [.inl x, .inl y] m = gs_rI (if y < x then y else x) m := by rw [eq_J9_min_7cf53, gs_if_rI]
theorem x_max : gs_exec X (d + 1) 312 [.inl x, .inl y] m = gs_rI (if x < y then y else x) m := by rw [eq_J9_max_7cf53, gs_if_rI]
theorem f_max (s t : Int32) : (if s < t then t else s) = if t < s then s else t := by
  by_cases h1 : s < t
  · rw [if_pos h1, if_neg (fun h2 => by have := i_lt.mp h1; have := i_lt.mp h2; omega)]
  · rw [if_neg h1]
    by_cases h2 : t < s
    · rw [if_pos h2]
    · rw [if_neg h2, i_eq]
      have h1 : ¬ s.toInt < t.toInt := fun h => h1 (i_lt.mpr h)
      have h2 : ¬ t.toInt < s.toInt := fun h => h2 (i_lt.mpr h)
      omega
theorem f_min60 {a : Int32} (h1 : 0 ≤ a.toInt) (h2 : a.toInt < 1000000) : (if 120 - a < a then 120 - a else a) = if 60 < a then 120 - a else a := by
  have e : (120 - a).toInt = 120 - a.toInt := i_sub (a := 120) (by show -2147483648 ≤ 120 - _; omega) (by show 120 - _ < _; omega)
  have e60 : (60 : Int32).toInt = 60 := rfl
  by_cases h3 : 60 < a
  · rw [if_pos h3, if_pos]
    rw [i_lt] at h3 ⊢
    omega
  · rw [if_neg h3, if_neg]
    rw [i_lt] at h3 ⊢
    omega
theorem x_apart (hx : isIx x 120) (hx2 : isIx x2 120) : gs_exec X (d + 2) 81 [.inl x, .inl y, .inl x2, .inl y2] m = gs_rI (f_apart x y x2 y2) m := by
  have q1 := i_ix.mp hx
  have q2 := i_ix.mp hx2
  have e120 : (120 : Int32).toInt = 120 := rfl
  have es : (x - x2).toInt = x.toInt - x2.toInt := i_sub (by omega) (by omega)
  have ea := i_abs (x := x - x2) (by omega)
  rw [es] at ea
  rw [eq_X7_apart, x_abs, gs_bI_s, x_min, gs_bI_s, x_abs, gs_bI_s, x_max, gs_bI_s, f_min60 (by rw [ea]; split <;> omega) (by rw [ea]; split <;> omega), f_max]
  rfl
/-! seen -/
def f_begin (y mo : Int32) : Int32 := 354 * y + 29 * (mo - 1) + mo / 2
theorem x_begin : gs_exec X (d + 1) 79 [.inl x, .inl y] m = gs_rI (f_begin x y) m := by rw [eq_X7_monthBegin, gs_nz_n (by decide)]; rfl
theorem r_begin : gs_exec X (d + 1) 241 [.inl x, .inl y] m = gs_rI (f_begin x y) m := by rw [eq_X12_beginOf, gs_nz_n (by decide)]; rfl
theorem f_abs0 : f_abs (0 - 0) = 0 := by decide
theorem f_apart0 {z : Int32} (h : isIx x 120) (hz : isIx z 120) : f_apart x 0 z 0 = f_around x z := by
  have q1 := i_ix.mp h
  have q2 := i_ix.mp hz
  have e120 : (120 : Int32).toInt = 120 := rfl
  have es : (x - z).toInt = x.toInt - z.toInt := i_sub (by omega) (by omega)
  have ea := i_abs (x := x - z) (by omega)
  rw [es] at ea
  have e0 : 0 ≤ (f_around x z).toInt := by
    unfold f_around
    by_cases h3 : 60 < f_abs (x - z)
    · rw [if_pos h3, i_sub (a := 120) (by rw [ea]; show -2147483648 ≤ 120 - _; split <;> omega) (by rw [ea]; show 120 - _ < _; split <;> omega), ea, e120]
      split <;> omega
    · rw [if_neg h3, ea]
      split <;> omega
  unfold f_apart
  rw [f_abs0]
  by_cases h4 : (0 : Int32) < f_around x z
  · rw [if_pos h4]
  · rw [if_neg h4, i_eq]
    have e00 : (0 : Int32).toInt = 0 := rfl
    have h4 : ¬ (0 : Int32).toInt < (f_around x z).toInt := fun h => h4 (i_lt.mpr h)
    omega
theorem f_sun_in : ∀ k, k < 13 → 0 < k → isIx (f_sunOf (f_begin 0 (Int32.ofNat k) + 14)) 120 := by decide
theorem x_hides (hx : isIx x 120) (hz : isIx (f_sunOf y) 120) : gs_exec X (d + 3) 83 [.inl y, .inl x] m = gs_rI (b2 (¬ 10 < f_around x (f_sunOf y))) m := by
  rw [eq_X7_hides, x_sunAt, gs_bI_s, x_apart hx hz, gs_bI_s, f_apart0 hx hz]
  unfold b2
  by_cases h : 10 < f_around x (f_sunOf y)
  · rw [if_pos h, if_neg (fun q => q h)]; rfl
  · rw [if_neg h, if_pos h]; rfl
/-- the months in which a place is seen -/
def f_seenOf (x : Int32) : Nat → Nat → Int32 → Int32
  | 0, _, v => v
  | r + 1, k, v => if 10 < f_around x (f_sunOf (f_begin 0 (Int32.ofNat k) + 14)) then f_seenOf x r (k + 1) (v ||| (1 <<< ((Int32.ofNat k - 1) &&& 31))) else f_seenOf x r (k + 1) v
theorem f_seenOf_s (x : Int32) (r k : Nat) (v : Int32) : f_seenOf x (r + 1) k v = if 10 < f_around x (f_sunOf (f_begin 0 (Int32.ofNat k) + 14)) then f_seenOf x r (k + 1) (v ||| (1 <<< ((Int32.ofNat k - 1) &&& 31))) else f_seenOf x r (k + 1) v := rfl
theorem x_seen_loop (hx : isIx x 120) : ∀ (r k F : Nat) (v : Int32), k + r = 13 → 0 < k → r < F → gs_iter X (gs_exec X (d + 3)) gT_X7_monthsSeen F 4 [(0, .inl x), (1, .inl v), (2, .inl (Int32.ofNat k))] [] m = gs_rI (f_seenOf x r k v) m
  | 0, k, F, v, hk, _, hF => by
    obtain ⟨F, rfl⟩ : ∃ q, F = q + 1 := ⟨F - 1, by omega⟩
    rw [eq_X7_monthsSeen_4, if_pos (by show Int32.ofNat 12 < _; rw [gs_nlt (by omega) (by omega)]; omega)]
    rfl
  | r + 1, k, F, v, hk, h0, hF => by
    obtain ⟨F, rfl⟩ : ∃ q, F = q + 1 := ⟨F - 1, by omega⟩
    rw [eq_X7_monthsSeen_4, if_neg (by show ¬ Int32.ofNat 12 < _; rw [gs_nlt (by omega) (by omega)]; omega), x_begin, gs_bI_s, x_hides hx (f_sun_in k (by omega) h0), gs_bI_s, b2_if, gs_ns, x_seen_loop hx r (k + 1) F _ (by omega) (by omega) (by omega), x_seen_loop hx r (k + 1) F _ (by omega) (by omega) (by omega)]
    rw [f_seenOf_s]
    by_cases h : 10 < f_around x (f_sunOf (f_begin 0 (Int32.ofNat k) + 14))
    · rw [if_neg (fun q => q h), if_pos h]
    · rw [if_pos h, if_neg h]
theorem r_seen_loop : ∀ (r k F : Nat) (v : Int32), k + r = 13 → 0 < k → r < F → gs_iter X (gs_exec X (d + 2)) gT_X12_seenOf F 4 [(0, .inl x), (1, .inl v), (2, .inl (Int32.ofNat k))] [] m = gs_rI (f_seenOf x r k v) m
  | 0, k, F, v, hk, _, hF => by
    obtain ⟨F, rfl⟩ : ∃ q, F = q + 1 := ⟨F - 1, by omega⟩
    rw [eq_X12_seenOf_4, if_neg (by show ¬ _ < Int32.ofNat 13; rw [gs_nlt (by omega) (by omega)]; omega)]
    rfl
  | r + 1, k, F, v, hk, h0, hF => by
    obtain ⟨F, rfl⟩ : ∃ q, F = q + 1 := ⟨F - 1, by omega⟩
    have ez : v ||| (0 : Int32) = v := by simp
    rw [eq_X12_seenOf_4, if_pos (by show _ < Int32.ofNat 13; rw [gs_nlt (by omega) (by omega)]; omega), r_begin, gs_bI_s, r_sunOf, gs_bI_s, r_around, gs_bI_s, gs_ns, ez, r_seen_loop r (k + 1) F _ (by omega) (by omega) (by omega), r_seen_loop r (k + 1) F _ (by omega) (by omega) (by omega), gs_if_rI]
    rw [f_seenOf_s]
theorem x_monthsSeen (hX : gs_Fu X) (hx : isIx x 120) : gs_exec X (d + 4) 84 [.inl x] m = gs_rI (f_seenOf x 12 1 0) m := by
  rw [eq_X7_monthsSeen]
  exact x_seen_loop hx 12 1 X.1 0 rfl (by decide) (by unfold gs_Fu at hX; omega)
theorem r_seenOf (hX : gs_Fu X) : gs_exec X (d + 3) 294 [.inl x] m = gs_rI (f_seenOf x 12 1 0) m := by
  rw [eq_X12_seenOf]
  exact r_seen_loop 12 1 X.1 0 rfl (by decide) (by unfold gs_Fu at hX; omega)
def f_seen (x : Int32) : Int32 := if isIx x 120 then f_seenOf x 12 1 0 else -1
theorem x_seen (hX : gs_Fu X) : gs_exec X (d + 5) 151 [.inr (.inr 0), .inl x] m = gs_rI (f_seen x) m := by
  rw [eq_X11_seen]
  unfold f_seen
  by_cases h1 : x < 0
  · rw [if_pos h1, if_neg (show ¬ isIx x 120 from fun q => q.1 h1)]
  · rw [if_neg h1]
    by_cases h2 : x < 120
    · rw [if_pos h2, if_pos (show isIx x 120 from ⟨h1, h2⟩), x_monthsSeen hX ⟨h1, h2⟩, gs_bI_s]
    · rw [if_neg h2, if_neg (show ¬ isIx x 120 from fun q => h2 q.2)]
theorem f_ixbt {n k : Int32} (h : n.toInt = k.toInt + 1) : isBt x 0 k ↔ isIx x n := by
  rw [i_bt, i_ix]
  show 0 ≤ _ ∧ _ ↔ _
  omega
theorem r_seen (hX : gs_Fu X) (h : gs_Sh m T) : gs_exec X (d + 4) 301 [.inr (.inr 116), .inl x] m = gs_rI (f_seen x) (gs_sI m 116 2 0) := by
  rw [eq_X12_seen, fl_116 h]
  show gs_bI (gs_exec X (d + 3) 175 [.inl x, .inl 0, .inl 119] (gs_sI m 116 2 0)) _ _ = _
  rw [r_isIn, gs_bI_s, b2_if, r_seenOf hX, gs_bI_s, gs_if_rI]
  unfold f_seen
  by_cases h1 : isIx x 120
  · rw [if_pos h1, if_pos ((f_ixbt (n := 120) (k := 119) rfl).mpr h1)]
  · rw [if_neg h1, if_neg (fun q => h1 ((f_ixbt (n := 120) (k := 119) rfl).mp q))]
end SKY
