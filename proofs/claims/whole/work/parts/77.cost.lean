/-! Pairing in the class: rows filled, costs of seats. -/
theorem L_add {a b : Int64} (h1 : -9223372036854775808 ≤ a.toInt + b.toInt) (h2 : a.toInt + b.toInt < 9223372036854775808) : (a + b).toInt = a.toInt + b.toInt := by
  rw [Int64.toInt_add]
  exact Int.bmod_eq_of_le (by show -9223372036854775808 ≤ _; omega) (by show _ < 9223372036854775808; omega)
theorem L_sub {a b : Int64} (h1 : -9223372036854775808 ≤ a.toInt - b.toInt) (h2 : a.toInt - b.toInt < 9223372036854775808) : (a - b).toInt = a.toInt - b.toInt := by
  rw [Int64.toInt_sub]
  exact Int.bmod_eq_of_le (by show -9223372036854775808 ≤ _; omega) (by show _ < 9223372036854775808; omega)
theorem L_mul {a b : Int64} (h1 : -9223372036854775808 ≤ a.toInt * b.toInt) (h2 : a.toInt * b.toInt < 9223372036854775808) : (a * b).toInt = a.toInt * b.toInt := by
  rw [Int64.toInt_mul]
  exact Int.bmod_eq_of_le (by show -9223372036854775808 ≤ _; omega) (by show _ < 9223372036854775808; omega)
theorem dig_v : ∀ i, i < 12 → (gs_digits.getD i 0).toInt = (11 : Int) ^ (11 - i) ∧ 1 ≤ (11 : Int) ^ (11 - i) ∧ (11 : Int) ^ (11 - i) ≤ 285311670611 := by decide
theorem cst_1 {x : Int64} {t : Int} (h : x.toInt = t) (h0 : 0 ≤ t) (h9 : t ≤ 999) : (x * (3138428376721 : Int64)).toInt = t * 3138428376721 := by
  have q : (3138428376721 : Int64).toInt = 3138428376721 := rfl
  have b1 : 0 ≤ t * 3138428376721 := by omega
  have b2 : t * 3138428376721 ≤ 999 * 3138428376721 := by omega
  rw [L_mul, h, q]
  · rw [h, q]; exact Int.le_trans (by decide) b1
  · rw [h, q]; exact Int.lt_of_le_of_lt b2 (by decide)
theorem cst_2 {x y : Int64} {t q : Int} (hx : x.toInt = t * 3138428376721) (hy : y.toInt = q) (h0 : 0 ≤ t) (h9 : t ≤ 999) (q0 : 0 ≤ q) (q9 : q ≤ 9 * 285311670611) : ((x + y) - (31384283767210000 : Int64)).toInt = t * 3138428376721 + q - 31384283767210000 ∧ -100000000000000000 ≤ t * 3138428376721 + q - 31384283767210000 ∧ t * 3138428376721 + q - 31384283767210000 ≤ 100000000000000000 := by
  have b1 : 0 ≤ t * 3138428376721 := by omega
  have b2 : t * 3138428376721 ≤ 3135289948344279 := by omega
  generalize t * 3138428376721 = z at *
  have e1 : (x + y).toInt = z + q := by
    rw [L_add (by rw [hx, hy]; omega) (by rw [hx, hy]; omega), hx, hy]
  have e2 : (31384283767210000 : Int64).toInt = 31384283767210000 := rfl
  refine ⟨?_, by omega, by omega⟩
  generalize (31384283767210000 : Int64) = w at *
  rw [L_sub (by rw [e1, e2]; omega) (by rw [e1, e2]; omega), e1, e2]
section CST
variable {X : gs_E} {d : Nat} {m : gs_M} {T n k : Nat} {tl : Nat → Nat → Nat}
theorem x_fillL_loop {a len : Nat} {v : Int64} (hk : ∀ (M : gs_M) (i : Nat) (K : Nat → gs_O), M.1 = m.1 → i < len → gs_ix M a 14 (Int32.ofNat i) K = K i) (hl : len < 1000) : ∀ (q i F : Nat) (M : gs_M), i + q = len → q < F → M.1 = m.1 → M.2.1 = m.2.1 → M.2.2.2 = m.2.2.2 → (∀ j, j < i → M.2.2.1 a j = v) → (∀ b, b ≠ a → M.2.2.1 b = m.2.2.1 b) →
    ∃ M', gs_iter X (gs_exec X d) gT_J7_fill_d0a16 F 6 [(0, .inr (.inr a)), (1, .inr (.inl v)), (3, .inl (Int32.ofNat i)), (4, .inl (Int32.ofNat len))] [] M = gs_rU M' ∧ M'.1 = m.1 ∧ M'.2.1 = m.2.1 ∧ M'.2.2.2 = m.2.2.2 ∧ (∀ j, j < len → M'.2.2.1 a j = v) ∧ (∀ b, b ≠ a → M'.2.2.1 b = m.2.2.1 b) := by
  intro q
  induction q with
  | zero =>
    intro i F M hi hF h1 h2 h3 h4 h5
    obtain ⟨F, rfl⟩ : ∃ z, F = z + 1 := ⟨F - 1, by omega⟩
    refine ⟨M, ?_, h1, h2, h3, fun j hj => h4 j (by omega), h5⟩
    rw [eq_J7_fill_d0a16_6, if_neg (fun z => by have := (gs_nlt (by omega) (by omega)).mp z; omega)]
  | succ q ih =>
    intro i F M hi hF h1 h2 h3 h4 h5
    obtain ⟨F, rfl⟩ : ∃ z, F = z + 1 := ⟨F - 1, by omega⟩
    rw [eq_J7_fill_d0a16_6, if_pos ((gs_nlt (by omega) (by omega)).mpr (by omega)), hk M i _ h1 (by omega), gs_ns]
    refine ih (i + 1) F (gs_sJ M a i v) (by omega) (by omega) h1 h2 h3 (fun j hj => ?_) (fun b hb => ?_)
    · by_cases e : j = i
      · subst e
        exact gs_sJe _ _ _ _
      · rw [gs_sJg, if_pos rfl, if_neg e]
        exact h4 j (by omega)
    · rw [← h5 b hb]
      funext j
      rw [gs_sJg, if_neg hb]
theorem x_fillL {a len : Nat} {v : Int64} (hX : gs_Fu X) (h : gs_Sh m T) (ha : gs_ok a 14 153 = true) (hl : gs_len a = len) (hl2 : len < 1000) : ∃ M', gs_exec X (d + 1) 316 [.inr (.inr a), .inr (.inl v)] m = gs_rU M' ∧ M'.1 = m.1 ∧ M'.2.1 = m.2.1 ∧ M'.2.2.2 = m.2.2.2 ∧ (∀ j, j < len → M'.2.2.1 a j = v) ∧ (∀ b, b ≠ a → M'.2.2.1 b = m.2.2.1 b) := by
  have hk : gs_kind a = 14 ∧ Nat.blt (gs_rk a) 153 = true := by
    unfold gs_ok at ha
    rw [Bool.and_eq_true] at ha
    exact ⟨Nat.eq_of_beq_eq_true ha.1, ha.2⟩
  rw [eq_J7_fill_d0a16, hk.1, h.1, hk.2, hl]
  exact x_fillL_loop (fun M i K hM hi => gs_ixn (by rw [hM]; exact h.1) ha (by omega)) hl2 len 0 X.1 m (by omega) (by unfold gs_Fu at hX; omega) rfl rfl rfl (fun j hj => by omega) (fun _ _ => rfl)
theorem x_fillI_loop {a len : Nat} {v : Int32} (hk : ∀ (M : gs_M) (i : Nat) (K : Nat → gs_O), M.1 = m.1 → i < len → gs_ix M a 13 (Int32.ofNat i) K = K i) (hl : len < 1000) : ∀ (q i F : Nat) (M : gs_M), i + q = len → q < F → M.1 = m.1 → M.2.2.1 = m.2.2.1 → M.2.2.2 = m.2.2.2 → (∀ j, j < i → M.2.1 a j = v) → (∀ b, b ≠ a → M.2.1 b = m.2.1 b) →
    ∃ M', gs_iter X (gs_exec X d) gT_J7_fill_53178 F 5 [(0, .inr (.inr a)), (1, .inl v), (2, .inl (Int32.ofNat i)), (3, .inl (Int32.ofNat len))] [] M = gs_rU M' ∧ M'.1 = m.1 ∧ M'.2.2.1 = m.2.2.1 ∧ M'.2.2.2 = m.2.2.2 ∧ (∀ j, j < len → M'.2.1 a j = v) ∧ (∀ b, b ≠ a → M'.2.1 b = m.2.1 b) := by
  intro q
  induction q with
  | zero =>
    intro i F M hi hF h1 h2 h3 h4 h5
    obtain ⟨F, rfl⟩ : ∃ z, F = z + 1 := ⟨F - 1, by omega⟩
    refine ⟨M, ?_, h1, h2, h3, fun j hj => h4 j (by omega), h5⟩
    rw [eq_J7_fill_53178_5, if_neg (fun z => by have := (gs_nlt (by omega) (by omega)).mp z; omega)]
  | succ q ih =>
    intro i F M hi hF h1 h2 h3 h4 h5
    obtain ⟨F, rfl⟩ : ∃ z, F = z + 1 := ⟨F - 1, by omega⟩
    rw [eq_J7_fill_53178_5, if_pos ((gs_nlt (by omega) (by omega)).mpr (by omega)), hk M i _ h1 (by omega), gs_ns]
    refine ih (i + 1) F (gs_sI M a i v) (by omega) (by omega) h1 h2 h3 (fun j hj => ?_) (fun b hb => ?_)
    · by_cases e : j = i
      · subst e
        exact gs_sIe _ _ _ _
      · rw [gs_sIn (Or.inr e)]
        exact h4 j (by omega)
    · rw [← h5 b hb]
      funext j
      rw [gs_sIn (Or.inl hb)]
theorem x_fillI {a len : Nat} {v : Int32} (hX : gs_Fu X) (h : gs_Sh m T) (ha : gs_ok a 13 153 = true) (hl : gs_len a = len) (hl2 : len < 1000) : ∃ M', gs_exec X (d + 1) 317 [.inr (.inr a), .inl v] m = gs_rU M' ∧ M'.1 = m.1 ∧ M'.2.2.1 = m.2.2.1 ∧ M'.2.2.2 = m.2.2.2 ∧ (∀ j, j < len → M'.2.1 a j = v) ∧ (∀ b, b ≠ a → M'.2.1 b = m.2.1 b) := by
  have hk : gs_kind a = 13 ∧ Nat.blt (gs_rk a) 153 = true := by
    unfold gs_ok at ha
    rw [Bool.and_eq_true] at ha
    exact ⟨Nat.eq_of_beq_eq_true ha.1, ha.2⟩
  rw [eq_J7_fill_53178, hk.1, h.1, hk.2, hl]
  exact x_fillI_loop (fun M i K hM hi => gs_ixn (by rw [hM]; exact h.1) ha (by omega)) hl2 len 0 X.1 m (by omega) (by unfold gs_Fu at hX; omega) rfl rfl rfl (fun j hj => by omega) (fun _ _ => rfl)
/-- the class's tolls -/
def tlI (tl : Nat → Nat → Nat) (g c : Nat) : Int32 := if tl g c = 100000 then -1 else Int32.ofNat (tl g c)
def gs_HB (m : gs_M) (T n k : Nat) (tl : Nat → Nat → Nat) : Prop := gs_Sh m T ∧ m.2.1 6 7 = Int32.ofNat n ∧ m.2.1 6 8 = Int32.ofNat k ∧ m.2.1 6 9 = Int32.ofNat (k + n) ∧ n ≤ 12 ∧ k ≤ 10 ∧ (∀ g c, g < n → c < k → m.2.1 7 (g * 10 + c) = tlI tl g c) ∧ (∀ g c, g < n → c < k → tl g c = 100000 ∨ tl g c ≤ 999)
theorem x_i7 {g c : Nat} (h : gs_Sh m T) (hg : g < 12) (hc : c < 10) {K : Nat → gs_O} : gs_ix m 7 13 ((Int32.ofNat g * (10 : Int32)) + Int32.ofNat c) K = K (g * 10 + c) := by
  show gs_ix m 7 13 (Int32.ofNat g * Int32.ofNat 10 + Int32.ofNat c) K = _
  rw [n_mul, n_add]
  exact gs_ixn h.1 rfl (by show _ < 120; omega)
theorem x_isAble {g c : Nat} (hB : gs_HB m T n k tl) (hg : g < n) (hc : c < k) : gs_exec X (d + 1) 30 [.inr (.inr 6), .inl (Int32.ofNat g), .inl (Int32.ofNat c)] m = gs_rI (b2 (¬ tl g c = 100000)) m := by
  obtain ⟨h, -, -, -, hn, hk, h7, hT⟩ := hB
  have e : tlI tl g c = -1 ↔ tl g c = 100000 := by
    unfold tlI
    rcases hT g c hg hc with z | z
    · rw [if_pos z]
      exact ⟨fun _ => z, fun _ => rfl⟩
    · rw [if_neg (by omega)]
      exact ⟨fun q => absurd q (gs_neg1 (by omega)), fun q => by omega⟩
  rw [eq_X4_isAble, fl_6 h, sh_6_0 h, gs_nn_s, x_i7 h (by omega) (by omega), h7 g c hg hc]
  unfold b2
  by_cases z : tl g c = 100000
  · rw [if_pos (e.mpr z), if_neg (fun q => q z)]; rfl
  · rw [if_neg (fun q => z (e.mp q)), if_pos z]; rfl
def cR (x : Int64) (o : Option Int) : Prop := match o with
  | none => x = 9223372036854775807
  | some c => x.toInt = c ∧ -100000000000000000 ≤ c ∧ c ≤ 100000000000000000
theorem x_costOf {g s : Nat} (hB : gs_HB m T n k tl) (hg : 1 ≤ g) (hgn : g ≤ n) (hs : 1 ≤ s) (hsK : s ≤ k + n) : ∃ x, gs_exec X (d + 2) 31 [.inr (.inr 6), .inl (Int32.ofNat g), .inl (Int32.ofNat s)] m = gs_rJ x m ∧ cR x (Cf tl k g s) := by
  have hB2 := hB
  obtain ⟨h, e7, e8, e9, hn, hk, h7, hT⟩ := hB
  obtain ⟨g, rfl⟩ : ∃ g', g = g' + 1 := ⟨g - 1, by omega⟩
  have es : Int32.ofNat (g + 1) - (1 : Int32) = Int32.ofNat g := n_sub (a := g + 1) (b := 1) (by omega)
  have ec : Int32.toNatClampNeg (Int32.ofNat g) = g := gs_nc (by omega)
  obtain ⟨d1, d2, d3⟩ := dig_v g (by omega)
  have e12 : 12 - (g + 1) = 11 - g := by omega
  rw [eq_X4_costOf, es, ec, gs_inn (show g < 12 by omega) (by decide)]
  show ∃ x, gs_fld m 6 4 _ = _ ∧ _
  rw [fl_6 h, e8]
  unfold Cf
  rw [Nat.add_sub_cancel, e12]
  generalize gs_digits.getD g 0 = D at d1
  generalize (11 : Int) ^ (11 - g) = P at d1 d2 d3
  by_cases hks : k < s
  · rw [if_pos ((gs_nlt (by omega) (by omega)).mpr hks), if_pos hks]
    have e10 : (10 : Int64).toInt = 10 := rfl
    refine ⟨_, rfl, ?_, by omega, by omega⟩
    rw [L_mul (by rw [e10, d1]; omega) (by rw [e10, d1]; omega), e10, d1]
  · obtain ⟨s, rfl⟩ : ∃ s', s = s' + 1 := ⟨s - 1, by omega⟩
    have es2 : Int32.ofNat (s + 1) - (1 : Int32) = Int32.ofNat s := n_sub (a := s + 1) (b := 1) (by omega)
    have eix : ∀ K : Nat → gs_O, gs_ix m 7 13 (((Int32.ofNat g * (10 : Int32)) + Int32.ofNat (s + 1)) - (1 : Int32)) K = K (g * 10 + s) := fun K => by
      show gs_ix m 7 13 (Int32.ofNat g * Int32.ofNat 10 + Int32.ofNat (s + 1) - Int32.ofNat 1) K = _
      rw [n_mul, n_add, n_sub (by omega), show g * 10 + (s + 1) - 1 = g * 10 + s by omega]
      exact gs_ixn h.1 rfl (by show _ < 120; omega)
    rw [if_neg (fun z => hks ((gs_nlt (by omega) (by omega)).mp z)), if_neg hks, Nat.add_sub_cancel, fl_6 h, es2, x_isAble hB2 (by omega) (by omega), gs_bI_s, b2_if]
    by_cases z : tl g s = 100000
    · rw [if_neg (fun q => q z), if_pos z]
      exact ⟨_, rfl, rfl⟩
    · have ht := (hT g s (by omega) (by omega)).resolve_left z
      have e7s : m.2.1 7 (g * 10 + s) = Int32.ofNat (tl g s) := by
        rw [h7 g s (by omega) (by omega)]
        unfold tlI
        rw [if_neg z]
      rw [if_pos z, if_neg z, fl_6 h, sh_6_0 h, gs_nn_s, eix, e7s, l_32 (by omega), l_32 (by omega)]
      have hsP : (0 : Int) ≤ (s : Int) * P ∧ (s : Int) * P ≤ 9 * 285311670611 := by
        refine ⟨Int.mul_nonneg (by omega) (by omega), ?_⟩
        exact Int.mul_le_mul (by omega) d3 (by omega) (by omega)
      have m1 := cst_1 (x := Int64.ofNat (tl g s)) (t := (tl g s : Int)) (j_n (by omega)) (by omega) (by omega)
      have m2 : (Int64.ofNat s * D).toInt = (s : Int) * P := by
        have q := j_n (a := s) (by omega)
        rw [L_mul (by rw [q, d1]; omega) (by rw [q, d1]; omega), q, d1]
      obtain ⟨b1, b2, b3⟩ := cst_2 m1 m2 (by omega) (by omega) hsP.1 hsP.2
      exact ⟨_, rfl, b1, b2, b3⟩
/-- costs of guests and seats that are there -/
def Cg (tl : Nat → Nat → Nat) (n k K g s : Nat) : Option Int := if 1 ≤ g ∧ g ≤ n ∧ 1 ≤ s ∧ s ≤ K then Cf tl k g s else none
theorem Cg_co (hn : n ≤ 12) (hk : k ≤ 10) (hT : ∀ g c, g < n → c < k → tl g c = 100000 ∨ tl g c ≤ 999) : hCo (Cg tl n k (k + n)) n k (k + n) := by
  refine ⟨fun g s h1 h2 h3 h4 => ?_, fun g s c hc => ?_⟩
  · obtain ⟨-, d2, d3⟩ := dig_v (g - 1) (by omega)
    rw [show 11 - (g - 1) = 12 - g by omega] at d2 d3
    unfold Cg Cf
    rw [if_pos ⟨h1, h2, by omega, h4⟩, if_pos h3]
    exact ⟨_, rfl, by omega, by omega⟩
  · unfold Cg at hc
    by_cases z : 1 ≤ g ∧ g ≤ n ∧ 1 ≤ s ∧ s ≤ k + n
    · rw [if_pos z] at hc
      obtain ⟨-, d2, d3⟩ := dig_v (g - 1) (by omega)
      rw [show 11 - (g - 1) = 12 - g by omega] at d2 d3
      unfold Cf at hc
      generalize (11 : Int) ^ (12 - g) = P at *
      by_cases y : k < s
      · rw [if_pos y] at hc
        have := Option.some.inj hc
        omega
      · rw [if_neg y] at hc
        by_cases x : tl (g - 1) (s - 1) = 100000
        · rw [if_pos x] at hc
          cases hc
        · rw [if_neg x] at hc
          have ht := (hT (g - 1) (s - 1) (by omega) (by omega)).resolve_left x
          have e := Option.some.inj hc
          have hsP : (0 : Int) ≤ ((s - 1 : Nat) : Int) * P ∧ ((s - 1 : Nat) : Int) * P ≤ 9 * 285311670611 := by
            refine ⟨Int.mul_nonneg (by omega) (by omega), ?_⟩
            exact Int.mul_le_mul (by omega) d3 (by omega) (by omega)
          omega
    · rw [if_neg z] at hc
      cases hc
end CST
