/-! Numbers that are no less than nought; days. -/
theorem n_add (a b : Nat) : Int32.ofNat a + Int32.ofNat b = Int32.ofNat (a + b) := (Int32.ofNat_add a b).symm
theorem n_mul (a b : Nat) : Int32.ofNat a * Int32.ofNat b = Int32.ofNat (a * b) := (Int32.ofNat_mul a b).symm
theorem n_sub {a b : Nat} (h : b ≤ a) : Int32.ofNat a - Int32.ofNat b = Int32.ofNat (a - b) := by
  have e : Int32.ofNat a = Int32.ofNat (a - b) + Int32.ofNat b := by rw [n_add, Nat.sub_add_cancel h]
  rw [e]
  simp
theorem n_div {a b : Nat} (ha : a < 2147483648) (hb : b < 2147483648) : Int32.ofNat a / Int32.ofNat b = Int32.ofNat (a / b) := by
  have h1 : a / b ≤ a := Nat.div_le_self a b
  rw [i_eq, gs_n32 (by omega), Int32.toInt_div, gs_n32 ha, gs_n32 hb]
  have e : ((a : Int).tdiv (b : Int)) = ((a / b : Nat) : Int) := rfl
  rw [e]
  have key : ∀ q : Nat, q < 2147483648 → Int.bmod (q : Int) Int32.size = (q : Int) := fun q hq => Int.bmod_eq_of_le (by show -2147483648 ≤ _; omega) (by show _ < 2147483648; omega)
  exact key _ (Nat.lt_of_le_of_lt h1 ha)
theorem n_mod {a b : Nat} (ha : a < 2147483648) (hb : b < 2147483648) : Int32.ofNat a - Int32.ofNat a / Int32.ofNat b * Int32.ofNat b = Int32.ofNat (a % b) := by
  rw [n_div ha hb, n_mul, n_sub (Nat.div_mul_le_self a b)]
  congr 1
  have := Nat.div_add_mod a b
  rw [Nat.mul_comm] at this
  omega
theorem n_eq {a b : Nat} (ha : a < 2147483648) (hb : b < 2147483648) : Int32.ofNat a = Int32.ofNat b ↔ a = b := by
  rw [i_eq, gs_n32 ha, gs_n32 hb]
  omega
/-- where a month begins, in plain numbers -/
def nBegin (y mo : Nat) : Nat := 354 * y + 29 * (mo - 1) + mo / 2
def nLen (mo : Nat) : Nat := 29 + mo % 2
theorem n_begin {y mo : Nat} (hy : y < 4000) (h1 : 1 ≤ mo) (h2 : mo ≤ 12) : f_begin (Int32.ofNat y) (Int32.ofNat mo) = Int32.ofNat (nBegin y mo) := by
  unfold f_begin nBegin
  show Int32.ofNat 354 * Int32.ofNat y + Int32.ofNat 29 * (Int32.ofNat mo - Int32.ofNat 1) + Int32.ofNat mo / Int32.ofNat 2 = _
  rw [n_sub h1, n_mul, n_mul, n_div (by omega) (by decide), n_add, n_add]
/-- how many days later in the round of sixty -/
def nLater (turn y mo r : Nat) : Nat := (r + 60 - (nBegin y mo + turn) % 60) % 60
/-- the day, or none -/
def f_dayN (turn y mo r : Nat) : Int32 := if nLater turn y mo r < nLen mo then Int32.ofNat (nBegin y mo + nLater turn y mo r) else -1
theorem n_floor {r b : Nat} (hr : r < 60) (hb : b < 60) : ∀ {X : gs_E} {d : Nat} {m : gs_M}, gs_exec X (d + 1) 309 [.inl (Int32.ofNat r - Int32.ofNat b), .inl 60] m = gs_rI (Int32.ofNat ((r + 60 - b) % 60)) m := by
  intro X d m
  rw [eq_J9_floorMod_7cf53, gs_nz_n (by decide)]
  have key : ∀ r, r < 60 → ∀ b, b < 60 → (if ((Int32.ofNat r - Int32.ofNat b) ^^^ (60 : Int32)) < 0 then (if ((Int32.ofNat r - Int32.ofNat b) - (Int32.ofNat r - Int32.ofNat b) / 60 * 60) = 0 then ((Int32.ofNat r - Int32.ofNat b) - (Int32.ofNat r - Int32.ofNat b) / 60 * 60) else ((Int32.ofNat r - Int32.ofNat b) - (Int32.ofNat r - Int32.ofNat b) / 60 * 60) + 60) else ((Int32.ofNat r - Int32.ofNat b) - (Int32.ofNat r - Int32.ofNat b) / 60 * 60)) = Int32.ofNat ((r + 60 - b) % 60) := by decide +kernel
  rw [gs_if_rI, gs_if_rI, key r hr b hb]
section DAY
variable {X : gs_E} {d : Nat} {m : gs_M} {T : Nat} {turn y mo r : Nat}
theorem x_monthLength (h1 : 1 ≤ mo) (h2 : mo ≤ 12) : gs_exec X (d + 1) 80 [.inl (Int32.ofNat mo)] m = gs_rI (Int32.ofNat (nLen mo)) m := by
  rw [eq_X7_monthLength, gs_nz_n (by decide), gs_if_rI]
  have key : ∀ mo, mo ≤ 12 → (if (Int32.ofNat mo - Int32.ofNat mo / 2 * 2) = 1 then (30 : Int32) else 29) = Int32.ofNat (nLen mo) := by decide
  rw [key mo h2]
theorem x_dayIn (h : gs_Sh m T) (ht : m.2.1 T 10 = Int32.ofNat turn) (bt : turn < 60) (hy : y < 4000) (h1 : 1 ≤ mo) (h2 : mo ≤ 12) (hr : r < 60) :
    gs_exec X (d + 2) 89 [.inr (.inr T), .inl (Int32.ofNat y), .inl (Int32.ofNat mo), .inl (Int32.ofNat r)] m = gs_rI (f_dayN turn y mo r) m := by
  have hb : nBegin y mo < 2000000 := by unfold nBegin; omega
  have hl : nLater turn y mo r < 60 := Nat.mod_lt _ (by decide)
  rw [eq_X8_dayIn, x_begin, gs_bI_s, n_begin hy h1 h2, fl_t0 h, x_roundOf h, gs_bI_s, ht, n_add]
  rw [show (60 : Int32) = Int32.ofNat 60 from rfl, n_mod (by omega) (by decide), show Int32.ofNat 60 = (60 : Int32) from rfl, n_floor hr (Nat.mod_lt _ (by decide)), gs_bI_s, x_monthLength h1 h2, gs_bI_s, n_add, gs_if_rI]
  unfold f_dayN
  have e : (Int32.ofNat ((r + 60 - (nBegin y mo + turn) % 60) % 60) < Int32.ofNat (nLen mo)) ↔ nLater turn y mo r < nLen mo := gs_nlt (by unfold nLater at hl; omega) (by unfold nLen; omega)
  by_cases hc : nLater turn y mo r < nLen mo
  · rw [if_pos hc, if_pos (e.mpr hc)]; rfl
  · rw [if_neg hc, if_neg (fun q => hc (e.mp q))]
theorem r_dayIn_loop (h : gs_Sh m T) (ht : m.2.1 122 0 = Int32.ofNat turn) (bt : turn < 60) (hy : y < 4000) (h1 : 1 ≤ mo) (h2 : mo ≤ 12) (hr : r < 60) : ∀ (q j F : Nat), j + q = nLen mo → j ≤ nLater turn y mo r → q < F →
    gs_iter X (gs_exec X (d + 1)) gT_X12_dayIn F 11 [(0, .inr (.inr 116)), (2, .inl (Int32.ofNat mo)), (3, .inl (Int32.ofNat r)), (4, .inl (Int32.ofNat (nBegin y mo))), (5, .inl (Int32.ofNat (nBegin y mo + j)))] [] m = gs_rI (f_dayN turn y mo r) m := by
  have hb : nBegin y mo < 2000000 := by unfold nBegin; omega
  have hl : nLater turn y mo r < 60 := Nat.mod_lt _ (by decide)
  have hlen : nLen mo ≤ 30 := by unfold nLen; omega
  have hs : (nBegin y mo + turn + nLater turn y mo r) % 60 = r := by unfold nLater; omega
  have hend : Int32.ofNat (nBegin y mo) + (29 : Int32) + (Int32.ofNat mo - Int32.ofNat mo / (2 : Int32) * (2 : Int32)) = Int32.ofNat (nBegin y mo + nLen mo) := by
    show Int32.ofNat (nBegin y mo) + Int32.ofNat 29 + (Int32.ofNat mo - Int32.ofNat mo / Int32.ofNat 2 * Int32.ofNat 2) = _
    rw [n_mod (by omega) (by decide), n_add, n_add, Nat.add_assoc]
    rfl
  intro q
  induction q with
  | zero =>
    intro j F hj hle hF
    obtain ⟨F, rfl⟩ : ∃ k, F = k + 1 := ⟨F - 1, by omega⟩
    rw [eq_X12_dayIn_11, gs_nz_n (by decide), hend, if_neg (by rw [gs_nlt (by omega) (by omega)]; omega)]
    unfold f_dayN
    rw [if_neg (by omega)]
  | succ q ih =>
    intro j F hj hle hF
    obtain ⟨F, rfl⟩ : ∃ k, F = k + 1 := ⟨F - 1, by omega⟩
    have er : Int32.ofNat (nBegin y mo + j) + m.2.1 122 0 - (Int32.ofNat (nBegin y mo + j) + m.2.1 122 0) / 60 * 60 = Int32.ofNat ((nBegin y mo + j + turn) % 60) := by
      rw [ht, n_add]
      exact n_mod (by omega) (by decide)
    rw [eq_X12_dayIn_11, gs_nz_n (by decide), hend, if_pos (by rw [gs_nlt (by omega) (by omega)]; omega), fl_116 h, r_roundOf h, gs_bI_s, er]
    by_cases hc : j = nLater turn y mo r
    · rw [if_pos (by rw [n_eq (by omega) (by omega)]; omega)]
      unfold f_dayN
      rw [if_pos (by omega), ← hc]
    · rw [if_neg (by rw [n_eq (by omega) (by omega)]; omega), gs_ns]
      exact ih (j + 1) F (by omega) (by omega) (by omega)
theorem r_dayIn (hX : gs_Fu X) (h : gs_Sh m T) (ht : m.2.1 122 0 = Int32.ofNat turn) (bt : turn < 60) (hy : y < 4000) (h1 : 1 ≤ mo) (h2 : mo ≤ 12) (hr : r < 60) :
    gs_exec X (d + 2) 242 [.inr (.inr 116), .inl (Int32.ofNat y), .inl (Int32.ofNat mo), .inl (Int32.ofNat r)] m = gs_rI (f_dayN turn y mo r) m := by
  have hlen : nLen mo ≤ 30 := by unfold nLen; omega
  rw [eq_X12_dayIn, r_begin, gs_bI_s, n_begin hy h1 h2]
  exact r_dayIn_loop h ht bt hy h1 h2 hr (nLen mo) 0 X.1 (by omega) (Nat.zero_le _) (by unfold gs_Fu at hX; omega)
end DAY
