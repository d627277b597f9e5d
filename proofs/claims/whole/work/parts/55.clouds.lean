/-! Clouds: ages and births. -/
abbrev cd (m : gs_M) (c i : Nat) : Int32 := m.2.1 133 (9 * c + i)
abbrev cn (m : gs_M) (c i : Nat) : Nat := (cd m c i).toInt.toNat
/-- what a cloud's row may hold -/
def gs_CV (m : gs_M) (c : Nat) : Prop := (∀ i, i < 9 → cd m c i = Int32.ofNat (cn m c i)) ∧ cn m c 0 < 120 ∧ cn m c 1 < 60 ∧ cn m c 2 < cn m c 4 ∧ cn m c 4 < 3000 ∧ 1 ≤ cn m c 3 ∧ cn m c 3 < cn m c 5 ∧ cn m c 5 ≤ 9999 ∧ 1 ≤ cn m c 6 ∧ cn m c 6 ≤ 10 ∧ cn m c 7 ≤ 9999 ∧ cn m c 8 ≤ 9999 ∧ (cn m c 7 = 0 ↔ cn m c 8 = 0)
def nAge (s t y : Nat) : Nat := if s < t then min 9999 (s * y / (t - s)) else 9999
def nCor (s t b y k : Nat) : Nat := nAge (if k % 2 = 0 then s - b else s + b) (if k < 2 then t - b else t + b) y
def nOld (s t b y : Nat) : Nat := max (max (nCor s t b y 0) (nCor s t b y 1)) (max (nCor s t b y 2) (nCor s t b y 3))
def nNew (s t b y w : Nat) : Nat := min (min (nCor s t b y 0 * w / 10) (nCor s t b y 1 * w / 10)) (min (nCor s t b y 2 * w / 10) (nCor s t b y 3 * w / 10))
def f_bf (y s z t b : Nat) : Int32 := Int32.ofNat y - Int32.ofNat (nOld s t b (z - y))
def f_bt (y s z t w b : Nat) : Int32 := Int32.ofNat y - Int32.ofNat (nNew s t b (z - y) w)
/-- the class's clouds are the reference's, their births laid -/
def gs_RC (m : gs_M) (T n5 blur : Nat) : Prop := ∀ c, c < n5 → (∀ i, i < 9 → m.2.1 (T + (39 + c)) i = cd m c i) ∧ m.2.1 (T + (39 + c)) 9 = f_bf (cn m c 2) (cn m c 3) (cn m c 4) (cn m c 5) blur ∧ m.2.1 (T + (39 + c)) 10 = f_bt (cn m c 2) (cn m c 3) (cn m c 4) (cn m c 5) (cn m c 6) blur
theorem nAge_le (s t y : Nat) : nAge s t y ≤ 9999 := by
  unfold nAge
  split
  · exact Nat.min_le_left _ _
  · exact Nat.le_refl _
theorem nCor_le (s t b y k : Nat) : nCor s t b y k ≤ 9999 := nAge_le _ _ _
theorem nOld_le (s t b y : Nat) : nOld s t b y ≤ 9999 := by
  unfold nOld
  have h0 := nCor_le s t b y 0
  have h1 := nCor_le s t b y 1
  have h2 := nCor_le s t b y 2
  have h3 := nCor_le s t b y 3
  omega
theorem l_32 {a : Nat} (h : a < 2147483648) : Int32.toInt64 (Int32.ofNat a) = Int64.ofNat a := by
  rw [j_eq, j_n (by omega), Int32.toInt_toInt64, gs_n32 h]
theorem l_64 (a : Nat) : Int64.toInt32 (Int64.ofNat a) = Int32.ofNat a := by
  rw [Int64.toInt32_ofNat']
theorem n_min {a b : Nat} (ha : a < 2147483648) (hb : b < 2147483648) : (if Int32.ofNat b < Int32.ofNat a then Int32.ofNat b else Int32.ofNat a) = Int32.ofNat (min a b) := by
  by_cases h : b < a
  · rw [if_pos ((gs_nlt hb ha).mpr h), Nat.min_eq_right (by omega)]
  · rw [if_neg (fun q => h ((gs_nlt hb ha).mp q)), Nat.min_eq_left (by omega)]
section CLD
variable {X : gs_E} {d : Nat} {m : gs_M} {T c blur : Nat} {x w : Int32}
theorem x_ageOf {s t y : Nat} (hs : s < 200000000) (ht : t < 200000000) (hp : s * y < 2147483648) : gs_exec X (d + 2) 1 [.inl (Int32.ofNat s), .inl (Int32.ofNat t), .inl (Int32.ofNat y)] m = gs_rI (Int32.ofNat (nAge s t y)) m := by
  unfold nAge
  rw [eq_X0_ageOf]
  by_cases h : s < t
  · have hq : s * y / (t - s) ≤ s * y := Nat.div_le_self _ _
    have hne : Int32.ofNat (t - s) ≠ 0 := fun q => by
      have := (n_eq (a := t - s) (b := 0) (by omega) (by decide)).mp q
      omega
    rw [if_pos ((gs_nlt (by omega) (by omega)).mpr h), if_pos h, n_sub (by omega), gs_nz_n hne, n_mul, n_div hp (by omega), x_min, gs_bI_s]
    show gs_rI (if Int32.ofNat (s * y / (t - s)) < Int32.ofNat 9999 then _ else Int32.ofNat 9999) m = _
    rw [n_min (by decide) (by omega)]
  · rw [if_neg (fun q => h ((gs_nlt (by omega) (by omega)).mp q)), if_neg h]
    rfl
theorem r_ageOf {s t y z : Nat} (hs : s < 200000000) (ht : t < 200000000) (hyz : y ≤ z) (hz : z < 200000000) (hp : s * (z - y) < 2147483648) : gs_exec X (d + 1) 258 [.inl (Int32.ofNat s), .inl (Int32.ofNat t), .inl (Int32.ofNat y), .inl (Int32.ofNat z)] m = gs_rI (Int32.ofNat (nAge s t (z - y))) m := by
  unfold nAge
  rw [eq_X12_ageOf]
  by_cases h : s < t
  · have hq : s * (z - y) / (t - s) ≤ s * (z - y) := Nat.div_le_self _ _
    rw [if_pos ((gs_nlt (by omega) (by omega)).mpr h), if_pos h, n_sub (by omega), n_sub hyz, l_32 (by omega), l_32 (by omega), l_32 (by omega), j_nz (by omega) (by omega), j_mul, j_div (by omega) (by omega), l_64, gs_if_rI]
    show gs_rI (if Int32.ofNat 9999 < Int32.ofNat (s * (z - y) / (t - s)) then Int32.ofNat 9999 else _) m = _
    rw [n_min (by omega) (by decide), Nat.min_comm]
  · rw [if_neg (fun q => h ((gs_nlt (by omega) (by omega)).mp q)), if_neg h]
    rfl
theorem n_max0 {a : Nat} (ha : a < 1000000000) {b : Nat} (hb : b < 1000) : (if (0 : Int32) < Int32.ofNat a + -(Int32.ofNat b) then Int32.ofNat a + -(Int32.ofNat b) else 0) = Int32.ofNat (a - b) := by
  have e : (Int32.ofNat a + -(Int32.ofNat b)).toInt = (a : Int) - b := by
    have e1 : (-(Int32.ofNat b)).toInt = -(b : Int) := by rw [i_neg (by rw [gs_n32 (by omega)]; omega), gs_n32 (by omega)]
    rw [i_add (by rw [e1, gs_n32 (by omega)]; omega) (by rw [e1, gs_n32 (by omega)]; omega), e1, gs_n32 (by omega)]
    omega
  by_cases h : (0 : Int32) < Int32.ofNat a + -(Int32.ofNat b)
  · have h2 := i_lt.mp h
    rw [e] at h2
    have h2 : (0 : Int) < a - b := h2
    rw [if_pos h, i_eq, e, gs_n32 (by omega)]
    omega
  · have h2 : ¬ (0 : Int) < a - b := fun q => h (i_lt.mpr (by rw [e]; exact q))
    rw [if_neg h, Nat.sub_eq_zero_of_le (by omega)]
    rfl
theorem n_max1 {a : Nat} (ha : a < 1000000000) {b : Nat} (hb : b < 1000) : (if (0 : Int32) < Int32.ofNat a + Int32.ofNat b then Int32.ofNat a + Int32.ofNat b else 0) = Int32.ofNat (a + b) := by
  rw [n_add]
  by_cases h : (0 : Int32) < Int32.ofNat (a + b)
  · rw [if_pos h]
  · rw [if_neg h]
    have h2 : ¬ 0 < a + b := fun q => h ((gs_nlt (a := 0) (by decide) (by omega)).mpr q)
    have e : a + b = 0 := by omega
    rw [e]
    rfl
theorem x_cornerAge {a y s l z : Nat} (hc : c < 10) (h : gs_Sh m T) (h2 : m.2.1 (T + (39 + c)) 2 = Int32.ofNat y) (h3 : m.2.1 (T + (39 + c)) 3 = Int32.ofNat s) (hy : y ≤ z) (hz : z < 3000) (hs : s ≤ 9999) (hl : l < 100000000) (hb : blur < 100) (ha : a < 4) :
    gs_exec X (d + 3) 3 [.inr (.inr (T + (39 + c))), .inl (Int32.ofNat a), .inl (Int32.ofNat z), .inl (Int32.ofNat l), .inl (Int32.ofNat blur)] m = gs_rI (Int32.ofNat (nCor s l blur (z - y) (3 - a))) m := by
  have p1 : (s + blur) * (z - y) < 2147483648 := Nat.lt_of_le_of_lt (Nat.mul_le_mul (show s + blur ≤ 10098 by omega) (show z - y ≤ 3000 by omega)) (by decide)
  have p2 : (s - blur) * (z - y) < 2147483648 := Nat.lt_of_le_of_lt (Nat.mul_le_mul (show s - blur ≤ 10098 by omega) (show z - y ≤ 3000 by omega)) (by decide)
  have q1 : s + blur < 200000000 := by omega
  have q2 : s - blur < 200000000 := by omega
  have q3 : l + blur < 200000000 := by omega
  have q4 : l - blur < 200000000 := by omega
  rw [eq_X0_cornerAge, fl_tc h hc]
  simp only [x_max, gs_bI_s, fl_tc h hc, h2, h3, n_max0 (show s < 1000000000 by omega) (show blur < 1000 by omega), n_max0 (show l < 1000000000 by omega) (show blur < 1000 by omega), n_max1 (show s < 1000000000 by omega) (show blur < 1000 by omega), n_max1 (show l < 1000000000 by omega) (show blur < 1000 by omega), n_sub hy, x_ageOf q1 q3 p1, x_ageOf q1 q4 p1, x_ageOf q2 q3 p2, x_ageOf q2 q4 p2]
  unfold nCor
  rcases (show a = 0 ∨ a = 1 ∨ a = 2 ∨ a = 3 by omega) with rfl | rfl | rfl | rfl <;> rfl
theorem i_dm {y a b : Nat} (hy : y < 3000) (ha : a ≤ 9999) (hb : b ≤ 9999) : (if Int32.ofNat y - Int32.ofNat a < Int32.ofNat y - Int32.ofNat b then Int32.ofNat y - Int32.ofNat a else Int32.ofNat y - Int32.ofNat b) = Int32.ofNat y - Int32.ofNat (max a b) := by
  have e : ∀ k : Nat, k ≤ 9999 → (Int32.ofNat y - Int32.ofNat k).toInt = (y : Int) - k := fun k hk => by
    rw [i_sub (by rw [gs_n32 (by omega), gs_n32 (by omega)]; omega) (by rw [gs_n32 (by omega), gs_n32 (by omega)]; omega), gs_n32 (by omega), gs_n32 (by omega)]
  by_cases h : Int32.ofNat y - Int32.ofNat a < Int32.ofNat y - Int32.ofNat b
  · rw [if_pos h]
    rw [i_lt, e a ha, e b hb] at h
    rw [Nat.max_eq_left (by omega)]
  · rw [if_neg h]
    rw [i_lt, e a ha, e b hb] at h
    rw [Nat.max_eq_right (by omega)]
theorem i_dn {y a b : Nat} (hy : y < 3000) (ha : a ≤ 9999) (hb : b ≤ 9999) : (if Int32.ofNat y - Int32.ofNat b < Int32.ofNat y - Int32.ofNat a then Int32.ofNat y - Int32.ofNat a else Int32.ofNat y - Int32.ofNat b) = Int32.ofNat y - Int32.ofNat (min a b) := by
  have e : ∀ k : Nat, k ≤ 9999 → (Int32.ofNat y - Int32.ofNat k).toInt = (y : Int) - k := fun k hk => by
    rw [i_sub (by rw [gs_n32 (by omega), gs_n32 (by omega)]; omega) (by rw [gs_n32 (by omega), gs_n32 (by omega)]; omega), gs_n32 (by omega), gs_n32 (by omega)]
  by_cases h : Int32.ofNat y - Int32.ofNat b < Int32.ofNat y - Int32.ofNat a
  · rw [if_pos h]
    rw [i_lt, e a ha, e b hb] at h
    rw [Nat.min_eq_left (by omega)]
  · rw [if_neg h]
    rw [i_lt, e a ha, e b hb] at h
    rw [Nat.min_eq_right (by omega)]
theorem i_dtop {y a : Nat} (hy : y < 3000) (ha : a ≤ 9999) : (if Int32.ofNat y - Int32.ofNat a < (2147483647 : Int32) then Int32.ofNat y - Int32.ofNat a else 2147483647) = Int32.ofNat y - Int32.ofNat a := by
  have e : (Int32.ofNat y - Int32.ofNat a).toInt = (y : Int) - a := by
    rw [i_sub (by rw [gs_n32 (by omega), gs_n32 (by omega)]; omega) (by rw [gs_n32 (by omega), gs_n32 (by omega)]; omega), gs_n32 (by omega), gs_n32 (by omega)]
  rw [if_pos (i_lt.mpr (by rw [e]; show _ < (2147483647 : Int); omega))]
theorem i_dbot {y a : Nat} (hy : y < 3000) (ha : a ≤ 9999) : (if (-2147483648 : Int32) < Int32.ofNat y - Int32.ofNat a then Int32.ofNat y - Int32.ofNat a else -2147483648) = Int32.ofNat y - Int32.ofNat a := by
  have e : (Int32.ofNat y - Int32.ofNat a).toInt = (y : Int) - a := by
    rw [i_sub (by rw [gs_n32 (by omega), gs_n32 (by omega)]; omega) (by rw [gs_n32 (by omega), gs_n32 (by omega)]; omega), gs_n32 (by omega), gs_n32 (by omega)]
  rw [if_pos (i_lt.mpr (by rw [e]; show (-2147483648 : Int) < _; omega))]
theorem x_earliest {y s l z : Nat} (hX : gs_Fu X) (hc : c < 10) (h : gs_Sh m T) (h2 : m.2.1 (T + (39 + c)) 2 = Int32.ofNat y) (h3 : m.2.1 (T + (39 + c)) 3 = Int32.ofNat s) (hy : y ≤ z) (hz : z < 3000) (hs : s ≤ 9999) (hl : l < 100000000) (hb : blur < 100) :
    gs_exec X (d + 4) 4 [.inr (.inr (T + (39 + c))), .inl (Int32.ofNat z), .inl (Int32.ofNat l), .inl (Int32.ofNat blur)] m = gs_rI (f_bf y s z l blur) m := by
  obtain ⟨F, hF⟩ : ∃ z, X.1 = z + 5 := ⟨X.1 - 5, by unfold gs_Fu at hX; omega⟩
  have k0 := x_cornerAge (X := X) (d := d) (m := m) hc h h2 h3 hy hz hs hl hb (show 0 < 4 by decide)
  have k1 := x_cornerAge (X := X) (d := d) (m := m) hc h h2 h3 hy hz hs hl hb (show 1 < 4 by decide)
  have k2 := x_cornerAge (X := X) (d := d) (m := m) hc h h2 h3 hy hz hs hl hb (show 2 < 4 by decide)
  have k3 := x_cornerAge (X := X) (d := d) (m := m) hc h h2 h3 hy hz hs hl hb (show 3 < 4 by decide)
  have b := nCor_le s l blur (z - y)
  have hy3 : y < 3000 := by omega
  have st : ∀ (n v k : Nat) (u : Int32), v < 4 → gs_iter X (gs_exec X (d + 3)) gT_X0_earliestBirth (n + 1) 7 [(0, .inr (.inr (T + (39 + c)))), (1, .inl (Int32.ofNat z)), (2, .inl (Int32.ofNat l)), (3, .inl (Int32.ofNat blur)), (4, .inl u), (5, .inl (Int32.ofNat v))] [] m = gs_iter X (gs_exec X (d + 3)) gT_X0_earliestBirth n 7 [(0, .inr (.inr (T + (39 + c)))), (1, .inl (Int32.ofNat z)), (2, .inl (Int32.ofNat l)), (3, .inl (Int32.ofNat blur)), (4, .inl (if Int32.ofNat y - Int32.ofNat (nCor s l blur (z - y) (3 - v)) < u then Int32.ofNat y - Int32.ofNat (nCor s l blur (z - y) (3 - v)) else u)), (5, .inl (Int32.ofNat (v + 1)))] [] m := by
    intro n v k u hv
    rw [eq_X0_earliestBirth_7, if_pos (by show _ < Int32.ofNat 4; rw [gs_nlt (by omega) (by omega)]; omega), fl_tc h hc, fl_tc h hc, x_cornerAge hc h h2 h3 hy hz hs hl hb hv, gs_bI_s, h2, x_min, gs_bI_s, gs_ns]
  rw [eq_X0_earliestBirth, hF]
  show gs_iter X (gs_exec X (d + 3)) gT_X0_earliestBirth (F + 4 + 1) 7 [(0, .inr (.inr (T + (39 + c)))), (1, .inl (Int32.ofNat z)), (2, .inl (Int32.ofNat l)), (3, .inl (Int32.ofNat blur)), (4, .inl 2147483647), (5, .inl (Int32.ofNat 0))] [] m = _
  rw [st (F + 4) 0 0 _ (by decide), st (F + 3) 1 0 _ (by decide), st (F + 2) 2 0 _ (by decide), st (F + 1) 3 0 _ (by decide), i_dtop hy3 (b _), i_dm hy3 (b _) (b _), i_dm hy3 (b _) (Nat.max_le.mpr ⟨b _, b _⟩), i_dm hy3 (b _) (Nat.max_le.mpr ⟨b _, Nat.max_le.mpr ⟨b _, b _⟩⟩), eq_X0_earliestBirth_7, if_neg (by decide)]
  unfold f_bf nOld
  congr 3
  show max (nCor s l blur (z - y) 0) (max (nCor s l blur (z - y) 1) (max (nCor s l blur (z - y) 2) (nCor s l blur (z - y) 3))) = _
  omega
theorem x_latest {y s l z w : Nat} (hX : gs_Fu X) (hc : c < 10) (h : gs_Sh m T) (h2 : m.2.1 (T + (39 + c)) 2 = Int32.ofNat y) (h3 : m.2.1 (T + (39 + c)) 3 = Int32.ofNat s) (h6 : m.2.1 (T + (39 + c)) 6 = Int32.ofNat w) (hw : w ≤ 10) (hy : y ≤ z) (hz : z < 3000) (hs : s ≤ 9999) (hl : l < 100000000) (hb : blur < 100) :
    gs_exec X (d + 4) 5 [.inr (.inr (T + (39 + c))), .inl (Int32.ofNat z), .inl (Int32.ofNat l), .inl (Int32.ofNat blur)] m = gs_rI (f_bt y s z l w blur) m := by
  obtain ⟨F, hF⟩ : ∃ z, X.1 = z + 5 := ⟨X.1 - 5, by unfold gs_Fu at hX; omega⟩
  have b0 := nCor_le s l blur (z - y)
  have bm : ∀ k, nCor s l blur (z - y) k * w ≤ 99990 := fun k => Nat.mul_le_mul (b0 k) hw
  have b : ∀ k, nCor s l blur (z - y) k * w / 10 ≤ 9999 := fun k => by have := bm k; omega
  have hy3 : y < 3000 := by omega
  have st : ∀ (n v : Nat) (u : Int32), v < 4 → gs_iter X (gs_exec X (d + 3)) gT_X0_latestBirth (n + 1) 7 [(0, .inr (.inr (T + (39 + c)))), (1, .inl (Int32.ofNat z)), (2, .inl (Int32.ofNat l)), (3, .inl (Int32.ofNat blur)), (4, .inl u), (5, .inl (Int32.ofNat v))] [] m = gs_iter X (gs_exec X (d + 3)) gT_X0_latestBirth n 7 [(0, .inr (.inr (T + (39 + c)))), (1, .inl (Int32.ofNat z)), (2, .inl (Int32.ofNat l)), (3, .inl (Int32.ofNat blur)), (4, .inl (if u < Int32.ofNat y - Int32.ofNat (nCor s l blur (z - y) (3 - v) * w / 10) then Int32.ofNat y - Int32.ofNat (nCor s l blur (z - y) (3 - v) * w / 10) else u)), (5, .inl (Int32.ofNat (v + 1)))] [] m := by
    intro n v u hv
    have e10 : Int32.ofNat (nCor s l blur (z - y) (3 - v) * w) / (10 : Int32) = Int32.ofNat (nCor s l blur (z - y) (3 - v) * w / 10) := n_div (b := 10) (by have := bm (3 - v); omega) (by decide)
    rw [eq_X0_latestBirth_7, if_pos (by show _ < Int32.ofNat 4; rw [gs_nlt (by omega) (by omega)]; omega), fl_tc h hc, fl_tc h hc, x_cornerAge hc h h2 h3 hy hz hs hl hb hv, gs_bI_s, fl_tc h hc, gs_nz_n (by decide), h2, h6, n_mul, e10, x_max, gs_bI_s, gs_ns]
  rw [eq_X0_latestBirth, hF]
  show gs_iter X (gs_exec X (d + 3)) gT_X0_latestBirth (F + 4 + 1) 7 [(0, .inr (.inr (T + (39 + c)))), (1, .inl (Int32.ofNat z)), (2, .inl (Int32.ofNat l)), (3, .inl (Int32.ofNat blur)), (4, .inl (-2147483648)), (5, .inl (Int32.ofNat 0))] [] m = _
  rw [st (F + 4) 0 _ (by decide), st (F + 3) 1 _ (by decide), st (F + 2) 2 _ (by decide), st (F + 1) 3 _ (by decide), i_dbot hy3 (b _), i_dn hy3 (b _) (b _), i_dn hy3 (b _) (Nat.le_trans (Nat.min_le_left _ _) (b _)), i_dn hy3 (b _) (Nat.le_trans (Nat.min_le_left _ _) (b _)), eq_X0_latestBirth_7, if_neg (by decide)]
  unfold f_bt nNew
  congr 3
  show min (nCor s l blur (z - y) 0 * w / 10) (min (nCor s l blur (z - y) 1 * w / 10) (min (nCor s l blur (z - y) 2 * w / 10) (nCor s l blur (z - y) 3 * w / 10))) = _
  omega
end CLD
