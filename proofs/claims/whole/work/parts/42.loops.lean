/-! Numbers of loops; rows of a tale; names and watches. -/
theorem gs_nlt {a b : Nat} (ha : a < 2147483648) (hb : b < 2147483648) : (Int32.ofNat a < Int32.ofNat b) ↔ a < b := by
  rw [Int32.lt_iff_toInt_lt, gs_n32 ha, gs_n32 hb]
  omega
theorem gs_ns (a : Nat) : Int32.ofNat a + 1 = Int32.ofNat (a + 1) := (Int32.ofNat_add a 1).symm
theorem gs_nc {a : Nat} (ha : a < 2147483648) : (Int32.ofNat a).toNatClampNeg = a := by
  show (Int32.ofNat a).toInt.toNat = a
  rw [gs_n32 ha]
  rfl
theorem gs_inn {a L : Nat} (h : a < L) (hL : L < 2147483648) : gs_in (Int32.ofNat a) L = true := by
  have e := gs_n32 (a := a) (by omega)
  have h1 : ¬ (Int32.ofNat a < 0) := by
    rw [Int32.lt_iff_toInt_lt, e]
    simp
  unfold gs_in
  rw [gs_nc (by omega), decide_eq_false h1]
  have h3 : Nat.blt a L = true := Nat.ble_eq_true_of_le h
  rw [h3]
  rfl
theorem gs_ixn {m : gs_M} {a c k : Nat} {K : Nat → gs_O} (h : m.1.1 = 153) (hk : gs_ok a c 153 = true) (hj : k < gs_len a) : gs_ix m a c (Int32.ofNat k) K = K k := by
  have hl := gs_len_le a
  rw [gs_ixe h hk (gs_inn hj (by omega)), gs_nc (by omega)]
theorem ar_t {m : gs_M} {T : Nat} (h : gs_Sh m T) (o c n : Nat) (hk : (gs_ok (18 + o) c 153 && gs_ok (67 + o) c 153 && Nat.beq (gs_len (18 + o)) n && Nat.beq (gs_len (67 + o)) n) = true) {k : Nat} (hj : k < n) {K : Nat → gs_O} : gs_ix m (T + o) c (Int32.ofNat k) K = K k := by
  simp only [Bool.and_eq_true] at hk
  obtain ⟨⟨⟨h1, h2⟩, h3⟩, h4⟩ := hk
  have h3 := Nat.eq_of_beq_eq_true h3
  have h4 := Nat.eq_of_beq_eq_true h4
  rcases h.2.1 with e | e <;> rw [e]
  · exact gs_ixn h.1 h1 (by omega)
  · exact gs_ixn h.1 h2 (by omega)
/-- the first place of x -/
def f_find (f : Nat → Int32) (x : Int32) : Nat → Nat → Int32
  | 0, _ => -1
  | r + 1, k => if f k = x then Int32.ofNat k else f_find f x r (k + 1)
theorem f_find_congr {f g : Nat → Int32} {x : Int32} : ∀ (r k : Nat), (∀ i, i < k + r → f i = g i) → f_find f x r k = f_find g x r k
  | 0, _, _ => rfl
  | r + 1, k, h => by
    unfold f_find
    rw [h k (by omega), f_find_congr r (k + 1) (fun i hi => h i (by omega))]
theorem x_find_loop {X : gs_E} {d : Nat} {m : gs_M} {a L n : Nat} {x : Int32} (hF : ∀ k : gs_O, gs_fld m a 3 k = k) (hn : m.2.1 a 3 = Int32.ofNat n) (hnn : n < 100) (hL : m.2.2.2 a 0 = some L) (hx : ∀ k, k < n → ∀ K : Nat → gs_O, gs_ix m L 13 (Int32.ofNat k) K = K k) :
    ∀ r k F : Nat, k + r = n → r < F → gs_iter X (gs_exec X d) gT_X3_find F 2 [(0, .inr (.inr a)), (1, .inl x), (2, .inl (Int32.ofNat k))] [] m = gs_rI (f_find (m.2.1 L) x r k) m
  | 0, k, F, hk, hF0 => by
    obtain ⟨F, rfl⟩ : ∃ q, F = q + 1 := ⟨F - 1, by omega⟩
    rw [eq_X3_find_2, hF, hn, if_neg (by rw [gs_nlt (by omega) (by omega)]; omega)]
    rfl
  | r + 1, k, F, hk, hF0 => by
    obtain ⟨F, rfl⟩ : ∃ q, F = q + 1 := ⟨F - 1, by omega⟩
    rw [eq_X3_find_2, hF, hn, if_pos (by rw [gs_nlt (by omega) (by omega)]; omega), hF, hL, gs_nn_s, hx k (by omega), gs_ns, x_find_loop hF hn hnn hL hx r (k + 1) F (by omega) (by omega), gs_if_rI]
    rfl
theorem r_find_loop {X : gs_E} {d : Nat} {m : gs_M} {L n o : Nat} {x : Int32} (hnn : n < 100) (ho : o < 1000) (hx : ∀ k, k < n → ∀ K : Nat → gs_O, gs_ix m L 13 (Int32.ofNat (o + k)) K = K (o + k)) :
    ∀ r k F : Nat, k + r = n → r < F → gs_iter X (gs_exec X d) gT_X12_find F 3 [(1, .inr (.inr L)), (2, .inl (Int32.ofNat o)), (3, .inl (Int32.ofNat n)), (4, .inl x), (5, .inl (Int32.ofNat k))] [] m = gs_rI (f_find (fun i => m.2.1 L (o + i)) x r k) m
  | 0, k, F, hk, hF0 => by
    obtain ⟨F, rfl⟩ : ∃ q, F = q + 1 := ⟨F - 1, by omega⟩
    rw [eq_X12_find_3, if_neg (by rw [gs_nlt (by omega) (by omega)]; omega)]
    rfl
  | r + 1, k, F, hk, hF0 => by
    obtain ⟨F, rfl⟩ : ∃ q, F = q + 1 := ⟨F - 1, by omega⟩
    rw [eq_X12_find_3, if_pos (by rw [gs_nlt (by omega) (by omega)]; omega), ← Int32.ofNat_add, hx k (by omega), gs_ns, r_find_loop hnn ho hx r (k + 1) F (by omega) (by omega), gs_if_rI]
    rfl
/-- the fuel that every loop has -/
def gs_Fu (X : gs_E) : Prop := 1000000 ≤ X.1
theorem x_find {X : gs_E} {d : Nat} {m : gs_M} {a L n : Nat} {x : Int32} (hX : gs_Fu X) (hF : ∀ k : gs_O, gs_fld m a 3 k = k) (hn : m.2.1 a 3 = Int32.ofNat n) (hnn : n < 100) (hL : m.2.2.2 a 0 = some L) (hx : ∀ k, k < n → ∀ K : Nat → gs_O, gs_ix m L 13 (Int32.ofNat k) K = K k) :
    gs_exec X (d + 1) 27 [.inr (.inr a), .inl x] m = gs_rI (f_find (m.2.1 L) x n 0) m := by
  rw [eq_X3_find]
  exact x_find_loop hF hn hnn hL hx n 0 X.1 (by omega) (by unfold gs_Fu at hX; omega)
theorem r_find {X : gs_E} {d : Nat} {m : gs_M} {L n o : Nat} {x : Int32} (hX : gs_Fu X) (hnn : n < 100) (ho : o < 1000) (hx : ∀ k, k < n → ∀ K : Nat → gs_O, gs_ix m L 13 (Int32.ofNat (o + k)) K = K (o + k)) :
    gs_exec X (d + 1) 191 [.inr (.inr 116), .inr (.inr L), .inl (Int32.ofNat o), .inl (Int32.ofNat n), .inl x] m = gs_rI (f_find (fun i => m.2.1 L (o + i)) x n 0) m := by
  rw [eq_X12_find]
  exact r_find_loop hnn ho hx n 0 X.1 (by omega) (by unfold gs_Fu at hX; omega)
/-- which of four rows is asked -/
def f_named (w a b c e : Int32) : Int32 := if w = 0 then a else if w = 1 then b else if w = 2 then c else if w = 3 then e else -1
theorem x_named {X : gs_E} {d : Nat} {m : gs_M} {T : Nat} {w x : Int32} {n0 n1 n2 n6 : Nat} (hX : gs_Fu X) (h : gs_Sh m T) (h0 : m.2.1 (T + 1) 3 = Int32.ofNat n0) (h1 : m.2.1 (T + 5) 3 = Int32.ofNat n1) (h2 : m.2.1 (T + 9) 3 = Int32.ofNat n2) (h6 : m.2.1 (T + 13) 3 = Int32.ofNat n6) (b0 : n0 ≤ 8) (b1 : n1 ≤ 10) (b2 : n2 ≤ 8) (b6 : n6 ≤ 6) :
    gs_exec X (d + 2) 120 [.inr (.inr 0), .inl w, .inl x] m = gs_rI (f_named w (f_find (m.2.1 (T + 2)) x n0 0) (f_find (m.2.1 (T + 6)) x n1 0) (f_find (m.2.1 (T + 14)) x n6 0) (f_find (m.2.1 (T + 10)) x n2 0)) m := by
  rw [eq_X11_named]
  simp only [fl_0 h, sh_told h, gs_nn_s, fl_t0 h, sh_t0_0 h, sh_t0_1 h, sh_t0_2 h, sh_t0_3 h, fl_t1 h, fl_t5 h, fl_t9 h, fl_t13 h,
    x_find hX (fun k => fl_t1 h) h0 (by omega) (sh_t1_0 h) (fun k hk K => ar_t h 2 13 8 (by decide) (by omega)), x_find hX (fun k => fl_t5 h) h1 (by omega) (sh_t5_0 h) (fun k hk K => ar_t h 6 13 10 (by decide) (by omega)),
    x_find hX (fun k => fl_t9 h) h2 (by omega) (sh_t9_0 h) (fun k hk K => ar_t h 10 13 8 (by decide) (by omega)), x_find hX (fun k => fl_t13 h) h6 (by omega) (sh_t13_0 h) (fun k hk K => ar_t h 14 13 6 (by decide) (by omega)), gs_bI_s, gs_if_rI]
  rfl
theorem r_named {X : gs_E} {d : Nat} {m : gs_M} {T : Nat} {w x : Int32} {n0 n1 n2 n6 : Nat} (hX : gs_Fu X) (h : gs_Sh m T) (h0 : m.2.1 119 0 = Int32.ofNat n0) (h1 : m.2.1 119 1 = Int32.ofNat n1) (h2 : m.2.1 119 2 = Int32.ofNat n2) (h6 : m.2.1 119 6 = Int32.ofNat n6) (b0 : n0 ≤ 8) (b1 : n1 ≤ 10) (b2 : n2 ≤ 8) (b6 : n6 ≤ 6) :
    gs_exec X (d + 2) 212 [.inr (.inr 116), .inl w, .inl x] m = gs_rI (f_named w (f_find (m.2.1 124) x n0 0) (f_find (m.2.1 127) x n1 0) (f_find (m.2.1 134) x n6 0) (f_find (m.2.1 130) x n2 0)) (gs_sI m 116 2 0) := by
  have hs : gs_Sh (gs_sI m 116 2 0) T := h
  have ia : ∀ (j : Int32) (k : Nat → gs_O), gs_in j (gs_len 119) = true → gs_ix (gs_sI m 116 2 0) 119 13 j k = k j.toNatClampNeg := fun j k hj => gs_ixe hs.1 rfl hj
  have e : ∀ (L n : Nat), n < 100 → (∀ k, k < n → gs_ok L 13 153 = true ∧ k < gs_len L) → gs_exec X (d + 1) 191 [.inr (.inr 116), .inr (.inr L), .inl 0, .inl (Int32.ofNat n), .inl x] (gs_sI m 116 2 0) = gs_rI (f_find (fun i => (gs_sI m 116 2 0).2.1 L (0 + i)) x n 0) (gs_sI m 116 2 0) := fun L n hn hk => r_find (o := 0) hX hn (by decide) (fun k hk2 K => by
      rw [Nat.zero_add]
      exact gs_ixn hs.1 (hk k hk2).1 (hk k hk2).2)
  have z : ∀ (L n : Nat), L ≠ 116 → f_find (fun i => (gs_sI m 116 2 0).2.1 L (0 + i)) x n 0 = f_find (m.2.1 L) x n 0 := fun L n hL => f_find_congr n 0 (fun i _ => by rw [gs_sIn (Or.inl hL), Nat.zero_add])
  rw [eq_X12_named, fl_116 h]
  simp only [fl_116 hs, sh_116_12 hs, sh_116_18 hs, sh_116_21 hs, sh_116_24 hs, sh_116_28 hs, gs_nn_s, ia 0 _ rfl, ia 1 _ rfl, ia 2 _ rfl, ia 6 _ rfl]
  have g0 : (gs_sI m 116 2 0).2.1 119 (Int32.toNatClampNeg 0) = Int32.ofNat n0 := h0
  have g1 : (gs_sI m 116 2 0).2.1 119 (Int32.toNatClampNeg 1) = Int32.ofNat n1 := h1
  have g2 : (gs_sI m 116 2 0).2.1 119 (Int32.toNatClampNeg 2) = Int32.ofNat n2 := h2
  have g6 : (gs_sI m 116 2 0).2.1 119 (Int32.toNatClampNeg 6) = Int32.ofNat n6 := h6
  simp only [g0, g1, g2, g6, e 124 n0 (by omega) (fun k hk => ⟨rfl, Nat.lt_of_lt_of_le hk (by show n0 ≤ 16; omega)⟩), e 127 n1 (by omega) (fun k hk => ⟨rfl, Nat.lt_of_lt_of_le hk (by show n1 ≤ 20; omega)⟩), e 130 n2 (by omega) (fun k hk => ⟨rfl, Nat.lt_of_lt_of_le hk (by show n2 ≤ 16; omega)⟩), e 134 n6 (by omega) (fun k hk => ⟨rfl, Nat.lt_of_lt_of_le hk (by show n6 ≤ 12; omega)⟩), gs_bI_s, gs_if_rI,
    z 124 n0 (by decide), z 127 n1 (by decide), z 130 n2 (by decide), z 134 n6 (by decide)]
  rfl
