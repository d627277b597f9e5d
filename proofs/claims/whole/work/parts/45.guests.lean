/-! Guests: how the two classes hold them; their details, days, months, slips. -/
/-- place in the class's guest, place in the reference's row -/
def gs_cm : List (Nat × Nat) := [(0, 0), (1, 1), (2, 13), (3, 2), (4, 3), (5, 4), (6, 5), (7, 6), (10, 7), (11, 8), (12, 9), (13, 10), (14, 11), (15, 12)]
abbrev gd (m : gs_M) (g i : Nat) : Int32 := m.2.1 132 (16 * g + i)
abbrev isN (v : Int32) (b : Nat) : Prop := ∃ k : Nat, k < b ∧ v = Int32.ofNat k
abbrev isO (v : Int32) (b : Nat) : Prop := v = -1 ∨ isN v b
/-- what a guest's row may hold -/
def gs_GV (m : gs_M) (n0 n1 n2 g : Nat) : Prop := isO (gd m g 0) n0 ∧ isN (gd m g 1) 2000 ∧ isN (gd m g 13) 2000 ∧ (∃ mo : Nat, mo ≤ 12 ∧ gd m g 2 = Int32.ofNat mo ∧ (gd m g 0 ≠ -1 → 1 ≤ mo)) ∧ isN (gd m g 3) 60 ∧ isO (gd m g 4) n1 ∧ isN (gd m g 5) 21 ∧ (∃ s ∈ [0, 1, 2, 4, 5, 6, 8, 9, 10], gd m g 6 = Int32.ofNat s) ∧ isN (gd m g 7) 1000 ∧ isN (gd m g 8) 21 ∧ isN (gd m g 9) 100 ∧ isN (gd m g 10) 2 ∧ (∃ w : Nat, 1 ≤ w ∧ w ≤ 9 ∧ gd m g 11 = Int32.ofNat w) ∧ isO (gd m g 12) n2
/-- the class's guests are the reference's -/
def gs_RG (m : gs_M) (T n : Nat) : Prop := ∀ g, g < n → ∀ p ∈ gs_cm, m.2.1 (T + (27 + g)) p.1 = gd m g p.2
theorem gs_neg1 {k : Nat} (h : k < 2147483648) : Int32.ofNat k ≠ -1 := by
  intro e
  have := i_eq.mp e
  rw [gs_n32 h] at this
  have e1 : (-1 : Int32).toInt = -1 := rfl
  omega
theorem gs_nneg {k : Nat} (h : k < 2147483648) : ¬ Int32.ofNat k < 0 := by
  rw [i_lt, gs_n32 h]
  show ¬ (k : Int) < 0
  omega
section GST
variable {X : gs_E} {d : Nat} {m : gs_M} {T g : Nat} {x y : Int32}
theorem x_gx (h : gs_Sh m T) (hg : g < 12) {K : Nat → gs_O} : gs_ix m (T + 25) (cond (Nat.beq (gs_kind (T + 25)) 15) 15 16) (Int32.ofNat g) K = K g := by
  have e : (cond (Nat.beq (gs_kind (T + 25)) 15) 15 16) = 16 := by
    rcases h.2.1 with e | e <;> rw [e] <;> rfl
  rw [e]
  exact ar_t h 25 16 12 (by decide) hg
theorem r_gx (h : gs_Sh m T) (hg : g < 12) {c : Nat} {cl : Int32} (hcl : cl = Int32.ofNat c) (hc : c < 16) {K : Nat → gs_O} : gs_ix m 132 13 ((16 : Int32) * Int32.ofNat g + cl) K = K (16 * g + c) := by
  subst hcl
  show gs_ix m 132 13 (Int32.ofNat 16 * Int32.ofNat g + Int32.ofNat c) K = _
  rw [n_mul, n_add]
  exact gs_ixn h.1 rfl (by show _ < 384; omega)
theorem r_gx0 (h : gs_Sh m T) (hg : g < 12) {K : Nat → gs_O} : gs_ix m 132 13 ((16 : Int32) * Int32.ofNat g) K = K (16 * g + 0) := by
  show gs_ix m 132 13 (Int32.ofNat 16 * Int32.ofNat g) K = _
  rw [n_mul]
  exact gs_ixn h.1 rfl (by show _ < 384; omega)
def f_detail (c : Nat → Int32) (x : Int32) : Int32 := if x = 0 then c 1 else if x = 1 then c 3 else if x = 2 then c 4 else if x = 3 then c 5 else if x = 4 then c 6 else if x = 5 then c 7 else if x = 6 then c 10 else if x = 7 then c 11 else if x = 8 then c 12 else if x = 9 then c 13 else if x = 10 then c 14 else if x = 11 then c 15 else c 2
theorem x_detail (h : gs_Sh m T) (hg : g < 12) : gs_exec X (d + 1) 20 [.inr (.inr (T + (27 + g))), .inl x] m = gs_rI (f_detail (m.2.1 (T + (27 + g))) x) m := by
  rw [eq_X2_detail]
  simp only [fl_tg h hg, gs_if_rI]
  rfl
theorem x_isRock (h : gs_Sh m T) (hg : g < 12) : gs_exec X (d + 1) 19 [.inr (.inr (T + (27 + g)))] m = gs_rI (b2 (m.2.1 (T + (27 + g)) 0 = -1)) m := by
  rw [eq_X2_isRock, fl_tg h hg, b2_1]
theorem r_isRock (h : gs_Sh m T) (hg : g < 12) : gs_exec X (d + 1) 237 [.inr (.inr 116), .inl (Int32.ofNat g)] m = gs_rI (b2 (gd m g 0 < 0)) m := by
  rw [eq_X12_isRock, fl_116 h, sh_116_26 h, gs_nn_s, r_gx0 h hg, b2_1]
/-! day -/
def f_dayG (m : gs_M) (turn g : Nat) : Int32 := if gd m g 0 = -1 then -1 else f_dayN turn (gd m g 1).toInt.toNat (gd m g 2).toInt.toNat (gd m g 3).toInt.toNat
theorem f_nat {v : Int32} {k : Nat} (h : v = Int32.ofNat k) (hk : k < 2147483648) : v.toInt.toNat = k := by
  rw [h, gs_n32 hk]
  rfl
theorem x_dayOf {turn n n0 n1 n2 : Nat} (h : gs_Sh m T) (hR : gs_RG m T n) (hV : gs_GV m n0 n1 n2 g) (hg : g < n) (hn : n ≤ 12) (h0 : n0 ≤ 8) (ht : m.2.1 T 10 = Int32.ofNat turn) (bt : turn < 60) :
    gs_exec X (d + 3) 90 [.inr (.inr T), .inr (.inr (T + (27 + g)))] m = gs_rI (f_dayG m turn g) m := by
  have hg12 : g < 12 := by omega
  have r0 : m.2.1 (T + (27 + g)) 0 = gd m g 0 := hR g hg (0, 0) (by decide)
  have r1 : m.2.1 (T + (27 + g)) 1 = gd m g 1 := hR g hg (1, 1) (by decide)
  have r3 : m.2.1 (T + (27 + g)) 3 = gd m g 2 := hR g hg (3, 2) (by decide)
  have r4 : m.2.1 (T + (27 + g)) 4 = gd m g 3 := hR g hg (4, 3) (by decide)
  obtain ⟨v0, ⟨y, by1, ey⟩, -, ⟨mo, bm, em, hm⟩, ⟨r, br, er⟩, -⟩ := hV
  unfold f_dayG
  rw [eq_X8_dayOf, fl_tg h hg12, x_isRock h hg12, gs_bI_s, b2_if, r0]
  by_cases hk : gd m g 0 = -1
  · rw [if_pos hk, if_pos hk]
  · rw [if_neg hk, if_neg hk, fl_tg h hg12, fl_tg h hg12, fl_tg h hg12, fl_t0 h, r1, r3, r4, f_nat ey (by omega), f_nat em (by omega), f_nat er (by omega), ey, em, er, x_dayIn h ht bt (by omega) (hm hk) bm br, gs_bI_s]
theorem r_dayOf {turn n0 n1 n2 : Nat} (hX : gs_Fu X) (h : gs_Sh m T) (hV : gs_GV m n0 n1 n2 g) (hg : g < 12) (h0 : n0 ≤ 8) (ht : m.2.1 122 0 = Int32.ofNat turn) (bt : turn < 60) :
    gs_exec X (d + 3) 243 [.inr (.inr 116), .inl (Int32.ofNat g)] m = gs_rI (f_dayG m turn g) m := by
  obtain ⟨v0, ⟨y, by1, ey⟩, -, ⟨mo, bm, em, hm⟩, ⟨r, br, er⟩, -⟩ := hV
  unfold f_dayG
  rw [eq_X12_dayOf, fl_116 h, r_isRock h hg, gs_bI_s, b2_if]
  rcases v0 with hk | ⟨k, hk, ek⟩
  · rw [if_pos (show gd m g 0 < 0 by rw [hk]; decide), if_pos hk]
  · rw [if_neg (show ¬ gd m g 0 < 0 by rw [ek]; exact gs_nneg (by omega)), if_neg (show ¬ gd m g 0 = -1 by rw [ek]; exact gs_neg1 (by omega))]
    simp only [fl_116 h, sh_116_26 h, gs_nn_s, r_gx h hg (c := 1) (cl := 1) rfl (by decide), r_gx h hg (c := 2) (cl := 2) rfl (by decide), r_gx h hg (c := 3) (cl := 3) rfl (by decide)]
    have ey2 : m.2.1 132 (16 * g + 1) = Int32.ofNat y := ey
    have em2 : m.2.1 132 (16 * g + 2) = Int32.ofNat mo := em
    have er2 : m.2.1 132 (16 * g + 3) = Int32.ofNat r := er
    rw [f_nat ey (by omega), f_nat em (by omega), f_nat er (by omega), ey2, em2, er2, r_dayIn hX h ht bt (by omega) (hm (by rw [ek]; exact gs_neg1 (by omega))) bm br, gs_bI_s]
def f_day (m : gs_M) (turn : Nat) (n x : Int32) : Int32 := if isIx x n then f_dayG m turn x.toInt.toNat else -2
theorem x_day {turn n n0 n1 n2 : Nat} (h : gs_Sh m T) (hn3 : m.2.1 T 8 = Int32.ofNat n) (hR : gs_RG m T n) (hV : ∀ g, g < n → gs_GV m n0 n1 n2 g) (hn : n ≤ 12) (h0 : n0 ≤ 8) (ht : m.2.1 T 10 = Int32.ofNat turn) (bt : turn < 60) :
    gs_exec X (d + 4) 123 [.inr (.inr 0), .inl x] m = gs_rI (f_day m turn (Int32.ofNat n) x) m := by
  unfold f_day
  rw [eq_X11_day, fl_0 h, x_isGuest h, gs_bI_s, b2_if, hn3]
  by_cases hc : isIx x (Int32.ofNat n)
  · rw [if_pos hc, if_pos hc]
    have hx := i_nat hc
    have hb := i_ix.mp hc
    rw [gs_n32 (by omega)] at hb
    have hg : x.toInt.toNat < n := by omega
    generalize x.toInt.toNat = g at hx hg
    subst hx
    simp only [fl_0 h, sh_told h, gs_nn_s, fl_t0 h, sh_t0_6 h, x_gx h (show g < 12 by omega), sh_guest h (show g < 12 by omega), x_dayOf h hR (hV g hg) hg hn h0 ht bt, gs_bI_s]
  · rw [if_neg hc, if_neg hc]
theorem r_day {turn n n0 n1 n2 : Nat} (hX : gs_Fu X) (h : gs_Sh m T) (hn3 : m.2.1 119 3 = Int32.ofNat n) (hV : ∀ g, g < n → gs_GV m n0 n1 n2 g) (hn : n ≤ 12) (h0 : n0 ≤ 8) (ht : m.2.1 122 0 = Int32.ofNat turn) (bt : turn < 60) :
    gs_exec X (d + 4) 244 [.inr (.inr 116), .inl x] m = gs_rI (f_day m turn (Int32.ofNat n) x) (gs_sI m 116 2 0) := by
  have hs : gs_Sh (gs_sI m 116 2 0) T := h
  have hV2 : ∀ g, g < n → gs_GV (gs_sI m 116 2 0) n0 n1 n2 g := hV
  unfold f_day
  rw [eq_X12_day, fl_116 h]
  show gs_fld (gs_sI m 116 2 0) 116 11 _ = _
  rw [fl_116 hs, r_isGuest hs, gs_bI_s, b2_if]
  have e3 : (gs_sI m 116 2 0).2.1 119 3 = Int32.ofNat n := hn3
  rw [e3]
  by_cases hc : isIx x (Int32.ofNat n)
  · rw [if_pos hc, if_pos hc, fl_116 hs]
    have hx := i_nat hc
    have hb := i_ix.mp hc
    rw [gs_n32 (by omega)] at hb
    have hg : x.toInt.toNat < n := by omega
    generalize x.toInt.toNat = g at hx hg
    subst hx
    rw [r_dayOf hX hs (hV2 g hg) (show g < 12 by omega) h0 ht bt, gs_bI_s]
    rfl
  · rw [if_neg hc, if_neg hc]
/-! months -/
def f_monthsG (m : gs_M) (turn g : Nat) : Nat → Nat → Int32 → Int32
  | 0, _, v => v
  | q + 1, k, v => if f_dayN turn (gd m g 1).toInt.toNat k (gd m g 3).toInt.toNat = -1 then f_monthsG m turn g q (k + 1) v else f_monthsG m turn g q (k + 1) (v ||| (1 <<< ((Int32.ofNat k - 1) &&& 31)))
theorem f_monthsG_s (m : gs_M) (turn g q k : Nat) (v : Int32) : f_monthsG m turn g (q + 1) k v = if f_dayN turn (gd m g 1).toInt.toNat k (gd m g 3).toInt.toNat = -1 then f_monthsG m turn g q (k + 1) v else f_monthsG m turn g q (k + 1) (v ||| (1 <<< ((Int32.ofNat k - 1) &&& 31))) := rfl
theorem f_dayN_neg {turn y mo r : Nat} (hy : y < 4000) (h2 : mo ≤ 12) : (f_dayN turn y mo r < 0) ↔ f_dayN turn y mo r = -1 := by
  have hb : nBegin y mo < 2000000 := by unfold nBegin; omega
  have hl : nLater turn y mo r < 60 := Nat.mod_lt _ (by decide)
  unfold f_dayN
  by_cases hc : nLater turn y mo r < nLen mo
  · rw [if_pos hc]
    exact ⟨fun q => absurd q (gs_nneg (by omega)), fun q => absurd q (gs_neg1 (by omega))⟩
  · rw [if_neg hc]
    decide
theorem x_months_loop {turn n n0 n1 n2 : Nat} (h : gs_Sh m T) (hR : gs_RG m T n) (hV : gs_GV m n0 n1 n2 g) (hg : g < n) (hn : n ≤ 12) (hk : gd m g 0 ≠ -1) (ht : m.2.1 T 10 = Int32.ofNat turn) (bt : turn < 60) :
    ∀ (q k F : Nat) (v : Int32), k + q = 13 → 1 ≤ k → q < F → gs_iter X (gs_exec X (d + 2)) gT_X8_monthsWithRound F 4 [(0, .inr (.inr T)), (1, .inr (.inr (T + (27 + g)))), (2, .inl v), (3, .inl (Int32.ofNat k))] [] m = gs_rI (f_monthsG m turn g q k v) m := by
  have hg12 : g < 12 := by omega
  have r0 : m.2.1 (T + (27 + g)) 0 = gd m g 0 := hR g hg (0, 0) (by decide)
  have r1 : m.2.1 (T + (27 + g)) 1 = gd m g 1 := hR g hg (1, 1) (by decide)
  have r4 : m.2.1 (T + (27 + g)) 4 = gd m g 3 := hR g hg (4, 3) (by decide)
  obtain ⟨v0, ⟨y, by1, ey⟩, -, -, ⟨r, br, er⟩, -⟩ := hV
  intro q
  induction q with
  | zero =>
    intro k F v hk2 h1 hF
    obtain ⟨F, rfl⟩ : ∃ z, F = z + 1 := ⟨F - 1, by omega⟩
    rw [eq_X8_monthsWithRound_4, if_pos (by show Int32.ofNat 12 < _; rw [gs_nlt (by omega) (by omega)]; omega)]
    rfl
  | succ q ih =>
    intro k F v hk2 h1 hF
    obtain ⟨F, rfl⟩ : ∃ z, F = z + 1 := ⟨F - 1, by omega⟩
    rw [eq_X8_monthsWithRound_4, if_neg (by show ¬ Int32.ofNat 12 < _; rw [gs_nlt (by omega) (by omega)]; omega), fl_tg h hg12, x_isRock h hg12, gs_bI_s, b2_if, r0, if_neg hk, fl_tg h hg12, fl_tg h hg12, fl_t0 h, r1, r4, ey, er, x_dayIn h ht bt (by omega) h1 (by omega) br, gs_bI_s, gs_ns, ih (k + 1) F _ (by omega) (by omega) (by omega), ih (k + 1) F _ (by omega) (by omega) (by omega), f_monthsG_s, f_nat ey (by omega), f_nat er (by omega), gs_if_rI]
theorem r_months_loop {turn n0 n1 n2 : Nat} (hX : gs_Fu X) (h : gs_Sh m T) (hV : gs_GV m n0 n1 n2 g) (hg12 : g < 12) (hk : ¬ gd m g 0 < 0) (ht : m.2.1 122 0 = Int32.ofNat turn) (bt : turn < 60) :
    ∀ (q k F : Nat) (v : Int32), k + q = 13 → 1 ≤ k → q < F → gs_iter X (gs_exec X (d + 2)) gT_X12_monthsOf F 4 [(0, .inr (.inr 116)), (1, .inl (Int32.ofNat g)), (2, .inl v), (3, .inl (Int32.ofNat k))] [] m = gs_rI (f_monthsG m turn g q k v) m := by
  obtain ⟨v0, ⟨y, by1, ey⟩, -, -, ⟨r, br, er⟩, -⟩ := hV
  have ey2 : m.2.1 132 (16 * g + 1) = Int32.ofNat y := ey
  have er2 : m.2.1 132 (16 * g + 3) = Int32.ofNat r := er
  intro q
  induction q with
  | zero =>
    intro k F v hk2 h1 hF
    obtain ⟨F, rfl⟩ : ∃ z, F = z + 1 := ⟨F - 1, by omega⟩
    rw [eq_X12_monthsOf_4, if_neg (by show ¬ _ < Int32.ofNat 13; rw [gs_nlt (by omega) (by omega)]; omega)]
    rfl
  | succ q ih =>
    intro k F v hk2 h1 hF
    obtain ⟨F, rfl⟩ : ∃ z, F = z + 1 := ⟨F - 1, by omega⟩
    have ez : v ||| (0 : Int32) = v := by simp
    rw [eq_X12_monthsOf_4, if_pos (by show _ < Int32.ofNat 13; rw [gs_nlt (by omega) (by omega)]; omega), fl_116 h, r_isRock h hg12, gs_bI_s, b2_if, if_neg hk]
    simp only [fl_116 h, sh_116_26 h, gs_nn_s, r_gx h hg12 (c := 1) (cl := 1) rfl (by decide), r_gx h hg12 (c := 3) (cl := 3) rfl (by decide)]
    rw [ey2, er2, r_dayIn hX h ht bt (by omega) h1 (by omega) br, gs_bI_s, ez, gs_ns, ih (k + 1) F _ (by omega) (by omega) (by omega), ih (k + 1) F _ (by omega) (by omega) (by omega), f_monthsG_s, f_nat ey (by omega), f_nat er (by omega), gs_if_rI]
    by_cases hc : f_dayN turn y k r = -1
    · rw [if_pos hc, if_pos ((f_dayN_neg (by omega) (by omega)).mpr hc)]
    · rw [if_neg hc, if_neg (fun q => hc ((f_dayN_neg (by omega) (by omega)).mp q))]
def f_monthsA (m : gs_M) (turn g : Nat) : Int32 := if gd m g 0 = -1 then 0 else f_monthsG m turn g 12 1 0
theorem x_monthsOf {turn n n0 n1 n2 : Nat} (hX : gs_Fu X) (h : gs_Sh m T) (hR : gs_RG m T n) (hV : gs_GV m n0 n1 n2 g) (hg : g < n) (hn : n ≤ 12) (ht : m.2.1 T 10 = Int32.ofNat turn) (bt : turn < 60) :
    gs_exec X (d + 3) 91 [.inr (.inr T), .inr (.inr (T + (27 + g)))] m = gs_rI (f_monthsA m turn g) m := by
  have hg12 : g < 12 := by omega
  have r0 : m.2.1 (T + (27 + g)) 0 = gd m g 0 := hR g hg (0, 0) (by decide)
  rw [eq_X8_monthsWithRound]
  unfold f_monthsA
  obtain ⟨F, hF⟩ : ∃ z, X.1 = z + 1 := ⟨X.1 - 1, by unfold gs_Fu at hX; omega⟩
  by_cases hk : gd m g 0 = -1
  · rw [if_pos hk, hF, eq_X8_monthsWithRound_4, if_neg (by decide), fl_tg h hg12, x_isRock h hg12, gs_bI_s, b2_if, r0, if_pos hk]
  · rw [if_neg hk]
    exact x_months_loop h hR hV hg hn hk ht bt 12 1 X.1 0 rfl (by decide) (by unfold gs_Fu at hX; omega)
theorem r_monthsOf {turn n0 n1 n2 : Nat} (hX : gs_Fu X) (h : gs_Sh m T) (hV : gs_GV m n0 n1 n2 g) (hg : g < 12) (h0 : n0 ≤ 8) (ht : m.2.1 122 0 = Int32.ofNat turn) (bt : turn < 60) :
    gs_exec X (d + 3) 245 [.inr (.inr 116), .inl (Int32.ofNat g)] m = gs_rI (f_monthsA m turn g) m := by
  rw [eq_X12_monthsOf]
  unfold f_monthsA
  obtain ⟨F, hF⟩ : ∃ z, X.1 = z + 1 := ⟨X.1 - 1, by unfold gs_Fu at hX; omega⟩
  rcases hV.1 with hk | ⟨k, hk, ek⟩
  · rw [if_pos hk, hF, eq_X12_monthsOf_4, if_pos (by decide), fl_116 h, r_isRock h hg, gs_bI_s, b2_if, if_pos (show gd m g 0 < 0 by rw [hk]; decide)]
  · rw [if_neg (show ¬ gd m g 0 = -1 by rw [ek]; exact gs_neg1 (by omega))]
    exact r_months_loop hX h hV hg (by rw [ek]; exact gs_nneg (by omega)) ht bt 12 1 X.1 0 rfl (by decide) (by unfold gs_Fu at hX; omega)
end GST
