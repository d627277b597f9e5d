/-! Years, mend, slips, look. -/
/-- reigns: the class's and the reference's -/
def gs_RR (m : gs_M) (T n0 : Nat) : Prop := ∀ k, k < n0 → m.2.1 (T + 2) k = m.2.1 124 k ∧ m.2.1 (T + 3) k = m.2.1 125 k ∧ m.2.1 (T + 4) k = m.2.1 126 k ∧ isN (m.2.1 125 k) 1901 ∧ isN (m.2.1 126 k) 61
def f_yearsG (turn mo r : Nat) (k : Int32) : Nat → Nat → Int32 → Int32
  | 0, _, v => if k = -1 then v else -1
  | q + 1, y, v => if f_dayN turn y mo r = -1 then f_yearsG turn mo r k q (y + 1) v else if v = k then Int32.ofNat y else f_yearsG turn mo r k q (y + 1) (v + 1)
theorem f_yearsG_s (turn mo r : Nat) (k : Int32) (q y : Nat) (v : Int32) : f_yearsG turn mo r k (q + 1) y v = if f_dayN turn y mo r = -1 then f_yearsG turn mo r k q (y + 1) v else if v = k then Int32.ofNat y else f_yearsG turn mo r k q (y + 1) (v + 1) := rfl
theorem f_yearsG_0 (turn mo r : Nat) (k : Int32) (y : Nat) (v : Int32) : f_yearsG turn mo r k 0 y v = if k = -1 then v else -1 := rfl
section YRS
variable {X : gs_E} {d : Nat} {m : gs_M} {T g : Nat} {x y : Int32}
theorem x_years_loop {turn mo r f z : Nat} {k : Int32} (h : gs_Sh m T) (hg : g < 12) (e3 : m.2.1 (T + (27 + g)) 3 = Int32.ofNat mo) (e4 : m.2.1 (T + (27 + g)) 4 = Int32.ofNat r) (h1 : 1 ≤ mo) (h2 : mo ≤ 12) (hr : r < 60) (ht : m.2.1 T 10 = Int32.ofNat turn) (bt : turn < 60) (bf : f < 1901) (bz : z < 61) :
    ∀ (q yy F : Nat) (v : Int32), yy + q = f + z → q < F → gs_iter X (gs_exec X (d + 2)) gT_X8_yearsWithRound F 55 [(0, .inr (.inr T)), (1, .inr (.inr (T + (27 + g)))), (2, .inl k), (3, .inl (Int32.ofNat f)), (4, .inl (Int32.ofNat z)), (5, .inl v), (6, .inl (Int32.ofNat yy))] [] m = gs_rI (f_yearsG turn mo r k q yy v) m := by
  intro q
  induction q with
  | zero =>
    intro yy F v hk hF
    obtain ⟨F, rfl⟩ : ∃ z, F = z + 1 := ⟨F - 1, by omega⟩
    rw [eq_X8_yearsWithRound_55, n_add, if_neg (by rw [gs_nlt (by omega) (by omega)]; omega), f_yearsG_0, gs_if_rI]
  | succ q ih =>
    intro yy F v hk hF
    obtain ⟨F, rfl⟩ : ∃ z, F = z + 1 := ⟨F - 1, by omega⟩
    rw [eq_X8_yearsWithRound_55, n_add, if_pos (by rw [gs_nlt (by omega) (by omega)]; omega), fl_tg h hg, fl_tg h hg, fl_t0 h, e3, e4, x_dayIn h ht bt (by omega) h1 h2 hr, gs_bI_s, gs_ns, ih (yy + 1) F _ (by omega) (by omega), ih (yy + 1) F _ (by omega) (by omega), f_yearsG_s, gs_if_rI, gs_if_rI]
theorem r_years_loop {turn mo r f z kr : Nat} {k : Int32} (hX : gs_Fu X) (h : gs_Sh m T) (hg : g < 12) (hkr : kr < 8) (e3 : gd m g 2 = Int32.ofNat mo) (e4 : gd m g 3 = Int32.ofNat r) (ef : m.2.1 125 kr = Int32.ofNat f) (ez : m.2.1 126 kr = Int32.ofNat z) (h1 : 1 ≤ mo) (h2 : mo ≤ 12) (hr : r < 60) (ht : m.2.1 122 0 = Int32.ofNat turn) (bt : turn < 60) (bf : f < 1901) (bz : z < 61) :
    ∀ (q yy F : Nat) (v : Int32), yy + q = f + z → q < F → gs_iter X (gs_exec X (d + 2)) gT_X12_yearsOf F 30 [(0, .inr (.inr 116)), (1, .inl (Int32.ofNat g)), (2, .inl k), (3, .inl v), (4, .inl (Int32.ofNat kr)), (5, .inl (Int32.ofNat yy))] [] m = gs_rI (f_yearsG turn mo r k q yy v) m := by
  have e3' : m.2.1 132 (16 * g + 2) = Int32.ofNat mo := e3
  have e4' : m.2.1 132 (16 * g + 3) = Int32.ofNat r := e4
  have i1 : ∀ K : Nat → gs_O, gs_ix m 125 13 (Int32.ofNat kr) K = K kr := fun K => gs_ixn h.1 rfl (by show kr < 16; omega)
  have i2 : ∀ K : Nat → gs_O, gs_ix m 126 13 (Int32.ofNat kr) K = K kr := fun K => gs_ixn h.1 rfl (by show kr < 16; omega)
  intro q
  induction q with
  | zero =>
    intro yy F v hk hF
    obtain ⟨F, rfl⟩ : ∃ z, F = z + 1 := ⟨F - 1, by omega⟩
    rw [eq_X12_yearsOf_30]
    simp only [fl_116 h, sh_116_19 h, sh_116_20 h, gs_nn_s, i1, i2]
    rw [ef, ez, n_add, if_neg (by rw [gs_nlt (by omega) (by omega)]; omega), f_yearsG_0, gs_if_rI]
  | succ q ih =>
    intro yy F v hk hF
    obtain ⟨F, rfl⟩ : ∃ z, F = z + 1 := ⟨F - 1, by omega⟩
    rw [eq_X12_yearsOf_30]
    simp only [fl_116 h, sh_116_19 h, sh_116_20 h, sh_116_26 h, gs_nn_s, i1, i2, r_gx h hg (c := 2) (cl := 2) rfl (by decide), r_gx h hg (c := 3) (cl := 3) rfl (by decide)]
    rw [ef, ez, n_add, if_pos (by rw [gs_nlt (by omega) (by omega)]; omega), e3', e4', r_dayIn hX h ht bt (by omega) h1 h2 hr, gs_bI_s, gs_ns, ih (yy + 1) F _ (by omega) (by omega), ih (yy + 1) F _ (by omega) (by omega), f_yearsG_s, gs_if_rI, gs_if_rI]
    by_cases hc : f_dayN turn yy mo r = -1
    · rw [if_pos hc, if_pos ((f_dayN_neg (by omega) h2).mpr hc)]
    · rw [if_neg hc, if_neg (fun q => hc ((f_dayN_neg (by omega) h2).mp q))]
def f_yearsA (m : gs_M) (turn g : Nat) (k : Int32) : Int32 := if gd m g 0 = -1 then (if k = -1 then 0 else -1) else f_yearsG turn (gd m g 2).toInt.toNat (gd m g 3).toInt.toNat k (m.2.1 126 (gd m g 0).toInt.toNat).toInt.toNat (m.2.1 125 (gd m g 0).toInt.toNat).toInt.toNat 0
theorem x_yearsOf {turn n n0 n1 n2 : Nat} {k : Int32} (hX : gs_Fu X) (h : gs_Sh m T) (hR : gs_RG m T n) (hRR : gs_RR m T n0) (hV : gs_GV m n0 n1 n2 g) (hg : g < n) (hn : n ≤ 12) (h0 : n0 ≤ 8) (ht : m.2.1 T 10 = Int32.ofNat turn) (bt : turn < 60) :
    gs_exec X (d + 3) 92 [.inr (.inr T), .inr (.inr (T + (27 + g))), .inl k] m = gs_rI (f_yearsA m turn g k) m := by
  have hg12 : g < 12 := by omega
  have r0 : m.2.1 (T + (27 + g)) 0 = gd m g 0 := hR g hg (0, 0) (by decide)
  have r3 : m.2.1 (T + (27 + g)) 3 = gd m g 2 := hR g hg (3, 2) (by decide)
  have r4 : m.2.1 (T + (27 + g)) 4 = gd m g 3 := hR g hg (4, 3) (by decide)
  obtain ⟨v0, -, -, ⟨mo, bm, em, hm⟩, ⟨r, br, er⟩, -⟩ := hV
  unfold f_yearsA
  rw [eq_X8_yearsWithRound, fl_tg h hg12, x_isRock h hg12, gs_bI_s, b2_if, r0]
  rcases v0 with hk | ⟨kr, hkr, ek⟩
  · obtain ⟨F, hF⟩ : ∃ z, X.1 = z + 1 := ⟨X.1 - 1, by unfold gs_Fu at hX; omega⟩
    rw [if_pos hk, if_pos hk, fl_tg h hg12, x_isRock h hg12, gs_bI_s, b2_if, r0, if_pos hk, hF, eq_X8_yearsWithRound_55, if_neg (by decide), gs_if_rI]
  · have hne : ¬ gd m g 0 = -1 := by rw [ek]; exact gs_neg1 (by omega)
    obtain ⟨-, q3, q4, ⟨f, bf, ef⟩, ⟨z, bz, ez⟩⟩ := hRR kr hkr
    rw [if_neg hne, if_neg hne, fl_t0 h, sh_t0_0 h, gs_nn_s, fl_t1 h, sh_t1_1 h, gs_nn_s, fl_tg h hg12, ek, ar_t h 3 13 8 (by decide) (show kr < 8 by omega), fl_tg h hg12, x_isRock h hg12, gs_bI_s, b2_if, r0, if_neg hne, fl_t0 h, sh_t0_0 h, gs_nn_s, fl_t1 h, sh_t1_2 h, gs_nn_s, fl_tg h hg12, ek, ar_t h 4 13 8 (by decide) (show kr < 8 by omega), q3, q4, ef, ez]
    rw [f_nat em (by omega), f_nat er (by omega), f_nat (rfl : Int32.ofNat kr = Int32.ofNat kr) (by omega), f_nat ef (by omega), f_nat ez (by omega)]
    exact x_years_loop h hg12 (r3.trans em) (r4.trans er) (hm hne) bm br ht bt bf bz z f X.1 0 rfl (by unfold gs_Fu at hX; omega)
theorem r_yearsOf {turn n0 n1 n2 : Nat} {k : Int32} (hX : gs_Fu X) (h : gs_Sh m T) (hRR : gs_RR m T n0) (hV : gs_GV m n0 n1 n2 g) (hg12 : g < 12) (h0 : n0 ≤ 8) (ht : m.2.1 122 0 = Int32.ofNat turn) (bt : turn < 60) :
    gs_exec X (d + 3) 247 [.inr (.inr 116), .inl (Int32.ofNat g), .inl k] m = gs_rI (f_yearsA m turn g k) m := by
  obtain ⟨v0, -, -, ⟨mo, bm, em, hm⟩, ⟨r, br, er⟩, -⟩ := hV
  unfold f_yearsA
  rw [eq_X12_yearsOf, fl_116 h, r_isRock h hg12, gs_bI_s, b2_if]
  rcases v0 with hk | ⟨kr, hkr, ek⟩
  · rw [if_pos (show gd m g 0 < 0 by rw [hk]; decide), if_pos hk, gs_if_rI]
  · have hne : ¬ gd m g 0 = -1 := by rw [ek]; exact gs_neg1 (by omega)
    obtain ⟨-, q3, q4, ⟨f, bf, ef⟩, ⟨z, bz, ez⟩⟩ := hRR kr hkr
    have ek2 : m.2.1 132 (16 * g + 0) = Int32.ofNat kr := ek
    rw [if_neg (show ¬ gd m g 0 < 0 by rw [ek]; exact gs_nneg (by omega)), if_neg hne, fl_116 h, sh_116_26 h, gs_nn_s, r_gx0 h hg12, fl_116 h, sh_116_19 h, gs_nn_s, ek2, gs_ixn h.1 (show gs_ok 125 13 153 = true from rfl) (show kr < 16 by omega), ek, f_nat em (by omega), f_nat er (by omega), f_nat (rfl : Int32.ofNat kr = Int32.ofNat kr) (by omega), f_nat ef (by omega), f_nat ez (by omega), ef]
    exact r_years_loop hX h hg12 (by omega) em er ef ez (hm hne) bm br ht bt bf bz z f X.1 0 rfl (by unfold gs_Fu at hX; omega)
end YRS
