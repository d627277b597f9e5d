/-! Places: gates, sides, readings. -/
def gs_vs : List Nat := [0, 1, 2, 4, 5, 6, 8, 9, 10]
def f_east (s : Int32) : Int32 := if s &&& 4 = 0 then (if s &&& 8 = 0 then 0 else -1) else 1
def f_north (s : Int32) : Int32 := if s &&& 1 = 0 then (if s &&& 2 = 0 then 0 else -1) else 1
/-- gates, and the ways of the sides -/
def gs_RP (m : gs_M) (T n n1 : Nat) : Prop := (∀ k, k < n1 → m.2.1 (T + 6) k = m.2.1 127 k ∧ m.2.1 (T + 7) k = m.2.1 128 k ∧ m.2.1 (T + 8) k = m.2.1 129 k ∧ isN (m.2.1 128 k) 120 ∧ isN (m.2.1 129 k) 60) ∧ ∀ g, g < n → m.2.1 (T + (27 + g)) 8 = f_east (gd m g 6) ∧ m.2.1 (T + (27 + g)) 9 = f_north (gd m g 6)
/-- a step to a side, turned or not -/
def f_st (i s r p q w : Int32) : Int32 := if isBit r w then -((if isBit s p then i else 0) - (if isBit s q then i else 0)) else (if isBit s p then i else 0) - (if isBit s q then i else 0)
theorem f_stx : ∀ s ∈ gs_vs, ∀ r, r < 4 → ∀ b, b < 21 → (if Int32.ofNat r &&& 1 = 0 then f_east (Int32.ofNat s) else -(f_east (Int32.ofNat s))) * Int32.ofNat b = f_st (Int32.ofNat b) (Int32.ofNat s) (Int32.ofNat r) 2 3 0 := by decide +kernel
theorem f_sty : ∀ s ∈ gs_vs, ∀ r, r < 4 → ∀ b, b < 21 → (if Int32.ofNat r &&& 2 = 0 then f_north (Int32.ofNat s) else -(f_north (Int32.ofNat s))) * Int32.ofNat b = f_st (Int32.ofNat b) (Int32.ofNat s) (Int32.ofNat r) 0 1 1 := by decide +kernel
theorem f_st20 : ∀ s ∈ gs_vs, ∀ r, r < 4 → ∀ b, b < 21 → (∃ k, k < 41 ∧ f_st (Int32.ofNat b) (Int32.ofNat s) (Int32.ofNat r) 2 3 0 = Int32.ofNat k - 20) ∧ ∃ k, k < 41 ∧ f_st (Int32.ofNat b) (Int32.ofNat s) (Int32.ofNat r) 0 1 1 = Int32.ofNat k - 20 := by decide +kernel
def f_mod120 (z : Int32) : Int32 := z + 120 - (z + 120) / 120 * 120
theorem f_fm : ∀ k, k < 160 → (if ((Int32.ofNat k - 20) ^^^ (120 : Int32)) < 0 then (if ((Int32.ofNat k - 20) - (Int32.ofNat k - 20) / 120 * 120) = 0 then ((Int32.ofNat k - 20) - (Int32.ofNat k - 20) / 120 * 120) else ((Int32.ofNat k - 20) - (Int32.ofNat k - 20) / 120 * 120) + 120) else ((Int32.ofNat k - 20) - (Int32.ofNat k - 20) / 120 * 120)) = f_mod120 (Int32.ofNat k - 20) ∧ isIx (f_mod120 (Int32.ofNat k - 20)) 120 := by decide +kernel
def f_clip (z : Int32) : Int32 := if z < 0 then 0 else if 59 < z then 59 else z
theorem f_cl (z : Int32) : (if (0 : Int32) < (if z < 59 then z else 59) then (if z < 59 then z else 59) else 0) = f_clip z := by
  unfold f_clip
  have e59 : (59 : Int32).toInt = 59 := rfl
  have e0 : (0 : Int32).toInt = 0 := rfl
  by_cases h1 : z < 59
  · rw [if_pos h1]
    by_cases h2 : 0 < z
    · rw [if_pos h2, if_neg (by rw [i_lt] at h2 ⊢; omega), if_neg (by rw [i_lt] at h1 ⊢; omega)]
    · rw [if_neg h2]
      by_cases h3 : z < 0
      · rw [if_pos h3]
      · rw [if_neg h3, if_neg (by rw [i_lt] at h1 ⊢; omega), i_eq]
        rw [i_lt] at h2 h3
        omega
  · rw [if_neg h1, if_pos (by decide), if_neg (by rw [i_lt] at h1 ⊢; omega)]
    by_cases h2 : 59 < z
    · rw [if_pos h2]
    · rw [if_neg h2, i_eq]
      rw [i_lt] at h1 h2
      omega
section PLC
variable {X : gs_E} {d : Nat} {m : gs_M} {T n n0 n1 n2 g r : Nat} {x y : Int32}
def f_px (m : gs_M) (g r : Nat) : Int32 := f_mod120 (m.2.1 128 (gd m g 4).toInt.toNat + f_st (gd m g 5) (gd m g 6) (Int32.ofNat r) 2 3 0)
def f_py (m : gs_M) (g r : Nat) : Int32 := f_clip (m.2.1 129 (gd m g 4).toInt.toNat + f_st (gd m g 5) (gd m g 6) (Int32.ofNat r) 0 1 1)
theorem f_zz {a k : Nat} (ha : a < 120) (hk : k < 41) : Int32.ofNat a + (Int32.ofNat k - 20) = Int32.ofNat (a + k) - 20 := by
  rw [← n_add, Int32.sub_eq_add_neg, Int32.sub_eq_add_neg, Int32.add_assoc]
theorem f_px_in (hV : gs_GV m n0 n1 n2 g) (hP : gs_RP m T n n1) (hgt : ¬ gd m g 4 = -1) (hr : r < 4) (h1 : n1 ≤ 10) : isIx (f_px m g r) 120 := by
  obtain ⟨-, -, -, -, -, v4, ⟨b, bb, eb⟩, ⟨s, hs, es⟩, -⟩ := hV
  rcases v4 with v4 | ⟨k, hk, ek⟩
  · exact absurd v4 hgt
  · obtain ⟨-, -, -, ⟨a, ba, ea⟩, -⟩ := hP.1 k hk
    obtain ⟨⟨j, hj, ej⟩, -⟩ := f_st20 s hs r hr b bb
    unfold f_px
    rw [f_nat ek (by omega), ea, eb, es, ej, f_zz ba hj]
    exact (f_fm _ (by omega)).2
theorem x_placeX (h : gs_Sh m T) (hR : gs_RG m T n) (hV : gs_GV m n0 n1 n2 g) (hP : gs_RP m T n n1) (hg : g < n) (hn : n ≤ 12) (h1 : n1 ≤ 10) (hr : r < 4) :
    gs_exec X (d + 2) 93 [.inr (.inr T), .inr (.inr (T + (27 + g))), .inl (Int32.ofNat r)] m = gs_rI (if gd m g 4 = -1 then -1 else f_px m g r) m := by
  have hg12 : g < 12 := by omega
  have r5 : m.2.1 (T + (27 + g)) 5 = gd m g 4 := hR g hg (5, 4) (by decide)
  have r6 : m.2.1 (T + (27 + g)) 6 = gd m g 5 := hR g hg (6, 5) (by decide)
  have r8 := (hP.2 g hg).1
  obtain ⟨-, -, -, -, -, v4, ⟨b, bb, eb⟩, ⟨s, hs, es⟩, -⟩ := hV
  rw [eq_X8_placeX, fl_tg h hg12, r5]
  rcases v4 with v4 | ⟨k, hk, ek⟩
  · rw [if_pos v4, if_pos v4]
  · have hne : ¬ gd m g 4 = -1 := by rw [ek]; exact gs_neg1 (by omega)
    obtain ⟨-, q2, -, ⟨a, ba, ea⟩, -⟩ := hP.1 k hk
    obtain ⟨⟨j, hj, ej⟩, -⟩ := f_st20 s hs r hr b bb
    have key := f_stx s hs r hr b bb
    have fin : ∀ w : Int32, w * Int32.ofNat b = Int32.ofNat j - 20 → gs_exec X (d + 1) 309 [.inl (Int32.ofNat a + w * Int32.ofNat b), .inl 120] m = gs_rI (f_px m g r) m := by
      intro w hw
      rw [eq_J9_floorMod_7cf53, gs_nz_n (by decide), hw, f_zz ba hj, gs_if_rI, gs_if_rI, (f_fm (a + j) (by omega)).1]
      unfold f_px
      rw [f_nat ek (by omega), ea, eb, es, ej, f_zz ba hj]
    rw [if_neg hne, if_neg hne]
    simp only [fl_tg h hg12, fl_t0 h, sh_t0_1 h, gs_nn_s, fl_t5 h, sh_t5_1 h, r5, r6, r8, ek, ar_t h 7 13 10 (by decide) (show k < 10 by omega), q2, ea, eb, es]
    rw [ej] at key
    by_cases hc : Int32.ofNat r &&& 1 = 0
    · rw [if_pos hc] at key ⊢
      rw [fin _ key, gs_bI_s]
    · rw [if_neg hc] at key ⊢
      rw [fin _ key, gs_bI_s]
theorem x_placeY (h : gs_Sh m T) (hR : gs_RG m T n) (hV : gs_GV m n0 n1 n2 g) (hP : gs_RP m T n n1) (hg : g < n) (hn : n ≤ 12) (h1 : n1 ≤ 10) (hr : r < 4) :
    gs_exec X (d + 2) 94 [.inr (.inr T), .inr (.inr (T + (27 + g))), .inl (Int32.ofNat r)] m = gs_rI (if gd m g 4 = -1 then -1 else f_py m g r) m := by
  have hg12 : g < 12 := by omega
  have r5 : m.2.1 (T + (27 + g)) 5 = gd m g 4 := hR g hg (5, 4) (by decide)
  have r6 : m.2.1 (T + (27 + g)) 6 = gd m g 5 := hR g hg (6, 5) (by decide)
  have r9 := (hP.2 g hg).2
  obtain ⟨-, -, -, -, -, v4, ⟨b, bb, eb⟩, ⟨s, hs, es⟩, -⟩ := hV
  rw [eq_X8_placeY, fl_tg h hg12, r5]
  rcases v4 with v4 | ⟨k, hk, ek⟩
  · rw [if_pos v4, if_pos v4]
  · have hne : ¬ gd m g 4 = -1 := by rw [ek]; exact gs_neg1 (by omega)
    obtain ⟨-, -, q3, -, ⟨a, ba, ea⟩⟩ := hP.1 k hk
    have key := f_sty s hs r hr b bb
    rw [if_neg hne, if_neg hne]
    simp only [fl_tg h hg12, fl_t0 h, sh_t0_1 h, gs_nn_s, fl_t5 h, sh_t5_2 h, r5, r6, r9, ek, ar_t h 8 13 10 (by decide) (show k < 10 by omega), q3, ea, eb, es, x_min, x_max, gs_bI_s, f_cl]
    unfold f_py
    rw [f_nat ek (by omega), ea, eb, es, ← key]
    by_cases hc : Int32.ofNat r &&& 2 = 0
    · rw [if_pos hc, if_pos hc]
    · rw [if_neg hc, if_neg hc]
theorem r_sideOf {w : Int32} (h : gs_Sh m T) (hg : g < 12) : gs_exec X (d + 2) 252 [.inr (.inr 116), .inl (Int32.ofNat g), .inl w] m = gs_rI (if isBit (gd m g 6) w then gd m g 5 else 0) m := by
  rw [eq_X12_sideOf]
  simp only [fl_116 h, sh_116_26 h, gs_nn_s, r_gx h hg (c := 6) (cl := 6) rfl (by decide), r_gx h hg (c := 5) (cl := 5) rfl (by decide), r_isOf, gs_bI_s, b2_if, gs_if_rI]
theorem r_hasGate (h : gs_Sh m T) (hg : g < 12) : gs_exec X (d + 1) 251 [.inr (.inr 116), .inl (Int32.ofNat g)] m = gs_rI (b2 (¬ gd m g 4 < 0)) m := by
  rw [eq_X12_hasGate]
  simp only [fl_116 h, sh_116_26 h, gs_nn_s, r_gx h hg (c := 4) (cl := 4) rfl (by decide)]
  unfold b2
  by_cases hc : gd m g 4 < 0
  · rw [if_pos hc, if_neg (fun q => q hc)]; rfl
  · rw [if_neg hc, if_pos hc]; rfl
theorem r_placeX (h : gs_Sh m T) (hV : gs_GV m n0 n1 n2 g) (hg12 : g < 12) (h1 : n1 ≤ 10) (hgt : ¬ gd m g 4 = -1) :
    gs_exec X (d + 3) 253 [.inr (.inr 116), .inl (Int32.ofNat g), .inl (Int32.ofNat r)] m = gs_rI (f_px m g r) m := by
  obtain ⟨-, -, -, -, -, v4, -⟩ := hV
  rcases v4 with v4 | ⟨k, hk, ek⟩
  · exact absurd v4 hgt
  · have ek2 : m.2.1 132 (16 * g + 4) = Int32.ofNat k := ek
    rw [eq_X12_placeX]
    simp only [fl_116 h, r_sideOf h hg12, gs_bI_s, sh_116_22 h, sh_116_26 h, gs_nn_s, r_gx h hg12 (c := 4) (cl := 4) rfl (by decide), ek2, gs_ixn h.1 (show gs_ok 128 13 153 = true from rfl) (show k < 20 by omega), r_isOf, b2_if, gs_nz_n (show (120 : Int32) ≠ 0 by decide)]
    unfold f_px f_st f_mod120
    rw [f_nat ek (by omega)]
    by_cases hc : isBit (Int32.ofNat r) 0
    · rw [if_pos hc, if_pos hc]
    · rw [if_neg hc, if_neg hc]
theorem r_placeY (h : gs_Sh m T) (hV : gs_GV m n0 n1 n2 g) (hg12 : g < 12) (h1 : n1 ≤ 10) (hgt : ¬ gd m g 4 = -1) :
    gs_exec X (d + 3) 254 [.inr (.inr 116), .inl (Int32.ofNat g), .inl (Int32.ofNat r)] m = gs_rI (f_py m g r) m := by
  obtain ⟨-, -, -, -, -, v4, -⟩ := hV
  rcases v4 with v4 | ⟨k, hk, ek⟩
  · exact absurd v4 hgt
  · have ek2 : m.2.1 132 (16 * g + 4) = Int32.ofNat k := ek
    rw [eq_X12_placeY]
    simp only [fl_116 h, r_sideOf h hg12, gs_bI_s, sh_116_23 h, sh_116_26 h, gs_nn_s, r_gx h hg12 (c := 4) (cl := 4) rfl (by decide), ek2, gs_ixn h.1 (show gs_ok 129 13 153 = true from rfl) (show k < 20 by omega), r_isOf, b2_if, gs_if_rI]
    unfold f_py f_st f_clip
    rw [f_nat ek (by omega)]
    by_cases hc : isBit (Int32.ofNat r) 1
    · rw [if_pos hc, if_pos hc]
    · rw [if_neg hc, if_neg hc]
end PLC
