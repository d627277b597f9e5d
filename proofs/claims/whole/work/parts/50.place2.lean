/-! place, hidden, share. -/
section PL2
variable {X : gs_E} {d : Nat} {m : gs_M} {T n n0 n1 n2 turn g r : Nat} {x y w : Int32}
theorem gs_RP_thr (h : gs_Sh m T) (hn : n ≤ 12) (hP : gs_RP m T n n1) : gs_RP (gs_sI m 116 2 x) T n n1 := by
  have hT : ∀ o, o < 49 → T + o ≠ 116 := by
    rcases h.2.1 with e | e <;> subst e <;> exact fun o ho => by omega
  refine ⟨fun k hk => ?_, fun g hg => ?_⟩
  · rw [gs_sIn (Or.inl (hT 6 (by omega))), gs_sIn (Or.inl (hT 7 (by omega))), gs_sIn (Or.inl (hT 8 (by omega)))]
    exact hP.1 k hk
  · rw [gs_sIn (Or.inl (hT (27 + g) (by omega))), gs_sIn (Or.inl (hT (27 + g) (by omega)))]
    exact hP.2 g hg
def f_place (m : gs_M) (n x r w : Int32) : Int32 := if isIx x n then (if isIx r 4 then (if w = 0 ∨ w = 1 then (if gd m x.toInt.toNat 4 = -1 then -1 else if w = 0 then f_px m x.toInt.toNat r.toInt.toNat else f_py m x.toInt.toNat r.toInt.toNat) else -1) else -1) else -1
theorem i_n4 (hc : isIx y 4) : ∃ r, r < 4 ∧ y = Int32.ofNat r ∧ y.toInt.toNat = r := by
  have hx := i_nat hc
  have hb := i_ix.mp hc
  have e4 : (4 : Int32).toInt = 4 := rfl
  exact ⟨_, by omega, hx, rfl⟩
theorem x_place (hG : gs_Ga m T n n0 n1 n2 turn) (hP : gs_RP m T n n1) : gs_exec X (d + 3) 126 [.inr (.inr 0), .inl x, .inl y, .inl w] m = gs_rI (f_place m (Int32.ofNat n) x y w) m := by
  obtain ⟨h, hn3, -, hn, h0, h1, h2, ht, -, bt, hR, hRR, hV⟩ := hG
  unfold f_place
  rw [eq_X11_place, fl_0 h, x_isGuest h, gs_bI_s, b2_if, hn3]
  by_cases hc : isIx x (Int32.ofNat n)
  · obtain ⟨g, hg, rfl, eg⟩ := i_gst hc hn
    rw [if_pos hc, if_pos hc, eg]
    by_cases y1 : y < 0
    · rw [if_pos y1, if_neg (show ¬ isIx y 4 from fun q => q.1 y1)]
    · rw [if_neg y1]
      by_cases y2 : y < 4
      · obtain ⟨r, hr, rfl, er⟩ := i_n4 ⟨y1, y2⟩
        rw [if_pos y2, if_pos (show isIx (Int32.ofNat r) 4 from ⟨y1, y2⟩), x_isPart, gs_bI_s, b2_if, er]
        by_cases hw : w = 0 ∨ w = 1
        · rw [if_pos hw, if_pos hw]
          simp only [fl_0 h, sh_told h, gs_nn_s, fl_t0 h, sh_t0_6 h, x_gx h (show g < 12 by omega), sh_guest h (show g < 12 by omega), x_placeX h hR (hV g hg) hP hg hn h1 hr, x_placeY h hR (hV g hg) hP hg hn h1 hr, gs_bI_s, gs_if_rI]
          by_cases hk : gd m g 4 = -1
          · rw [if_pos hk, if_pos hk, if_pos hk]
            split <;> rfl
          · rw [if_neg hk, if_neg hk, if_neg hk]
        · rw [if_neg hw, if_neg hw]
      · rw [if_neg y2, if_neg (show ¬ isIx y 4 from fun q => y2 q.2)]
  · rw [if_neg hc, if_neg hc]
theorem i_part : isBt w 0 1 ↔ (w = 0 ∨ w = 1) := by
  rw [i_bt, i_eq, i_eq]
  show 0 ≤ w.toInt ∧ w.toInt ≤ 1 ↔ w.toInt = 0 ∨ w.toInt = 1
  omega
theorem f_gate (hV : gs_GV m n0 n1 n2 g) (h1 : n1 ≤ 10) : (gd m g 4 < 0) ↔ gd m g 4 = -1 := by
  obtain ⟨-, -, -, -, -, v4, -⟩ := hV
  rcases v4 with v4 | ⟨k, hk, ek⟩
  · rw [v4]; decide
  · rw [ek]
    exact ⟨fun q => absurd q (gs_nneg (by omega)), fun q => absurd q (gs_neg1 (by omega))⟩
theorem r_place (hG : gs_Ga m T n n0 n1 n2 turn) : gs_exec X (d + 4) 255 [.inr (.inr 116), .inl x, .inl y, .inl w] m = gs_rI (f_place m (Int32.ofNat n) x y w) (gs_sI m 116 2 0) := by
  have hs := (gs_Ga_thr (x := 0) hG).1
  obtain ⟨-, -, e3, -, -, -, -, -, e9, -, -, hRR2, hV2⟩ := gs_Ga_thr (x := 0) hG
  obtain ⟨h, -, -, hn, h0, h1, h2, -, ht, bt, hR, hRR, hV⟩ := hG
  unfold f_place
  rw [eq_X12_place, fl_116 h]
  show gs_fld (gs_sI m 116 2 0) 116 11 _ = _
  rw [fl_116 hs, r_isGuest hs, gs_bI_s, b2_if, e3]
  by_cases hc : isIx x (Int32.ofNat n)
  · obtain ⟨g, hg, rfl, eg⟩ := i_gst hc hn
    have hg12 : g < 12 := by omega
    have egd : gd (gs_sI m 116 2 0) g 4 = gd m g 4 := rfl
    have eb := f_gate (hV g hg) h1
    rw [if_pos hc, if_pos hc, eg, fl_116 hs, r_hasGate hs hg12, gs_bI_s, b2_if, egd]
    by_cases hk : gd m g 4 = -1
    · rw [if_neg (fun q => q (eb.mpr hk)), if_pos hk]
      split <;> (try split) <;> rfl
    · rw [if_pos (fun q => hk (eb.mp q)), if_neg hk, r_isIn, gs_bI_s, b2_if]
      by_cases hy : isIx y 4
      · obtain ⟨r, hr, rfl, er⟩ := i_n4 hy
        rw [if_pos hy, if_pos ((f_ixbt (n := 4) (k := 3) rfl).mpr hy), r_isIn, gs_bI_s, b2_if, er]
        by_cases hw : w = 0 ∨ w = 1
        · rw [if_pos hw, if_pos (i_part.mpr hw)]
          simp only [fl_116 hs, r_placeX hs (hV2 g hg) hg12 h1 hk, r_placeY hs (hV2 g hg) hg12 h1 hk, gs_bI_s, gs_if_rI]
          rfl
        · rw [if_neg hw, if_neg (fun q => hw (i_part.mp q))]
      · rw [if_neg hy, if_neg (fun q => hy ((f_ixbt (n := 4) (k := 3) rfl).mp q))]
  · rw [if_neg hc, if_neg hc]
/-! hidden -/
theorem f_sun_ix (k : Nat) (hk : k < 710000) : isIx (f_sunOf (Int32.ofNat k)) 120 := by
  have e : f_sunOf (Int32.ofNat k) = Int32.ofNat (k % 354 * 120 / 354) := by
    unfold f_sunOf
    show (Int32.ofNat k - Int32.ofNat k / Int32.ofNat 354 * Int32.ofNat 354) * Int32.ofNat 120 / Int32.ofNat 354 = _
    have hm : k % 354 < 354 := Nat.mod_lt _ (by decide)
    rw [n_mod (by omega) (by decide), n_mul, n_div (by omega) (by decide)]
  have hm : k % 354 < 354 := Nat.mod_lt _ (by decide)
  have h2 : k % 354 * 120 / 354 < 120 := by
    rw [Nat.div_lt_iff_lt_mul (by decide)]
    omega
  rw [e, i_ix, gs_n32 (by omega)]
  show 0 ≤ _ ∧ _ < (120 : Int)
  omega
theorem f_dayG_k {yy mo rr : Nat} (hV : gs_GV m n0 n1 n2 g) (hne : ¬ f_dayG m turn g = -1) : ∃ k, k < 710000 ∧ f_dayG m turn g = Int32.ofNat k := by
  obtain ⟨v0, ⟨yy, by1, ey⟩, -, ⟨mo, bm, em, hm⟩, ⟨r, br, er⟩, -⟩ := hV
  unfold f_dayG at hne ⊢
  by_cases hk : gd m g 0 = -1
  · rw [if_pos hk] at hne
    exact absurd rfl hne
  · rw [if_neg hk] at hne ⊢
    unfold f_dayN at hne ⊢
    rw [f_nat ey (by omega), f_nat em (by omega), f_nat er (by omega)] at hne ⊢
    have hl : nLater turn yy mo r < 60 := Nat.mod_lt _ (by decide)
    have hb : nBegin yy mo < 709000 := by unfold nBegin; omega
    by_cases hc : nLater turn yy mo r < nLen mo
    · rw [if_pos hc]
      exact ⟨_, by omega, rfl⟩
    · rw [if_neg hc] at hne
      exact absurd rfl hne
def f_hidden (m : gs_M) (turn : Nat) (n x : Int32) : Int32 := if isIx x n then (if gd m x.toInt.toNat 4 = -1 then -1 else if f_dayG m turn x.toInt.toNat = -1 then -1 else if 10 < f_around (f_px m x.toInt.toNat 0) (f_sunOf (f_dayG m turn x.toInt.toNat)) then 0 else 1) else -1
theorem x_hidden (hG : gs_Ga m T n n0 n1 n2 turn) (hP : gs_RP m T n n1) : gs_exec X (d + 4) 150 [.inr (.inr 0), .inl x] m = gs_rI (f_hidden m turn (Int32.ofNat n) x) m := by
  obtain ⟨h, hn3, -, hn, h0, h1, h2, ht, -, bt, hR, hRR, hV⟩ := hG
  unfold f_hidden
  rw [eq_X11_hidden, fl_0 h, x_isGuest h, gs_bI_s, b2_if, hn3]
  by_cases hc : isIx x (Int32.ofNat n)
  · obtain ⟨g, hg, rfl, eg⟩ := i_gst hc hn
    have hg12 : g < 12 := by omega
    have r5 : m.2.1 (T + (27 + g)) 5 = gd m g 4 := hR g hg (5, 4) (by decide)
    have pX := x_placeX (X := X) (d := d + 1) h hR (hV g hg) hP hg hn h1 (show 0 < 4 by decide)
    rw [if_pos hc, if_pos hc, eg]
    simp only [fl_0 h, sh_told h, gs_nn_s, fl_t0 h, sh_t0_6 h, x_gx h hg12, sh_guest h hg12, x_dayOf h hR (hV g hg) hg hn h0 ht bt, gs_bI_s, fl_tg h hg12, r5]
    by_cases hk : gd m g 4 = -1
    · rw [if_pos hk, if_pos hk]
    · rw [if_neg hk, if_neg hk]
      by_cases hd : f_dayG m turn g = -1
      · rw [if_pos hd, if_pos hd]
      · rw [if_neg hd, if_neg hd]
        rw [if_neg hk] at pX
        obtain ⟨k, hk2, ek⟩ := f_dayG_k (yy := 0) (mo := 0) (rr := 0) (hV g hg) hd
        have hin := f_px_in (hV g hg) hP hk (show 0 < 4 by decide) h1
        have pX2 : gs_exec X (d + 3) 93 [.inr (.inr T), .inr (.inr (T + (27 + g))), .inl 0] m = gs_rI (f_px m g 0) m := pX
        rw [pX2, gs_bI_s, x_hides hin (by rw [ek]; exact f_sun_ix k hk2), gs_bI_s, b2_if]
        by_cases hz : 10 < f_around (f_px m g 0) (f_sunOf (f_dayG m turn g))
        · rw [if_pos hz, if_neg (show ¬ ¬ 10 < f_around (f_px m g 0) (f_sunOf (f_dayG m turn g)) from fun q => q hz)]
        · rw [if_neg hz, if_pos hz]
  · rw [if_neg hc, if_neg hc]
theorem r_hidden (hX : gs_Fu X) (hG : gs_Ga m T n n0 n1 n2 turn) : gs_exec X (d + 5) 300 [.inr (.inr 116), .inl x] m = gs_rI (f_hidden m turn (Int32.ofNat n) x) (gs_sI m 116 2 0) := by
  have hs := (gs_Ga_thr (x := 0) hG).1
  obtain ⟨-, -, e3, -, -, -, -, -, e9, -, -, hRR2, hV2⟩ := gs_Ga_thr (x := 0) hG
  obtain ⟨h, -, -, hn, h0, h1, h2, -, ht, bt, hR, hRR, hV⟩ := hG
  unfold f_hidden
  rw [eq_X12_hidden, fl_116 h]
  show gs_fld (gs_sI m 116 2 0) 116 11 _ = _
  rw [fl_116 hs, r_isGuest hs, gs_bI_s, b2_if, e3]
  by_cases hc : isIx x (Int32.ofNat n)
  · obtain ⟨g, hg, rfl, eg⟩ := i_gst hc hn
    have hg12 : g < 12 := by omega
    have egd : gd (gs_sI m 116 2 0) g 4 = gd m g 4 := rfl
    have eb := f_gate (hV g hg) h1
    have eD : f_dayG (gs_sI m 116 2 0) turn g = f_dayG m turn g := rfl
    have eP : f_px (gs_sI m 116 2 0) g 0 = f_px m g 0 := rfl
    rw [if_pos hc, if_pos hc, eg, fl_116 hs, r_hasGate hs hg12, gs_bI_s, b2_if, egd]
    by_cases hk : gd m g 4 = -1
    · rw [if_neg (fun q => q (eb.mpr hk)), if_pos hk]
    · rw [if_pos (fun q => hk (eb.mp q)), if_neg hk]
      have pX := r_placeX (X := X) (d := d + 1) (r := 0) hs (hV2 g hg) hg12 h1 hk
      have pX2 : gs_exec X (d + 4) 253 [.inr (.inr 116), .inl (Int32.ofNat g), .inl 0] (gs_sI m 116 2 0) = gs_rI (f_px m g 0) (gs_sI m 116 2 0) := pX
      simp only [fl_116 hs, r_dayOf hX hs (hV2 g hg) hg12 h0 e9 bt, gs_bI_s, pX2, r_sunOf, r_around, eD]
      have eN : (f_dayG m turn g < 0) ↔ f_dayG m turn g = -1 := by
        by_cases hd : f_dayG m turn g = -1
        · rw [hd]; decide
        · obtain ⟨k, hk2, ek⟩ := f_dayG_k (yy := 0) (mo := 0) (rr := 0) (hV g hg) hd
          rw [ek]
          exact ⟨fun q => absurd q (gs_nneg (by omega)), fun q => absurd q (gs_neg1 (by omega))⟩
      by_cases hd : f_dayG m turn g = -1
      · rw [if_pos hd, if_pos (eN.mpr hd)]
      · rw [if_neg hd, if_neg (fun q => hd (eN.mp q)), gs_if_rI]
  · rw [if_neg hc, if_neg hc]
end PL2
