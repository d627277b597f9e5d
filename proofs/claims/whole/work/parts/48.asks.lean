/-! What is asked of a guest: months, years, mend, slips, look. -/
/-- all that these answers need of the state -/
def gs_Ga (m : gs_M) (T n n0 n1 n2 turn : Nat) : Prop := gs_Sh m T ∧ m.2.1 T 8 = Int32.ofNat n ∧ m.2.1 119 3 = Int32.ofNat n ∧ n ≤ 12 ∧ n0 ≤ 8 ∧ n1 ≤ 10 ∧ n2 ≤ 8 ∧ m.2.1 T 10 = Int32.ofNat turn ∧ m.2.1 122 0 = Int32.ofNat turn ∧ turn < 60 ∧ gs_RG m T n ∧ gs_RR m T n0 ∧ ∀ g, g < n → gs_GV m n0 n1 n2 g
theorem gs_Ga_thr {m : gs_M} {T n n0 n1 n2 turn : Nat} {x : Int32} (h : gs_Ga m T n n0 n1 n2 turn) : gs_Ga (gs_sI m 116 2 x) T n n0 n1 n2 turn := by
  obtain ⟨h1, h2, h3, h4, h5, h6, h7, h8, h9, h10, h11, h12, h13⟩ := h
  have hT : T ≠ 116 ∧ ∀ o, o < 49 → T + o ≠ 116 := by
    rcases h1.2.1 with e | e <;> subst e <;> exact ⟨by decide, fun o ho => by omega⟩
  refine ⟨h1, ?_, h3, h4, h5, h6, h7, ?_, h9, h10, fun g hg p hp => ?_, fun k hk => ?_, h13⟩
  · rw [gs_sIn (Or.inl hT.1)]; exact h2
  · rw [gs_sIn (Or.inl hT.1)]; exact h8
  · have := h11 g hg p hp
    rw [gs_sIn (Or.inl (hT.2 (27 + g) (by omega)))]
    exact this
  · obtain ⟨a1, a2, a3, a4, a5⟩ := h12 k hk
    rw [gs_sIn (Or.inl (hT.2 2 (by omega))), gs_sIn (Or.inl (hT.2 3 (by omega))), gs_sIn (Or.inl (hT.2 4 (by omega)))]
    exact ⟨a1, a2, a3, a4, a5⟩
set_option maxRecDepth 100000 in
theorem f_bitAdd : ∀ k, k < 12 → ∀ a, a < 2 ^ k → Int32.ofNat a ||| ((1 : Int32) <<< ((Int32.ofNat (k + 1) - 1) &&& 31)) = Int32.ofNat (a + 2 ^ k) := by decide +kernel
theorem f_monthsG_lt {m : gs_M} {turn g : Nat} : ∀ (q k a : Nat), k + q = 13 → 1 ≤ k → a < 2 ^ (k - 1) → ∃ n, n < 4096 ∧ f_monthsG m turn g q k (Int32.ofNat a) = Int32.ofNat n
  | 0, k, a, hk, h1, ha => by
    have e : k = 13 := by omega
    subst e
    exact ⟨a, ha, rfl⟩
  | q + 1, k, a, hk, h1, ha => by
    obtain ⟨j, rfl⟩ : ∃ j, k = j + 1 := ⟨k - 1, by omega⟩
    rw [Nat.add_sub_cancel] at ha
    have e2 : 2 ^ (j + 1) = 2 ^ j * 2 := Nat.pow_succ 2 j
    rw [f_monthsG_s]
    split
    · exact f_monthsG_lt q (j + 1 + 1) a (by omega) (by omega) (by rw [Nat.add_sub_cancel]; omega)
    · rw [f_bitAdd j (by omega) a ha]
      exact f_monthsG_lt q (j + 1 + 1) (a + 2 ^ j) (by omega) (by omega) (by rw [Nat.add_sub_cancel]; omega)
theorem f_monthsA_lt {m : gs_M} {turn g : Nat} : ∃ n, n < 4096 ∧ f_monthsA m turn g = Int32.ofNat n := by
  unfold f_monthsA
  split
  · exact ⟨0, by decide, rfl⟩
  · exact f_monthsG_lt 12 1 0 rfl (by decide) (by decide)
section ASK
variable {X : gs_E} {d : Nat} {m : gs_M} {T n n0 n1 n2 turn g : Nat} {x y : Int32}
/-- an index of a guest is a number -/
theorem i_gst (hc : isIx x (Int32.ofNat n)) (hn : n ≤ 12) : ∃ g, g < n ∧ x = Int32.ofNat g ∧ x.toInt.toNat = g := by
  have hx := i_nat hc
  have hb := i_ix.mp hc
  rw [gs_n32 (by omega)] at hb
  exact ⟨_, by omega, hx, rfl⟩
def f_months (m : gs_M) (turn : Nat) (n x : Int32) : Int32 := if isIx x n then f_monthsA m turn x.toInt.toNat else -1
theorem x_months (hX : gs_Fu X) (hG : gs_Ga m T n n0 n1 n2 turn) : gs_exec X (d + 4) 124 [.inr (.inr 0), .inl x] m = gs_rI (f_months m turn (Int32.ofNat n) x) m := by
  obtain ⟨h, hn3, -, hn, h0, h1, h2, ht, -, bt, hR, hRR, hV⟩ := hG
  unfold f_months
  rw [eq_X11_months, fl_0 h, x_isGuest h, gs_bI_s, b2_if, hn3]
  by_cases hc : isIx x (Int32.ofNat n)
  · obtain ⟨g, hg, rfl, eg⟩ := i_gst hc hn
    rw [if_pos hc, if_pos hc, eg]
    simp only [fl_0 h, sh_told h, gs_nn_s, fl_t0 h, sh_t0_6 h, x_gx h (show g < 12 by omega), sh_guest h (show g < 12 by omega), x_monthsOf hX h hR (hV g hg) hg hn ht bt, gs_bI_s]
  · rw [if_neg hc, if_neg hc]
theorem r_months (hX : gs_Fu X) (hG : gs_Ga m T n n0 n1 n2 turn) : gs_exec X (d + 4) 246 [.inr (.inr 116), .inl x] m = gs_rI (f_months m turn (Int32.ofNat n) x) (gs_sI m 116 2 0) := by
  have hs := (gs_Ga_thr (x := 0) hG).1
  obtain ⟨-, -, e3, -, -, -, -, -, e9, -, -, -, hV2⟩ := gs_Ga_thr (x := 0) hG
  obtain ⟨h, -, -, hn, h0, h1, h2, -, ht, bt, hR, hRR, hV⟩ := hG
  unfold f_months
  rw [eq_X12_months, fl_116 h]
  show gs_fld (gs_sI m 116 2 0) 116 11 _ = _
  rw [fl_116 hs, r_isGuest hs, gs_bI_s, b2_if, e3]
  by_cases hc : isIx x (Int32.ofNat n)
  · obtain ⟨g, hg, rfl, eg⟩ := i_gst hc hn
    rw [if_pos hc, if_pos hc, fl_116 hs, eg, r_monthsOf hX hs (hV2 g hg) (by omega) h0 e9 bt, gs_bI_s]
    rfl
  · rw [if_neg hc, if_neg hc]
def f_years (m : gs_M) (turn : Nat) (n x k : Int32) : Int32 := if isIx x n then (if k < -1 then -1 else f_yearsA m turn x.toInt.toNat k) else -1
theorem x_years (hX : gs_Fu X) (hG : gs_Ga m T n n0 n1 n2 turn) : gs_exec X (d + 4) 125 [.inr (.inr 0), .inl x, .inl y] m = gs_rI (f_years m turn (Int32.ofNat n) x y) m := by
  obtain ⟨h, hn3, -, hn, h0, h1, h2, ht, -, bt, hR, hRR, hV⟩ := hG
  unfold f_years
  rw [eq_X11_years, fl_0 h, x_isGuest h, gs_bI_s, b2_if, hn3]
  by_cases hc : isIx x (Int32.ofNat n)
  · obtain ⟨g, hg, rfl, eg⟩ := i_gst hc hn
    rw [if_pos hc, if_pos hc, eg]
    simp only [fl_0 h, sh_told h, gs_nn_s, fl_t0 h, sh_t0_6 h, x_gx h (show g < 12 by omega), sh_guest h (show g < 12 by omega), x_yearsOf hX h hR hRR (hV g hg) hg hn h0 ht bt, gs_bI_s, gs_if_rI]
  · rw [if_neg hc, if_neg hc]
theorem f_yearsA_thr : f_yearsA (gs_sI m 116 2 0) turn g y = f_yearsA m turn g y := rfl
theorem r_years (hX : gs_Fu X) (hG : gs_Ga m T n n0 n1 n2 turn) : gs_exec X (d + 4) 248 [.inr (.inr 116), .inl x, .inl y] m = gs_rI (f_years m turn (Int32.ofNat n) x y) (gs_sI m 116 2 0) := by
  have hs := (gs_Ga_thr (x := 0) hG).1
  obtain ⟨-, -, e3, -, -, -, -, -, e9, -, -, hRR2, hV2⟩ := gs_Ga_thr (x := 0) hG
  obtain ⟨h, -, -, hn, h0, h1, h2, -, ht, bt, hR, hRR, hV⟩ := hG
  unfold f_years
  rw [eq_X12_years, fl_116 h]
  show gs_fld (gs_sI m 116 2 0) 116 11 _ = _
  rw [fl_116 hs, r_isGuest hs, gs_bI_s, b2_if, e3]
  by_cases hc : isIx x (Int32.ofNat n)
  · obtain ⟨g, hg, rfl, eg⟩ := i_gst hc hn
    rw [if_pos hc, if_pos hc, fl_116 hs, eg, r_yearsOf hX hs hRR2 (hV2 g hg) (by omega) h0 e9 bt, gs_bI_s, gs_if_rI]
    rfl
  · rw [if_neg hc, if_neg hc]
/-! mend -/
def f_mendA (m : gs_M) (turn g : Nat) (w : Int32) : Int32 := if gd m g 0 = -1 then 0 else if f_dayG m turn g = -1 then (if w = 0 then f_mo (f_monthsA m turn g) 16 0 0 + f_yearsA m turn g (-1) + Int32.ofNat (nLen (gd m g 2).toInt.toNat) else if w = 1 then f_mo (f_monthsA m turn g) 16 0 0 else if w = 2 then f_yearsA m turn g (-1) else Int32.ofNat (nLen (gd m g 2).toInt.toNat)) else 0
def f_mend (m : gs_M) (turn : Nat) (n x w : Int32) : Int32 := if isIx x n then (if isBt w 0 3 then f_mendA m turn x.toInt.toNat w else -1) else -1
theorem x_mend (hX : gs_Fu X) (hG : gs_Ga m T n n0 n1 n2 turn) : gs_exec X (d + 4) 128 [.inr (.inr 0), .inl x, .inl y] m = gs_rI (f_mend m turn (Int32.ofNat n) x y) m := by
  obtain ⟨h, hn3, -, hn, h0, h1, h2, ht, -, bt, hR, hRR, hV⟩ := hG
  unfold f_mend
  rw [eq_X11_mend, fl_0 h, x_isGuest h, gs_bI_s, b2_if, hn3]
  by_cases hc : isIx x (Int32.ofNat n)
  · obtain ⟨g, hg, rfl, eg⟩ := i_gst hc hn
    have hg12 : g < 12 := by omega
    rw [if_pos hc, if_pos hc, eg]
    by_cases w1 : y < 0
    · rw [if_pos w1, if_neg (show ¬ isBt y 0 3 from fun q => q.1 w1)]
    · rw [if_neg w1]
      by_cases w2 : (3 : Int32) < y
      · rw [if_pos w2, if_neg (show ¬ isBt y 0 3 from fun q => q.2 w2)]
      · rw [if_neg w2, if_pos (show isBt y 0 3 from ⟨w1, w2⟩)]
        have r0 : m.2.1 (T + (27 + g)) 0 = gd m g 0 := hR g hg (0, 0) (by decide)
        have r3 : m.2.1 (T + (27 + g)) 3 = gd m g 2 := hR g hg (3, 2) (by decide)
        simp only [fl_0 h, sh_told h, gs_nn_s, fl_t0 h, sh_t0_6 h, x_gx h hg12, sh_guest h hg12, fl_tg h hg12, x_isRock h hg12, gs_bI_s, b2_if, r0, x_dayOf h hR (hV g hg) hg hn h0 ht bt, x_monthsOf hX h hR (hV g hg) hg hn ht bt, x_bitCount, x_yearsOf hX h hR hRR (hV g hg) hg hn h0 ht bt, r3]
        unfold f_mendA
        by_cases hk : gd m g 0 = -1
        · rw [if_pos hk, if_pos hk]
        · rw [if_neg hk, if_neg hk]
          obtain ⟨-, -, -, ⟨mo, bm, em, hm⟩, -⟩ := hV g hg
          obtain ⟨z, hz, ez⟩ := f_monthsA_lt (m := m) (turn := turn) (g := g)
          rw [f_nat em (by omega), em, x_monthLength (hm hk) bm, gs_bI_s, ez, f_bc_mo z hz, ← ez, gs_if_rI, gs_if_rI, gs_if_rI, gs_if_rI]
          congr 1
          by_cases hd : f_dayG m turn g = -1
          · rw [if_pos hd, if_pos hd]
            by_cases a0 : y = 0
            · subst a0; rfl
            · rw [if_neg a0]
              by_cases a1 : y = 1
              · rw [if_pos a1, if_pos a1]
              · rw [if_neg a1, if_neg a1]
                by_cases a2 : y = 2
                · rw [if_pos a2, if_pos a2]
                · rw [if_neg a2, if_neg a2]
                  have a3 : y = 3 := by
                    rw [i_eq]
                    have u1 : ¬ y.toInt < 0 := fun q => w1 (i_lt.mpr q)
                    have u2 : ¬ (3 : Int) < y.toInt := fun q => w2 (i_lt.mpr q)
                    have b0 : ¬ y.toInt = 0 := fun q => a0 (i_eq.mpr q)
                    have b1 : ¬ y.toInt = 1 := fun q => a1 (i_eq.mpr q)
                    have b2' : ¬ y.toInt = 2 := fun q => a2 (i_eq.mpr q)
                    show y.toInt = 3
                    omega
                  rw [if_pos a3]
          · rw [if_neg hd, if_neg hd]
  · rw [if_neg hc, if_neg hc]
theorem f_monthsA_thr : f_monthsA (gs_sI m 116 2 0) turn g = f_monthsA m turn g := by
  have e : ∀ (q k : Nat) (v : Int32), f_monthsG (gs_sI m 116 2 0) turn g q k v = f_monthsG m turn g q k v := by
    intro q
    induction q with
    | zero => intro k v; rfl
    | succ q ih => intro k v; rw [f_monthsG_s, f_monthsG_s, ih, ih]; rfl
  unfold f_monthsA
  rw [e]
  rfl
theorem r_mend (hX : gs_Fu X) (hG : gs_Ga m T n n0 n1 n2 turn) : gs_exec X (d + 4) 250 [.inr (.inr 116), .inl x, .inl y] m = gs_rI (f_mend m turn (Int32.ofNat n) x y) (gs_sI m 116 2 0) := by
  have hs := (gs_Ga_thr (x := 0) hG).1
  obtain ⟨-, -, e3, -, -, -, -, -, e9, -, -, hRR2, hV2⟩ := gs_Ga_thr (x := 0) hG
  obtain ⟨h, -, -, hn, h0, h1, h2, -, ht, bt, hR, hRR, hV⟩ := hG
  unfold f_mend
  rw [eq_X12_mend, fl_116 h]
  show gs_fld (gs_sI m 116 2 0) 116 11 _ = _
  rw [fl_116 hs, r_isGuest hs, gs_bI_s, b2_if, e3]
  by_cases hc : isIx x (Int32.ofNat n)
  · obtain ⟨g, hg, rfl, eg⟩ := i_gst hc hn
    have hg12 : g < 12 := by omega
    rw [if_pos hc, if_pos hc, eg, r_isIn, gs_bI_s, b2_if]
    by_cases hw : isBt y 0 3
    · rw [if_pos hw, if_pos hw]
      simp only [fl_116 hs, r_isRock hs hg12, gs_bI_s, b2_if, r_dayOf hX hs (hV2 g hg) hg12 h0 e9 bt, r_monthsOf hX hs (hV2 g hg) hg12 h0 e9 bt, r_manyOf hX, r_yearsOf hX hs hRR2 (hV2 g hg) hg12 h0 e9 bt, sh_116_26 hs, gs_nn_s, r_gx hs hg12 (c := 2) (cl := 2) rfl (by decide), gs_nz_n (show (2 : Int32) ≠ 0 by decide)]
      obtain ⟨v0, ⟨yy, by1, ey⟩, -, ⟨mo, bm, em, hm⟩, ⟨r, br, er⟩, -⟩ := hV g hg
      have em2 : (gs_sI m 116 2 0).2.1 132 (16 * g + 2) = Int32.ofNat mo := em
      have e0 : gd (gs_sI m 116 2 0) g 0 = gd m g 0 := rfl
      have eD : f_dayG (gs_sI m 116 2 0) turn g = f_dayG m turn g := rfl
      have eL : (29 : Int32) + (Int32.ofNat mo - Int32.ofNat mo / (2 : Int32) * (2 : Int32)) = Int32.ofNat (nLen mo) := by
        show Int32.ofNat 29 + (Int32.ofNat mo - Int32.ofNat mo / Int32.ofNat 2 * Int32.ofNat 2) = _
        rw [n_mod (by omega) (by decide), n_add]
        rfl
      unfold f_mendA
      rw [em2, eL, e0, eD, f_monthsA_thr, f_yearsA_thr, f_nat em (by omega)]
      rcases v0 with hk | ⟨kr, hkr, ek⟩
      · rw [if_pos (show gd m g 0 < 0 by rw [hk]; decide), if_pos hk]
      · have hne : ¬ gd m g 0 = -1 := by rw [ek]; exact gs_neg1 (by omega)
        rw [if_neg (show ¬ gd m g 0 < 0 by rw [ek]; exact gs_nneg (by omega)), if_neg hne]
        have eN : (f_dayG m turn g < 0) ↔ f_dayG m turn g = -1 := by
          unfold f_dayG
          rw [if_neg hne, f_nat ey (by omega), f_nat em (by omega)]
          exact f_dayN_neg (by omega) bm
        rw [gs_if_rI, gs_if_rI, gs_if_rI, gs_if_rI]
        congr 1
        by_cases hd : f_dayG m turn g = -1
        · rw [if_pos hd, if_pos (eN.mpr hd)]
        · rw [if_neg hd, if_neg (fun q => hd (eN.mp q))]
    · rw [if_neg hw, if_neg hw]
  · rw [if_neg hc, if_neg hc]
/-! slips -/
def f_unl (a b : Nat → Int32) : Nat → Nat → Int32 → Int32
  | 0, _, v => v
  | q + 1, k, v => if a k = b k then f_unl a b q (k + 1) v else f_unl a b q (k + 1) (v + 1)
theorem f_unl_s (a b : Nat → Int32) (q k : Nat) (v : Int32) : f_unl a b (q + 1) k v = if a k = b k then f_unl a b q (k + 1) v else f_unl a b q (k + 1) (v + 1) := rfl
theorem f_det {c : Nat → Int32} (hR : gs_RG m T n) (hg : g < n) : ∀ k, 1 ≤ k → k < 10 → f_detail (m.2.1 (T + (27 + g))) (Int32.ofNat k) = gd m g (k + 1) := by
  intro k h1 h2
  have q := hR g hg
  rcases (show k = 1 ∨ k = 2 ∨ k = 3 ∨ k = 4 ∨ k = 5 ∨ k = 6 ∨ k = 7 ∨ k = 8 ∨ k = 9 by omega) with rfl | rfl | rfl | rfl | rfl | rfl | rfl | rfl | rfl
  · exact q (3, 2) (by decide)
  · exact q (4, 3) (by decide)
  · exact q (5, 4) (by decide)
  · exact q (6, 5) (by decide)
  · exact q (7, 6) (by decide)
  · exact q (10, 7) (by decide)
  · exact q (11, 8) (by decide)
  · exact q (12, 9) (by decide)
  · exact q (13, 10) (by decide)
theorem x_unl_loop {g2 : Nat} (h : gs_Sh m T) (hR : gs_RG m T n) (hg : g < n) (hg2 : g2 < n) (hn : n ≤ 12) : ∀ (q k F : Nat) (v : Int32), k + q = 10 → 1 ≤ k → q < F →
    gs_iter X (gs_exec X (d + 1)) gT_X2_countUnlike F 4 [(0, .inr (.inr (T + (27 + g)))), (1, .inr (.inr (T + (27 + g2)))), (2, .inl v), (3, .inl (Int32.ofNat k))] [] m = gs_rI (f_unl (gd m g) (gd m g2) q (k + 1) v) m := by
  intro q
  induction q with
  | zero =>
    intro k F v hk h1 hF
    obtain ⟨F, rfl⟩ : ∃ z, F = z + 1 := ⟨F - 1, by omega⟩
    rw [eq_X2_countUnlike_4, if_pos (by show Int32.ofNat 9 < _; rw [gs_nlt (by omega) (by omega)]; omega)]
    rfl
  | succ q ih =>
    intro k F v hk h1 hF
    obtain ⟨F, rfl⟩ : ∃ z, F = z + 1 := ⟨F - 1, by omega⟩
    rw [eq_X2_countUnlike_4, if_neg (by show ¬ Int32.ofNat 9 < _; rw [gs_nlt (by omega) (by omega)]; omega), fl_tg h (by omega), x_detail h (by omega), gs_bI_s, fl_tg h (by omega), x_detail h (by omega), gs_bI_s, f_det (c := fun _ => 0) hR hg k h1 (by omega), f_det (c := fun _ => 0) hR hg2 k h1 (by omega), gs_ns, ih (k + 1) F _ (by omega) (by omega) (by omega), ih (k + 1) F _ (by omega) (by omega) (by omega), f_unl_s, gs_if_rI]
theorem r_unl_loop {g2 : Nat} (h : gs_Sh m T) (hg : g < 12) (hg2 : g2 < 12) : ∀ (q k F : Nat) (v : Int32), k + q = 11 → q < F →
    gs_iter X (gs_exec X d) gT_X12_slipsOf F 5 [(0, .inr (.inr 116)), (1, .inl (Int32.ofNat g)), (2, .inl (Int32.ofNat g2)), (3, .inl v), (4, .inl (Int32.ofNat k))] [] m = gs_rI (f_unl (gd m g) (gd m g2) q k v) m := by
  intro q
  induction q with
  | zero =>
    intro k F v hk hF
    obtain ⟨F, rfl⟩ : ∃ z, F = z + 1 := ⟨F - 1, by omega⟩
    rw [eq_X12_slipsOf_5, if_neg (by show ¬ _ < Int32.ofNat 11; rw [gs_nlt (by omega) (by omega)]; omega)]
    rfl
  | succ q ih =>
    intro k F v hk hF
    obtain ⟨F, rfl⟩ : ∃ z, F = z + 1 := ⟨F - 1, by omega⟩
    have ez : v + (0 : Int32) = v := by simp
    rw [eq_X12_slipsOf_5, if_pos (by show _ < Int32.ofNat 11; rw [gs_nlt (by omega) (by omega)]; omega)]
    simp only [fl_116 h, sh_116_26 h, gs_nn_s, r_gx h hg (c := k) rfl (by omega), r_gx h hg2 (c := k) rfl (by omega)]
    rw [ez, gs_ns, ih (k + 1) F _ (by omega) (by omega), ih (k + 1) F _ (by omega) (by omega), f_unl_s, gs_if_rI]
def f_slipsA (m : gs_M) (g g2 : Nat) : Int32 := f_unl (gd m g) (gd m g2) 9 2 0
theorem x_countUnlike {g2 : Nat} (hX : gs_Fu X) (h : gs_Sh m T) (hR : gs_RG m T n) (hg : g < n) (hg2 : g2 < n) (hn : n ≤ 12) : gs_exec X (d + 2) 21 [.inr (.inr (T + (27 + g))), .inr (.inr (T + (27 + g2)))] m = gs_rI (f_slipsA m g g2) m := by
  rw [eq_X2_countUnlike]
  exact x_unl_loop h hR hg hg2 hn 9 1 X.1 0 rfl (by decide) (by unfold gs_Fu at hX; omega)
theorem r_slipsOf {g2 : Nat} (hX : gs_Fu X) (h : gs_Sh m T) (hg : g < 12) (hg2 : g2 < 12) : gs_exec X (d + 1) 280 [.inr (.inr 116), .inl (Int32.ofNat g), .inl (Int32.ofNat g2)] m = gs_rI (f_slipsA m g g2) m := by
  rw [eq_X12_slipsOf]
  exact r_unl_loop h hg hg2 9 2 X.1 0 rfl (by unfold gs_Fu at hX; omega)
def f_slips (m : gs_M) (n x y : Int32) : Int32 := if isIx x n then (if isIx y n then (if x = y then -1 else f_slipsA m x.toInt.toNat y.toInt.toNat) else -1) else -1
theorem x_slips (hX : gs_Fu X) (hG : gs_Ga m T n n0 n1 n2 turn) : gs_exec X (d + 3) 138 [.inr (.inr 0), .inl x, .inl y] m = gs_rI (f_slips m (Int32.ofNat n) x y) m := by
  obtain ⟨h, hn3, -, hn, h0, h1, h2, ht, -, bt, hR, hRR, hV⟩ := hG
  unfold f_slips
  rw [eq_X11_slips, fl_0 h, x_isGuest h, gs_bI_s, b2_if, hn3]
  by_cases hc : isIx x (Int32.ofNat n)
  · rw [if_pos hc, if_pos hc, fl_0 h, x_isGuest h, gs_bI_s, b2_if, hn3]
    by_cases hc2 : isIx y (Int32.ofNat n)
    · rw [if_pos hc2, if_pos hc2]
      by_cases he : x = y
      · rw [if_pos he, if_pos he]
      · rw [if_neg he, if_neg he]
        obtain ⟨g, hg, rfl, eg⟩ := i_gst hc hn
        obtain ⟨g2, hg2, rfl, eg2⟩ := i_gst hc2 hn
        rw [eg, eg2]
        simp only [fl_0 h, sh_told h, gs_nn_s, fl_t0 h, sh_t0_6 h, x_gx h (show g < 12 by omega), sh_guest h (show g < 12 by omega), x_gx h (show g2 < 12 by omega), sh_guest h (show g2 < 12 by omega), fl_tg h (show g < 12 by omega), x_countUnlike hX h hR hg hg2 hn, gs_bI_s]
    · rw [if_neg hc2, if_neg hc2]
  · rw [if_neg hc, if_neg hc]
theorem f_unl_thr : ∀ (g g2 q k : Nat) (v : Int32), f_unl (gd (gs_sI m 116 2 0) g) (gd (gs_sI m 116 2 0) g2) q k v = f_unl (gd m g) (gd m g2) q k v := fun _ _ _ _ _ => rfl
theorem r_slips (hX : gs_Fu X) (hG : gs_Ga m T n n0 n1 n2 turn) : gs_exec X (d + 3) 281 [.inr (.inr 116), .inl x, .inl y] m = gs_rI (f_slips m (Int32.ofNat n) x y) (gs_sI m 116 2 0) := by
  have hs := (gs_Ga_thr (x := 0) hG).1
  obtain ⟨-, -, e3, -⟩ := gs_Ga_thr (x := 0) hG
  obtain ⟨h, -, -, hn, h0, h1, h2, -, ht, bt, hR, hRR, hV⟩ := hG
  unfold f_slips
  rw [eq_X12_slips, fl_116 h]
  show gs_fld (gs_sI m 116 2 0) 116 11 _ = _
  rw [fl_116 hs, r_isGuest hs, gs_bI_s, b2_if, e3]
  by_cases hc : isIx x (Int32.ofNat n)
  · rw [if_pos hc, if_pos hc, fl_116 hs, r_isGuest hs, gs_bI_s, b2_if, e3]
    by_cases hc2 : isIx y (Int32.ofNat n)
    · rw [if_pos hc2, if_pos hc2]
      by_cases he : x = y
      · rw [if_pos he, if_pos he]
      · rw [if_neg he, if_neg he, fl_116 hs]
        obtain ⟨g, hg, rfl, eg⟩ := i_gst hc hn
        obtain ⟨g2, hg2, rfl, eg2⟩ := i_gst hc2 hn
        rw [eg, eg2, r_slipsOf hX hs (show g < 12 by omega) (show g2 < 12 by omega), gs_bI_s]
        rfl
    · rw [if_neg hc2, if_neg hc2]
  · rw [if_neg hc, if_neg hc]
end ASK
