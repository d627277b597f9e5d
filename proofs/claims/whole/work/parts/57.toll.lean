/-! Readings and tolls. -/
theorem f_clip_in (z : Int32) : isIx (f_clip z) 60 := by
  unfold f_clip
  by_cases h1 : z < 0
  · rw [if_pos h1]; decide
  · rw [if_neg h1]
    by_cases h2 : 59 < z
    · rw [if_pos h2]; decide
    · rw [if_neg h2]
      refine ⟨h1, i_lt.mpr ?_⟩
      have h2 : ¬ (59 : Int) < z.toInt := fun q => h2 (i_lt.mpr q)
      show z.toInt < 60
      omega
theorem f_apart_n {x y x2 y2 : Int32} (hx : isIx x 120) (hx2 : isIx x2 120) (hy : isIx y 60) (hy2 : isIx y2 60) : f_apart x y x2 y2 = Int32.ofNat (f_apart x y x2 y2).toInt.toNat ∧ (f_apart x y x2 y2).toInt.toNat ≤ 60 := by
  have q1 := i_ix.mp hx
  have q2 := i_ix.mp hx2
  have q3 := i_ix.mp hy
  have q4 := i_ix.mp hy2
  have e120 : (120 : Int32).toInt = 120 := rfl
  have e60 : (60 : Int32).toInt = 60 := rfl
  have es : (x - x2).toInt = x.toInt - x2.toInt := i_sub (by omega) (by omega)
  have ea := i_abs (x := x - x2) (by omega)
  rw [es] at ea
  have es2 : (y - y2).toInt = y.toInt - y2.toInt := i_sub (by omega) (by omega)
  have ea2 := i_abs (x := y - y2) (by omega)
  rw [es2] at ea2
  have ear : 0 ≤ (f_around x x2).toInt ∧ (f_around x x2).toInt ≤ 60 := by
    unfold f_around
    by_cases h3 : 60 < f_abs (x - x2)
    · rw [if_pos h3, i_sub (a := 120) (by rw [ea]; show -2147483648 ≤ 120 - _; split <;> omega) (by rw [ea]; show 120 - _ < _; split <;> omega), ea, e120]
      rw [i_lt, ea, e60] at h3
      split at h3 <;> split <;> omega
    · rw [if_neg h3, ea]
      rw [i_lt, ea, e60] at h3
      split at h3 <;> split <;> omega
  have key : 0 ≤ (f_apart x y x2 y2).toInt ∧ (f_apart x y x2 y2).toInt ≤ 60 := by
    unfold f_apart
    by_cases h4 : f_abs (y - y2) < f_around x x2
    · rw [if_pos h4]; exact ear
    · rw [if_neg h4, ea2]
      split <;> omega
  refine ⟨?_, by omega⟩
  rw [i_eq, gs_n32 (by omega)]
  omega
def ap (m : gs_M) (g c r : Nat) : Nat := (f_apart (f_px m g r) (f_py m g r) (cd m c 0) (cd m c 1)).toInt.toNat
def nb (r : Nat) : Nat := r % 2 + r / 2
def nT (m : gs_M) (price g c r : Nat) : Nat := ap m g c r + price * nb r
def nW (s : Int32) : Nat := (if f_east s = 0 then 0 else 1) + (if f_north s = 0 then 0 else 2)
def nStp (t : Nat → Nat) (w r b : Nat) : Nat := if w &&& r = 0 then b else if t r < t b then r else b
def nBest (t : Nat → Nat) (w : Nat) : Nat := nStp t w 3 (nStp t w 2 (nStp t w 1 0))
def rStp (t : Nat → Nat) (w r b : Nat) : Nat := if r &&& (3 ^^^ w) = 0 then (if t r < t b then r else b) else b
theorem nStp_lt {t : Nat → Nat} {w r b : Nat} (hr : r < 4) (hb : b < 4) : nStp t w r b < 4 := by
  unfold nStp
  split
  · exact hb
  · split
    · exact hr
    · exact hb
theorem rStp_lt {t : Nat → Nat} {w r b : Nat} (hr : r < 4) (hb : b < 4) : rStp t w r b < 4 := by
  unfold rStp
  split
  · split
    · exact hr
    · exact hb
  · exact hb
theorem nBest_r {t : Nat → Nat} {w : Nat} (hw : w < 4) (h1 : w = 1 → t 1 ≤ t 3) (h2 : w = 2 → t 2 ≤ t 3) : rStp t w 3 (rStp t w 2 (rStp t w 1 0)) = nBest t w := by
  unfold nBest nStp rStp
  rcases (show w = 0 ∨ w = 1 ∨ w = 2 ∨ w = 3 by omega) with rfl | rfl | rfl | rfl
  · rfl
  · show (if t 1 < t 0 then 1 else 0) = if t 3 < t (if t 1 < t 0 then 1 else 0) then 3 else (if t 1 < t 0 then 1 else 0)
    have := h1 rfl
    by_cases q : t 1 < t 0
    · rw [if_pos q, if_neg (by omega)]
    · rw [if_neg q, if_neg (by omega)]
  · show (if t 2 < t 0 then 2 else 0) = if t 3 < t (if t 2 < t 0 then 2 else 0) then 3 else (if t 2 < t 0 then 2 else 0)
    have := h2 rfl
    by_cases q : t 2 < t 0
    · rw [if_pos q, if_neg (by omega)]
    · rw [if_neg q, if_neg (by omega)]
  · rfl
theorem f_st0y : ∀ s ∈ gs_vs, f_north (Int32.ofNat s) = 0 → ∀ r, r < 4 → ∀ b, b < 21 → f_st (Int32.ofNat b) (Int32.ofNat s) (Int32.ofNat r) 0 1 1 = 0 := by decide +kernel
theorem f_st0x : ∀ s ∈ gs_vs, f_east (Int32.ofNat s) = 0 → ∀ r, r < 4 → ∀ b, b < 21 → f_st (Int32.ofNat b) (Int32.ofNat s) (Int32.ofNat r) 2 3 0 = 0 := by decide +kernel
theorem f_nW : ∀ s ∈ gs_vs, (if f_east (Int32.ofNat s) = 0 then (if f_north (Int32.ofNat s) = 0 then (0 : Int32) ||| 0 else (0 : Int32) ||| 2) else (if f_north (Int32.ofNat s) = 0 then (1 : Int32) ||| 0 else (1 : Int32) ||| 2)) = Int32.ofNat (nW (Int32.ofNat s)) ∧ (if (Int32.ofNat s >>> ((2 : Int32) &&& 31)) = 0 then (if (Int32.ofNat s &&& (3 : Int32)) = 0 then (0 : Int32) ||| 0 else (0 : Int32) ||| 2) else (if (Int32.ofNat s &&& (3 : Int32)) = 0 then (1 : Int32) ||| 0 else (1 : Int32) ||| 2)) = Int32.ofNat (nW (Int32.ofNat s)) ∧ nW (Int32.ofNat s) < 4 ∧ (nW (Int32.ofNat s) = 1 → f_north (Int32.ofNat s) = 0) ∧ (nW (Int32.ofNat s) = 2 → f_east (Int32.ofNat s) = 0) := by decide +kernel
theorem f_and : ∀ w, w < 4 → ∀ r, r < 4 → ((Int32.ofNat w &&& Int32.ofNat r = 0) ↔ (w &&& r = 0)) ∧ ((Int32.ofNat r &&& (Int32.ofNat w ^^^ (-1 : Int32)) = 0) ↔ (r &&& (3 ^^^ w) = 0)) := by decide +kernel
theorem f_nb : ∀ r, r < 4 → f_mo (Int32.ofNat r) 16 0 0 = Int32.ofNat (nb r) := by decide +kernel
section TLL
variable {X : gs_E} {d : Nat} {m : gs_M} {T n n0 n1 n2 n5 turn price blur g c : Nat} {x y : Int32}
theorem ap_n {r : Nat} (hV : gs_GV m n0 n1 n2 g) (hP : gs_RP m T n n1) (hgt : ¬ gd m g 4 = -1) (hr : r < 4) (h1 : n1 ≤ 10) (hC : gs_CV m c) : f_apart (f_px m g r) (f_py m g r) (cd m c 0) (cd m c 1) = Int32.ofNat (ap m g c r) ∧ ap m g c r ≤ 60 := by
  obtain ⟨hv, v0, v1, -⟩ := hC
  refine f_apart_n (f_px_in hV hP hgt hr h1) ?_ (f_clip_in _) ?_
  · rw [hv 0 (by decide), i_ix, gs_n32 (by omega)]
    show (0 : Int) ≤ _ ∧ _ < (120 : Int)
    omega
  · rw [hv 1 (by decide), i_ix, gs_n32 (by omega)]
    show (0 : Int) ≤ _ ∧ _ < (60 : Int)
    omega
theorem f_best_r (hV : gs_GV m n0 n1 n2 g) : rStp (nT m price g c) (nW (gd m g 6)) 3 (rStp (nT m price g c) (nW (gd m g 6)) 2 (rStp (nT m price g c) (nW (gd m g 6)) 1 0)) = nBest (nT m price g c) (nW (gd m g 6)) := by
  obtain ⟨-, -, -, -, -, -, ⟨b, hb, eb⟩, ⟨s, hs, es⟩, -⟩ := hV
  obtain ⟨-, -, hw, w1, w2⟩ := f_nW s hs
  have e2 : nb 1 ≤ nb 3 := by decide
  have e3 : nb 2 ≤ nb 3 := by decide
  have p1 : price * nb 1 ≤ price * nb 3 := Nat.mul_le_mul_left _ e2
  have p2 : price * nb 2 ≤ price * nb 3 := Nat.mul_le_mul_left _ e3
  refine nBest_r (by rw [es]; exact hw) ?_ ?_
  · intro e
    rw [es] at e
    have ea : ap m g c 1 = ap m g c 3 := by
      unfold ap
      have ex : f_px m g 1 = f_px m g 3 := rfl
      have ey : f_py m g 1 = f_py m g 3 := by
        unfold f_py
        rw [es, eb, f_st0y s hs (w1 e) 1 (by decide) b hb, f_st0y s hs (w1 e) 3 (by decide) b hb]
      rw [ex, ey]
    unfold nT
    omega
  · intro e
    rw [es] at e
    have ea : ap m g c 2 = ap m g c 3 := by
      unfold ap
      have ex : f_py m g 2 = f_py m g 3 := rfl
      have ey : f_px m g 2 = f_px m g 3 := by
        unfold f_px
        rw [es, eb, f_st0x s hs (w2 e) 2 (by decide) b hb, f_st0x s hs (w2 e) 3 (by decide) b hb]
      rw [ex, ey]
    unfold nT
    omega
/-- all that tolls need of the state -/
def gs_To (m : gs_M) (T n n0 n1 n2 n5 turn blur price : Nat) : Prop := gs_Ga m T n n0 n1 n2 turn ∧ gs_RP m T n n1 ∧ gs_Ca m T n5 blur ∧ m.2.1 T 11 = Int32.ofNat price ∧ m.2.1 122 1 = Int32.ofNat price ∧ price < 100
theorem x_readingToll {r : Nat} (hT : gs_To m T n n0 n1 n2 n5 turn blur price) (hg : g < n) (hc : c < n5) (hgt : ¬ gd m g 4 = -1) (hr : r < 4) :
    gs_exec X (d + 3) 98 [.inr (.inr T), .inr (.inr (T + (27 + g))), .inr (.inr (T + (39 + c))), .inl (Int32.ofNat r)] m = gs_rI (Int32.ofNat (nT m price g c r)) m := by
  obtain ⟨⟨h, -, -, hn, h0, h1, h2, -, -, -, hR, -, hV⟩, hP, ⟨-, -, -, hn5, -, -, -, hRC, hCV⟩, hp, -, bp⟩ := hT
  have hc10 : c < 10 := by omega
  obtain ⟨ea, ba⟩ := ap_n (r := r) (hV g hg) hP hgt hr h1 (hCV c hc)
  obtain ⟨hv, v0, v1, -⟩ := hCV c hc
  have ix : isIx (cd m c 0) 120 := by
    rw [hv 0 (by decide), i_ix, gs_n32 (by omega)]
    show (0 : Int) ≤ _ ∧ _ < (120 : Int)
    omega
  rw [eq_X8_readingToll, fl_t0 h, x_placeX h hR (hV g hg) hP hg hn h1 hr, gs_bI_s, if_neg hgt, fl_t0 h, x_placeY h hR (hV g hg) hP hg hn h1 hr, gs_bI_s, if_neg hgt, fl_tc h hc10, fl_tc h hc10, (hRC c hc).1 0 (by decide), (hRC c hc).1 1 (by decide), x_apart (f_px_in (hV g hg) hP hgt hr h1) ix, gs_bI_s, fl_t0 h, x_bitCount, gs_bI_s, f_bc_mo r (by omega), f_nb r hr, hp, n_mul, ea, n_add]
  rfl
theorem nT_le {r : Nat} (ha : ap m g c r ≤ 60) (hp : price < 100) (hr : r < 4) : nT m price g c r ≤ 260 := by
  unfold nT
  have hb : nb r ≤ 2 := by unfold nb; omega
  have : price * nb r ≤ 99 * 2 := Nat.mul_le_mul (by omega) hb
  omega
theorem x_bestReading (hX : gs_Fu X) (hT : gs_To m T n n0 n1 n2 n5 turn blur price) (hg : g < n) (hc : c < n5) :
    gs_exec X (d + 4) 99 [.inr (.inr T), .inr (.inr (T + (27 + g))), .inr (.inr (T + (39 + c)))] m = gs_rI (if gd m g 4 = -1 then -1 else Int32.ofNat (nBest (nT m price g c) (nW (gd m g 6)))) m := by
  have hT2 := hT
  obtain ⟨⟨h, -, -, hn, h0, h1, h2, -, -, -, hR, -, hV⟩, hP, ⟨-, -, -, hn5, -, -, -, hRC, hCV⟩, hp, -, bp⟩ := hT
  have hg12 : g < 12 := by omega
  have r5 : m.2.1 (T + (27 + g)) 5 = gd m g 4 := hR g hg (5, 4) (by decide)
  rw [eq_X8_bestReading, fl_tg h hg12, r5]
  by_cases hgt : gd m g 4 = -1
  · rw [if_pos hgt, if_pos hgt]
  · rw [if_neg hgt, if_neg hgt]
    obtain ⟨s, hs, es⟩ := (hV g hg).2.2.2.2.2.2.2.1
    obtain ⟨w1, w2, w3, -, -⟩ := f_nW s hs
    obtain ⟨pe, pn⟩ := hP.2 g hg
    have ew : ∀ M : gs_M → gs_O, gs_exec X (d + 3) 24 [.inr (.inr (T + (27 + g)))] m = gs_rI (Int32.ofNat (nW (gd m g 6))) m := fun _ => by
      rw [eq_X2_waysTold]
      simp only [fl_tg h hg12, pe, pn, gs_if_rI]
      rw [es, w1]
    have at_le : ∀ r, r < 4 → nT m price g c r ≤ 260 := fun r hr => nT_le (ap_n (hV g hg) hP hgt hr h1 (hCV c hc)).2 bp hr
    have st : ∀ (F r b : Nat), 1 ≤ r → r < 4 → b < 4 → gs_iter X (gs_exec X (d + 3)) gT_X8_bestReading (F + 1) 15 [(0, .inr (.inr T)), (1, .inr (.inr (T + (27 + g)))), (2, .inr (.inr (T + (39 + c)))), (3, .inl (Int32.ofNat b)), (4, .inl (Int32.ofNat r))] [] m = gs_iter X (gs_exec X (d + 3)) gT_X8_bestReading F 15 [(0, .inr (.inr T)), (1, .inr (.inr (T + (27 + g)))), (2, .inr (.inr (T + (39 + c)))), (3, .inl (Int32.ofNat (nStp (nT m price g c) (nW (gd m g 6)) r b))), (4, .inl (Int32.ofNat (r + 1)))] [] m := by
      intro F r b hr1 hr4 hb4
      rw [eq_X8_bestReading_15, if_pos (by show _ < Int32.ofNat 4; rw [gs_nlt (by omega) (by omega)]; omega), fl_tg h hg12, ew (fun _ => gs_rU m), gs_bI_s, gs_ns]
      unfold nStp
      have hw4 : nW (gd m g 6) < 4 := by rw [es]; exact w3
      by_cases ha : nW (gd m g 6) &&& r = 0
      · rw [if_pos ((f_and _ hw4 r hr4).1.mpr ha), if_pos ha]
      · rw [if_neg (fun q => ha ((f_and _ hw4 r hr4).1.mp q)), if_neg ha, fl_t0 h, x_readingToll hT2 hg hc hgt hr4, gs_bI_s, fl_t0 h, x_readingToll hT2 hg hc hgt hb4, gs_bI_s]
        have l1 := at_le r hr4
        have l2 := at_le b hb4
        by_cases hl : nT m price g c r < nT m price g c b
        · rw [if_pos ((gs_nlt (by omega) (by omega)).mpr hl), if_pos hl]
        · rw [if_neg (fun q => hl ((gs_nlt (by omega) (by omega)).mp q)), if_neg hl]
    obtain ⟨F, hF⟩ : ∃ z, X.1 = z + 4 := ⟨X.1 - 4, by unfold gs_Fu at hX; omega⟩
    rw [hF]
    show gs_iter X (gs_exec X (d + 3)) gT_X8_bestReading (F + 3 + 1) 15 [(0, .inr (.inr T)), (1, .inr (.inr (T + (27 + g)))), (2, .inr (.inr (T + (39 + c)))), (3, .inl (Int32.ofNat 0)), (4, .inl (Int32.ofNat 1))] [] m = _
    have b1 := nStp_lt (t := nT m price g c) (w := nW (gd m g 6)) (show 1 < 4 by decide) (show 0 < 4 by decide)
    have b2 := nStp_lt (t := nT m price g c) (w := nW (gd m g 6)) (show 2 < 4 by decide) b1
    rw [st (F + 3) 1 0 (by decide) (by decide) (by decide), st (F + 2) 2 _ (by decide) (by decide) b1, st (F + 1) 3 _ (by decide) (by decide) b2, eq_X8_bestReading_15, if_neg (by decide)]
    rfl
def f_out (bf bt a b : Int32) : Int32 := if b < bf then bf - b else if bt < a then a - bt else 0
def f_pt (m : gs_M) (price g c : Nat) : Int32 := if gd m g 4 = -1 then 20 else Int32.ofNat (nT m price g c (nBest (nT m price g c) (nW (gd m g 6))))
def f_outA (m : gs_M) (blur g c : Nat) : Int32 := f_out (f_bf (cn m c 2) (cn m c 3) (cn m c 4) (cn m c 5) blur) (f_bt (cn m c 2) (cn m c 3) (cn m c 4) (cn m c 5) (cn m c 6) blur) (gd m g 1) (gd m g 13)
def f_tollA (m : gs_M) (price blur g c : Nat) : Int32 := f_pt m price g c + f_outA m blur g c / 10
theorem nBest_lt {t : Nat → Nat} {w : Nat} : nBest t w < 4 := nStp_lt (by decide) (nStp_lt (by decide) (nStp_lt (by decide) (by decide)))
theorem x_yearsOutside (h : gs_Sh m T) (hR : gs_RG m T n) (hRC : gs_RC m T n5 blur) (hg : g < n) (hn : n ≤ 12) (hc : c < n5) (hn5 : n5 ≤ 10) : gs_exec X (d + 1) 9 [.inr (.inr (T + (39 + c))), .inr (.inr (T + (27 + g)))] m = gs_rI (f_outA m blur g c) m := by
  have hg12 : g < 12 := by omega
  have hc10 : c < 10 := by omega
  have r2 : m.2.1 (T + (27 + g)) 2 = gd m g 13 := hR g hg (2, 13) (by decide)
  have r1 : m.2.1 (T + (27 + g)) 1 = gd m g 1 := hR g hg (1, 1) (by decide)
  obtain ⟨-, r9, r10⟩ := hRC c hc
  rw [eq_X0_yearsOutside]
  simp only [fl_tg h hg12, fl_tc h hc10, r1, r2, r9, r10, gs_if_rI]
  rfl
theorem x_tollOf (hX : gs_Fu X) (hT : gs_To m T n n0 n1 n2 n5 turn blur price) (hg : g < n) (hc : c < n5) :
    gs_exec X (d + 5) 100 [.inr (.inr T), .inr (.inr (T + (27 + g))), .inr (.inr (T + (39 + c)))] m = gs_rI (f_tollA m price blur g c) m := by
  have hT2 := hT
  obtain ⟨⟨h, -, -, hn, h0, h1, h2, -, -, -, hR, -, hV⟩, hP, ⟨-, -, -, hn5, -, -, -, hRC, hCV⟩, hp, -, bp⟩ := hT
  have hc10 : c < 10 := by omega
  unfold f_tollA f_pt
  rw [eq_X8_tollOf, fl_t0 h, x_bestReading hX hT2 hg hc, gs_bI_s]
  by_cases hgt : gd m g 4 = -1
  · rw [if_pos hgt, if_pos hgt, if_pos rfl, fl_tc h hc10, x_yearsOutside h hR hRC hg hn hc hn5, gs_bI_s, gs_nz_n (by decide)]
  · rw [if_neg hgt, if_neg hgt, if_neg (gs_neg1 (Nat.lt_of_lt_of_le (nBest_lt) (by decide))), fl_t0 h, x_readingToll hT2 hg hc hgt nBest_lt, gs_bI_s, fl_tc h hc10, x_yearsOutside h hR hRC hg hn hc hn5, gs_bI_s, gs_nz_n (by decide)]
/-! the reference -/
theorem r_placeToll (hX : gs_Fu X) (hT : gs_To m T n n0 n1 n2 n5 turn blur price) (hL : m.2.1 116 51 = 0) (hg : g < n) (hc : c < n5) :
    gs_exec X (d + 4) 263 [.inr (.inr 116), .inl (Int32.ofNat g), .inl (Int32.ofNat c)] m = gs_rI (f_pt m price g c) (gs_sI m 116 54 (if gd m g 4 = -1 then -1 else Int32.ofNat (nBest (nT m price g c) (nW (gd m g 6))))) := by
  obtain ⟨⟨h, -, -, hn, h0, h1, h2, -, -, -, hR, -, hV⟩, hP, ⟨-, -, -, hn5, -, -, -, hRC, hCV⟩, -, hp, bp⟩ := hT
  have hg12 : g < 12 := by omega
  have hc10 : c < 10 := by omega
  have hs : ∀ v, gs_Sh (gs_sI m 116 54 v) T := fun v => h
  have hV2 : ∀ v, gs_GV (gs_sI m 116 54 v) n0 n1 n2 g := fun v => hV g hg
  have e4 : ∀ v, gd (gs_sI m 116 54 v) g 4 = gd m g 4 := fun v => rfl
  have eL : ∀ v, (gs_sI m 116 54 v).2.1 116 51 = 0 := fun v => hL
  have i1 : ∀ v, ∀ K : Nat → gs_O, gs_ix (gs_sI m 116 54 v) 122 13 1 K = K 1 := fun v K => gs_ixe h.1 rfl rfl
  unfold f_pt
  rw [eq_X12_placeToll, fl_116 h]
  show gs_fld (gs_sI m 116 54 (-1)) 116 11 _ = _
  rw [fl_116 (hs _), r_hasGate (hs _) hg12, gs_bI_s, b2_if, e4]
  by_cases hgt : gd m g 4 = -1
  · rw [if_neg (fun q => q (by rw [hgt]; decide)), if_pos hgt, if_pos hgt]
  · have hgt2 : ¬ gd m g 4 < 0 := fun q => hgt ((f_gate (hV g hg) h1).mp q)
    rw [if_pos hgt2, if_neg hgt, if_neg hgt, fl_116 (hs _), if_pos (eL _), fl_116 (hs _), sh_116_26 (hs _), gs_nn_s, r_gx (hs _) hg12 (c := 6) (cl := 6) rfl (by decide)]
    obtain ⟨s, hsv, es⟩ := (hV g hg).2.2.2.2.2.2.2.1
    obtain ⟨w1, w2, w3, -, -⟩ := f_nW s hsv
    have es2 : (gs_sI m 116 54 (-1)).2.1 132 (16 * g + 6) = Int32.ofNat s := es
    have hw4 : nW (gd m g 6) < 4 := by rw [es]; exact w3
    have at_n : ∀ r, r < 4 → f_apart (f_px m g r) (f_py m g r) (cd m c 0) (cd m c 1) = Int32.ofNat (ap m g c r) := fun r hr => (ap_n (hV g hg) hP hgt hr h1 (hCV c hc)).1
    have at_le : ∀ r, r < 4 → nT m price g c r ≤ 260 := fun r hr => nT_le (ap_n (hV g hg) hP hgt hr h1 (hCV c hc)).2 bp hr
    have low : ∀ (F r : Nat) (v v5 : Int32), r < 4 → r &&& (3 ^^^ nW (gd m g 6)) = 0 → gs_iter X (gs_exec X (d + 3)) gT_X12_placeToll (F + 1) 103 [(0, .inr (.inr 116)), (1, .inl (Int32.ofNat g)), (2, .inl (Int32.ofNat c)), (4, .inl (Int32.ofNat (nW (gd m g 6)))), (5, .inl v5), (6, .inl (Int32.ofNat r))] [] (gs_sI m 116 54 v) = if v = -1 then gs_iter X (gs_exec X (d + 3)) gT_X12_placeToll F 103 [(0, .inr (.inr 116)), (1, .inl (Int32.ofNat g)), (2, .inl (Int32.ofNat c)), (4, .inl (Int32.ofNat (nW (gd m g 6)))), (5, .inl (Int32.ofNat (nT m price g c r))), (6, .inl (Int32.ofNat (r + 1)))] [] (gs_sI m 116 54 (Int32.ofNat r)) else if Int32.ofNat (nT m price g c r) < v5 then gs_iter X (gs_exec X (d + 3)) gT_X12_placeToll F 103 [(0, .inr (.inr 116)), (1, .inl (Int32.ofNat g)), (2, .inl (Int32.ofNat c)), (4, .inl (Int32.ofNat (nW (gd m g 6)))), (5, .inl (Int32.ofNat (nT m price g c r))), (6, .inl (Int32.ofNat (r + 1)))] [] (gs_sI m 116 54 (Int32.ofNat r)) else gs_iter X (gs_exec X (d + 3)) gT_X12_placeToll F 103 [(0, .inr (.inr 116)), (1, .inl (Int32.ofNat g)), (2, .inl (Int32.ofNat c)), (4, .inl (Int32.ofNat (nW (gd m g 6)))), (5, .inl v5), (6, .inl (Int32.ofNat (r + 1)))] [] (gs_sI m 116 54 v) := by
      intro F r v v5 hr ha
      have ex : f_px (gs_sI m 116 54 v) g r = f_px m g r := rfl
      have ey : f_py (gs_sI m 116 54 v) g r = f_py m g r := rfl
      have c0 : (gs_sI m 116 54 v).2.1 133 (9 * c + 0) = cd m c 0 := rfl
      have c1 : (gs_sI m 116 54 v).2.1 133 (9 * c + 1) = cd m c 1 := rfl
      have ep : (gs_sI m 116 54 v).2.1 122 1 = Int32.ofNat price := hp
      have e54 : (gs_sI m 116 54 v).2.1 116 54 = v := gs_sIe _ _ _ _
      have sm : ∀ z, gs_sI (gs_sI m 116 54 v) 116 54 z = gs_sI m 116 54 z := fun z => gs_sI_same _ _ _ _ _
      rw [eq_X12_placeToll_103, if_pos (by show _ < Int32.ofNat 4; rw [gs_nlt (by omega) (by omega)]; omega), if_pos ((f_and _ hw4 r hr).2.mpr ha)]
      simp only [fl_116 (hs _), r_placeX (hs _) (hV2 v) hg12 h1 (show ¬ gd (gs_sI m 116 54 v) g 4 = -1 from hgt), r_placeY (hs _) (hV2 v) hg12 h1 (show ¬ gd (gs_sI m 116 54 v) g 4 = -1 from hgt), gs_bI_s, sh_116_27 (hs _), gs_nn_s, r_cx0 (hs _) hc10, r_cx (hs _) hc10 (i := 1) (il := 1) rfl (by decide), r_apart, sh_116_15 (hs _), i1, r_manyOf hX, ex, ey, c0, c1, ep, e54, sm, at_n r hr, f_nb r hr, n_mul, n_add, gs_ns]
      rfl
    have st : ∀ (F r b : Nat), 1 ≤ r → r < 4 → b < 4 → gs_iter X (gs_exec X (d + 3)) gT_X12_placeToll (F + 1) 103 [(0, .inr (.inr 116)), (1, .inl (Int32.ofNat g)), (2, .inl (Int32.ofNat c)), (4, .inl (Int32.ofNat (nW (gd m g 6)))), (5, .inl (Int32.ofNat (nT m price g c b))), (6, .inl (Int32.ofNat r))] [] (gs_sI m 116 54 (Int32.ofNat b)) = gs_iter X (gs_exec X (d + 3)) gT_X12_placeToll F 103 [(0, .inr (.inr 116)), (1, .inl (Int32.ofNat g)), (2, .inl (Int32.ofNat c)), (4, .inl (Int32.ofNat (nW (gd m g 6)))), (5, .inl (Int32.ofNat (nT m price g c (rStp (nT m price g c) (nW (gd m g 6)) r b)))), (6, .inl (Int32.ofNat (r + 1)))] [] (gs_sI m 116 54 (Int32.ofNat (rStp (nT m price g c) (nW (gd m g 6)) r b))) := by
      intro F r b hr1 hr4 hb4
      have l1 := at_le r hr4
      have l2 := at_le b hb4
      unfold rStp
      by_cases ha : r &&& (3 ^^^ nW (gd m g 6)) = 0
      · rw [low F r _ _ hr4 ha, if_neg (gs_neg1 (by omega)), if_pos ha]
        by_cases hl : nT m price g c r < nT m price g c b
        · rw [if_pos ((gs_nlt (by omega) (by omega)).mpr hl), if_pos hl]
        · rw [if_neg (fun q => hl ((gs_nlt (by omega) (by omega)).mp q)), if_neg hl]
      · rw [eq_X12_placeToll_103, if_pos (by show _ < Int32.ofNat 4; rw [gs_nlt (by omega) (by omega)]; omega), if_neg (fun q => ha ((f_and _ hw4 r hr4).2.mp q)), if_neg ha, gs_ns]
    obtain ⟨F, hF⟩ : ∃ z, X.1 = z + 5 := ⟨X.1 - 5, by unfold gs_Fu at hX; omega⟩
    have b1 := rStp_lt (t := nT m price g c) (w := nW (gd m g 6)) (show 1 < 4 by decide) (show 0 < 4 by decide)
    have b2 := rStp_lt (t := nT m price g c) (w := nW (gd m g 6)) (show 2 < 4 by decide) b1
    have fin : gs_iter X (gs_exec X (d + 3)) gT_X12_placeToll X.1 103 [(0, .inr (.inr 116)), (1, .inl (Int32.ofNat g)), (2, .inl (Int32.ofNat c)), (4, .inl (Int32.ofNat (nW (gd m g 6)))), (5, .inl 0), (6, .inl 0)] [] (gs_sI m 116 54 (-1)) = gs_rI (Int32.ofNat (nT m price g c (nBest (nT m price g c) (nW (gd m g 6))))) (gs_sI m 116 54 (Int32.ofNat (nBest (nT m price g c) (nW (gd m g 6))))) := by
      rw [hF, show (0 : Int32) = Int32.ofNat 0 from rfl, low (F + 4) 0 _ _ (by decide) (Nat.zero_and _), if_pos rfl, st (F + 3) 1 0 (by decide) (by decide) (by decide), st (F + 2) 2 _ (by decide) (by decide) b1, st (F + 1) 3 _ (by decide) (by decide) b2, eq_X12_placeToll_103, if_neg (by decide), f_best_r (hV g hg)]
    rw [es2]
    rw [es] at fin ⊢
    rw [← w2] at fin
    by_cases z1 : (Int32.ofNat s >>> ((2 : Int32) &&& 31)) = 0
    · rw [if_pos z1] at fin ⊢
      by_cases z2 : (Int32.ofNat s &&& (3 : Int32)) = 0
      · rw [if_pos z2] at fin ⊢
        exact fin
      · rw [if_neg z2] at fin ⊢
        exact fin
    · rw [if_neg z1] at fin ⊢
      by_cases z2 : (Int32.ofNat s &&& (3 : Int32)) = 0
      · rw [if_pos z2] at fin ⊢
        exact fin
      · rw [if_neg z2] at fin ⊢
        exact fin
theorem wr_ga {m' : gs_M} (hG : gs_Ga m T n n0 n1 n2 turn) (hW : gs_Wr m m') : gs_Ga m' T n n0 n1 n2 turn := by
  obtain ⟨h, h2, h3, h4, h5, h6, h7, h8, h9, h10, h11, h12, h13⟩ := hG
  have eT : m'.2.1 T = m.2.1 T := wr_t h hW 0 (by decide)
  have c : ∀ x, x < 142 → (x ≠ 116 ∧ x ≠ 0 ∧ x ≠ 35 ∧ x ≠ 84) → m'.2.1 x = m.2.1 x := fun x hx hx2 => wr_cell hW x hx2 (Or.inl hx)
  refine ⟨wr_sh h hW, by rw [eT]; exact h2, by rw [c 119 (by decide) (by decide)]; exact h3, h4, h5, h6, h7, by rw [eT]; exact h8, by rw [c 122 (by decide) (by decide)]; exact h9, h10, fun g hg p hp => ?_, fun k hk => ?_, fun g hg => ?_⟩
  · have q := h11 g hg p hp
    unfold gd at q ⊢
    rw [wr_t h hW (27 + g) (by omega), c 132 (by decide) (by decide)]
    exact q
  · have q := h12 k hk
    rw [wr_t h hW 2 (by decide), wr_t h hW 3 (by decide), wr_t h hW 4 (by decide), c 124 (by decide) (by decide), c 125 (by decide) (by decide), c 126 (by decide) (by decide)]
    exact q
  · have q := h13 g hg
    unfold gs_GV gd at q ⊢
    rw [c 132 (by decide) (by decide)]
    exact q
theorem wr_rp {m' : gs_M} (h : gs_Sh m T) (hn : n ≤ 12) (hP : gs_RP m T n n1) (hW : gs_Wr m m') : gs_RP m' T n n1 := by
  have c : ∀ x, x < 142 → (x ≠ 116 ∧ x ≠ 0 ∧ x ≠ 35 ∧ x ≠ 84) → m'.2.1 x = m.2.1 x := fun x hx hx2 => wr_cell hW x hx2 (Or.inl hx)
  refine ⟨fun k hk => ?_, fun g hg => ?_⟩
  · have q := hP.1 k hk
    rw [wr_t h hW 6 (by decide), wr_t h hW 7 (by decide), wr_t h hW 8 (by decide), c 127 (by decide) (by decide), c 128 (by decide) (by decide), c 129 (by decide) (by decide)]
    exact q
  · have q := hP.2 g hg
    unfold gd at q ⊢
    rw [wr_t h hW (27 + g) (by omega), c 132 (by decide) (by decide)]
    exact q
theorem wr_to {m' : gs_M} (hT : gs_To m T n n0 n1 n2 n5 turn blur price) (hW : gs_Wr m m') : gs_To m' T n n0 n1 n2 n5 turn blur price := by
  obtain ⟨hG, hP, hC, h1, h2, h3⟩ := hT
  refine ⟨wr_ga hG hW, wr_rp hG.1 hG.2.2.2.1 hP hW, wr_ca hC hW, ?_, ?_, h3⟩
  · rw [show m'.2.1 T = m.2.1 T from wr_t hG.1 hW 0 (by decide)]; exact h1
  · rw [wr_cell hW 122 (by decide) (by decide)]; exact h2
theorem wr_nT {m' : gs_M} (hW : gs_Wr m m') : nT m' price g c = nT m price g c := funext fun r => by
  unfold nT ap f_px f_py gd cd
  rw [wr_cell hW 128 (by decide) (by decide), wr_cell hW 129 (by decide) (by decide), wr_cell hW 132 (by decide) (by decide), wr_cell hW 133 (by decide) (by decide)]
theorem wr_gd {m' : gs_M} (hW : gs_Wr m m') (g i : Nat) : gd m' g i = gd m g i := by
  unfold gd
  rw [wr_cell hW 132 (by decide) (by decide)]
theorem wr_pt {m' : gs_M} (hW : gs_Wr m m') : f_pt m' price g c = f_pt m price g c := by
  unfold f_pt
  rw [wr_nT hW, wr_gd hW, wr_gd hW]
theorem wr_outA {m' : gs_M} (hW : gs_Wr m m') : f_outA m' blur g c = f_outA m blur g c := by
  unfold f_outA cn cd
  rw [wr_gd hW, wr_gd hW, wr_cell hW 133 (by decide) (by decide)]
theorem wr_tollA {m' : gs_M} (hW : gs_Wr m m') : f_tollA m' price blur g c = f_tollA m price blur g c := by
  unfold f_tollA
  rw [wr_pt hW, wr_outA hW]
theorem gs_rs54 : gs_rs 116 54 := Or.inl ⟨rfl, by decide, by decide, by decide, by decide, by decide, by decide⟩
theorem r_tollOf (hX : gs_Fu X) (hT : gs_To m T n n0 n1 n2 n5 turn blur price) (hL : m.2.1 116 51 = 0) (hg : g < n) (hc : c < n5) :
    ∃ M, gs_exec X (d + 5) 264 [.inr (.inr 116), .inl (Int32.ofNat g), .inl (Int32.ofNat c)] m = gs_rI (f_tollA m price blur g c) M ∧ gs_Wr m M := by
  have hn : n ≤ 12 := hT.1.2.2.2.1
  have hg12 : g < 12 := by omega
  obtain ⟨h, -, -, hn5, -, e3, bb, -, hCV⟩ := hT.2.2.1
  have hc10 : c < 10 := by omega
  obtain ⟨M, eM, hM, l49, l50, -⟩ := r_layCloud (d := d + 1) hX h hc10 (hCV c hc) e3 bb
  have hT2 := wr_to hT hM
  have h2 := wr_sh h hM
  have hL2 : M.2.1 116 51 = 0 := (hM.2.2 116 51 (fun q => by unfold gs_rs at q; omega)).trans hL
  refine ⟨gs_sI M 116 54 (if gd M g 4 = -1 then -1 else Int32.ofNat (nBest (nT M price g c) (nW (gd M g 6)))), ?_, wr_sI hM gs_rs54⟩
  have g1 : M.2.1 132 (16 * g + 1) = gd m g 1 := wr_gd hM g 1
  have g13 : M.2.1 132 (16 * g + 13) = gd m g 13 := wr_gd hM g 13
  rw [eq_X12_tollOf, fl_116 h, eM, gs_bU_s]
  simp only [fl_116 h2, sh_116_26 h2, gs_nn_s, r_gx h2 hg12 (c := 1) (cl := 1) rfl (by decide), r_gx h2 hg12 (c := 13) (cl := 13) rfl (by decide), g1, g13, l49, l50, r_placeToll hX hT2 hL2 hg hc, gs_bI_s, gs_nz_n (show (10 : Int32) ≠ 0 by decide), wr_pt hM]
  unfold f_tollA f_outA f_out
  split
  · rfl
  · split <;> rfl
def f_toll (m : gs_M) (price blur : Nat) (n n5 x y : Int32) : Int32 := if isIx x n then (if isIx y n5 then f_tollA m price blur x.toInt.toNat y.toInt.toNat else -1) else -1
def f_reading (m : gs_M) (price : Nat) (n n5 x y : Int32) : Int32 := if isIx x n then (if isIx y n5 then (if gd m x.toInt.toNat 4 = -1 then -1 else Int32.ofNat (nBest (nT m price x.toInt.toNat y.toInt.toNat) (nW (gd m x.toInt.toNat 6)))) else -1) else -1
theorem x_toll (hX : gs_Fu X) (hT : gs_To m T n n0 n1 n2 n5 turn blur price) : gs_exec X (d + 6) 131 [.inr (.inr 0), .inl x, .inl y] m = gs_rI (f_toll m price blur (Int32.ofNat n) (Int32.ofNat n5) x y) m := by
  have hT2 := hT
  obtain ⟨⟨h, hn3, -, hn, -⟩, -, ⟨-, hn9, -, hn5, -⟩, -⟩ := hT
  unfold f_toll
  rw [eq_X11_toll, fl_0 h, x_isGuest h, gs_bI_s, b2_if, hn3]
  by_cases hc : isIx x (Int32.ofNat n)
  · rw [if_pos hc, if_pos hc, fl_0 h, x_isCloud h, gs_bI_s, b2_if, hn9]
    by_cases hc2 : isIx y (Int32.ofNat n5)
    · rw [if_pos hc2, if_pos hc2]
      obtain ⟨g, hg, rfl, eg⟩ := i_gst hc hn
      obtain ⟨c, hc5, rfl, ec⟩ := i_gst hc2 (by omega)
      rw [eg, ec]
      simp only [fl_0 h, sh_told h, gs_nn_s, fl_t0 h, sh_t0_6 h, sh_t0_7 h, x_gx h (show g < 12 by omega), sh_guest h (show g < 12 by omega), x_cx h (show c < 10 by omega), sh_cloud h (show c < 10 by omega), x_tollOf hX hT2 hg hc5, gs_bI_s]
    · rw [if_neg hc2, if_neg hc2]
  · rw [if_neg hc, if_neg hc]
theorem x_reading (hX : gs_Fu X) (hT : gs_To m T n n0 n1 n2 n5 turn blur price) : gs_exec X (d + 6) 132 [.inr (.inr 0), .inl x, .inl y] m = gs_rI (f_reading m price (Int32.ofNat n) (Int32.ofNat n5) x y) m := by
  have hT2 := hT
  obtain ⟨⟨h, hn3, -, hn, -⟩, -, ⟨-, hn9, -, hn5, -⟩, -⟩ := hT
  unfold f_reading
  rw [eq_X11_reading, fl_0 h, x_isGuest h, gs_bI_s, b2_if, hn3]
  by_cases hc : isIx x (Int32.ofNat n)
  · rw [if_pos hc, if_pos hc, fl_0 h, x_isCloud h, gs_bI_s, b2_if, hn9]
    by_cases hc2 : isIx y (Int32.ofNat n5)
    · rw [if_pos hc2, if_pos hc2]
      obtain ⟨g, hg, rfl, eg⟩ := i_gst hc hn
      obtain ⟨c, hc5, rfl, ec⟩ := i_gst hc2 (by omega)
      rw [eg, ec]
      simp only [fl_0 h, sh_told h, gs_nn_s, fl_t0 h, sh_t0_6 h, sh_t0_7 h, x_gx h (show g < 12 by omega), sh_guest h (show g < 12 by omega), x_cx h (show c < 10 by omega), sh_cloud h (show c < 10 by omega), x_bestReading hX hT2 hg hc5, gs_bI_s]
    · rw [if_neg hc2, if_neg hc2]
  · rw [if_neg hc, if_neg hc]
theorem r_toll (hX : gs_Fu X) (hT : gs_To m T n n0 n1 n2 n5 turn blur price) (hL : m.2.1 116 51 = 0) : ∃ M, gs_exec X (d + 6) 265 [.inr (.inr 116), .inl x, .inl y] m = gs_rI (f_toll m price blur (Int32.ofNat n) (Int32.ofNat n5) x y) M ∧ gs_Wr m M := by
  have hW : gs_Wr m (gs_sI m 116 2 0) := wr_thr
  have hT2 := wr_to hT hW
  have hs := hT2.1.1
  have e3 := hT2.1.2.2.1
  have e5 := hT2.2.2.1.2.2.1
  have h := hT.1.1
  unfold f_toll
  rw [eq_X12_toll, fl_116 h]
  show ∃ M, gs_fld (gs_sI m 116 2 0) 116 11 _ = _ ∧ _
  rw [fl_116 hs, r_isGuest hs, gs_bI_s, b2_if, e3]
  by_cases hc : isIx x (Int32.ofNat n)
  · rw [if_pos hc, if_pos hc, fl_116 hs, r_isCloud hs, gs_bI_s, b2_if, e5]
    by_cases hc2 : isIx y (Int32.ofNat n5)
    · rw [if_pos hc2, if_pos hc2]
      obtain ⟨g, hg, rfl, eg⟩ := i_gst hc hT.1.2.2.2.1
      obtain ⟨c, hc5, rfl, ec⟩ := i_gst hc2 (Nat.le_trans hT.2.2.1.2.2.2.1 (by decide))
      obtain ⟨M, eM, hM⟩ := r_tollOf (d := d) hX hT2 hL hg hc5
      rw [eg, ec, fl_116 hs, eM, gs_bI_s, wr_tollA hW]
      exact ⟨M, rfl, wr_trans hW hM⟩
    · rw [if_neg hc2, if_neg hc2]
      exact ⟨_, rfl, hW⟩
  · rw [if_neg hc, if_neg hc]
    exact ⟨_, rfl, hW⟩
theorem r_reading (hX : gs_Fu X) (hT : gs_To m T n n0 n1 n2 n5 turn blur price) (hL : m.2.1 116 51 = 0) : ∃ M, gs_exec X (d + 6) 266 [.inr (.inr 116), .inl x, .inl y] m = gs_rI (f_reading m price (Int32.ofNat n) (Int32.ofNat n5) x y) M ∧ gs_Wr m M := by
  have hW : gs_Wr m (gs_sI m 116 2 0) := wr_thr
  have hT2 := wr_to hT hW
  have hs := hT2.1.1
  have e3 := hT2.1.2.2.1
  have e5 := hT2.2.2.1.2.2.1
  have h := hT.1.1
  unfold f_reading
  rw [eq_X12_reading, fl_116 h]
  show ∃ M, gs_fld (gs_sI m 116 2 0) 116 11 _ = _ ∧ _
  rw [fl_116 hs, r_isGuest hs, gs_bI_s, b2_if, e3]
  by_cases hc : isIx x (Int32.ofNat n)
  · rw [if_pos hc, if_pos hc, fl_116 hs, r_isCloud hs, gs_bI_s, b2_if, e5]
    by_cases hc2 : isIx y (Int32.ofNat n5)
    · rw [if_pos hc2, if_pos hc2]
      obtain ⟨g, hg, rfl, eg⟩ := i_gst hc hT.1.2.2.2.1
      obtain ⟨c, hc5, rfl, ec⟩ := i_gst hc2 (Nat.le_trans hT.2.2.1.2.2.2.1 (by decide))
      rw [eg, ec, fl_116 hs, r_placeToll hX hT2 hL hg hc5, gs_bI_s]
      have hs2 : gs_Sh (gs_sI (gs_sI m 116 2 0) 116 54 (if gd (gs_sI m 116 2 0) g 4 = -1 then -1 else Int32.ofNat (nBest (nT (gs_sI m 116 2 0) price g c) (nW (gd (gs_sI m 116 2 0) g 6))))) T := hs
      rw [fl_116 hs2, gs_sIe, wr_nT hW]
      exact ⟨_, rfl, wr_sI hW gs_rs54⟩
    · rw [if_neg hc2, if_neg hc2]
      exact ⟨_, rfl, hW⟩
  · rw [if_neg hc, if_neg hc]
    exact ⟨_, rfl, hW⟩
end TLL
