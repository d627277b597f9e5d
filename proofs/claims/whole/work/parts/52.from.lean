/-! one asked; books; shares of the watches. -/
section FRM
variable {X : gs_E} {d : Nat} {m : gs_M} {T n n0 n1 n2 n7 turn g k : Nat} {x y w : Int32}
def f_one (m : gs_M) (turn : Nat) (n x y : Int32) : Int32 := if isIx x n then (if isIx y n then (if x = y then -1 else f_oneA m turn x.toInt.toNat y.toInt.toNat) else -1) else -1
theorem f_i01 {p : Prop} [Decidable p] {a b : Int32} (ha : a = 0 ∨ a = 1) (hb : b = 0 ∨ b = 1) : (if p then a else b) = 0 ∨ (if p then a else b) = 1 := by
  by_cases h : p
  · rw [if_pos h]; exact ha
  · rw [if_neg h]; exact hb
theorem f_gates01 {a b : Nat} {s : Int32} : f_gates m a b s = 0 ∨ f_gates m a b s = 1 :=
  f_i01 (Or.inl rfl) (f_i01 (Or.inr rfl) (f_i01 (Or.inr rfl) (f_i01 (Or.inl rfl) (Or.inr rfl))))
theorem f_oneA01 {a b : Nat} : f_oneA m turn a b = 0 ∨ f_oneA m turn a b = 1 :=
  f_i01 (Or.inl rfl) (f_i01 (Or.inl rfl) (f_i01 f_gates01 (Or.inl rfl)))
theorem f_01 {v : Int32} (h : v = 0 ∨ v = 1) (m : gs_M) : (if v = 0 then gs_rI 0 m else gs_rI 1 m) = gs_rI v m := by
  rcases h with rfl | rfl <;> rfl
theorem x_one (hX : gs_Fu X) (hG : gs_Ga m T n n0 n1 n2 turn) (hP : gs_RP m T n n1) : gs_exec X (d + 5) 135 [.inr (.inr 0), .inl x, .inl y] m = gs_rI (f_one m turn (Int32.ofNat n) x y) m := by
  have hG2 := hG
  obtain ⟨h, hn3, -, hn, h0, h1, h2, ht, -, bt, hR, hRR, hV⟩ := hG
  unfold f_one
  rw [eq_X11_one, fl_0 h, x_isGuest h, gs_bI_s, b2_if, hn3]
  by_cases hc : isIx x (Int32.ofNat n)
  · rw [if_pos hc, if_pos hc, fl_0 h, x_isGuest h, gs_bI_s, b2_if, hn3]
    by_cases hc2 : isIx y (Int32.ofNat n)
    · rw [if_pos hc2, if_pos hc2]
      by_cases he : x = y
      · rw [if_pos he, if_pos he]
      · rw [if_neg he, if_neg he]
        obtain ⟨g, hg, rfl, eg⟩ := i_gst hc hn
        obtain ⟨g2, hg2, rfl, eg2⟩ := i_gst hc2 hn
        rw [eg, eg2]
        simp only [fl_0 h, sh_told h, gs_nn_s, fl_t0 h, sh_t0_6 h, x_gx h (show g < 12 by omega), sh_guest h (show g < 12 by omega), x_gx h (show g2 < 12 by omega), sh_guest h (show g2 < 12 by omega), x_areOne hX hG2 hP hg hg2, gs_bI_s]
        exact f_01 f_oneA01 m
    · rw [if_neg hc2, if_neg hc2]
  · rw [if_neg hc, if_neg hc]
theorem r_one (hX : gs_Fu X) (hG : gs_Ga m T n n0 n1 n2 turn) : gs_exec X (d + 5) 275 [.inr (.inr 116), .inl x, .inl y] m = gs_rI (f_one m turn (Int32.ofNat n) x y) (gs_sI m 116 2 0) := by
  have hs := (gs_Ga_thr (x := 0) hG).1
  obtain ⟨-, -, e3, -, -, -, -, -, e9, -, -, hRR2, hV2⟩ := gs_Ga_thr (x := 0) hG
  obtain ⟨h, -, -, hn, h0, h1, h2, -, ht, bt, hR, hRR, hV⟩ := hG
  unfold f_one
  rw [eq_X12_one, fl_116 h]
  show gs_fld (gs_sI m 116 2 0) 116 11 _ = _
  rw [fl_116 hs, r_isGuest hs, gs_bI_s, b2_if, e3]
  by_cases hc : isIx x (Int32.ofNat n)
  · rw [if_pos hc, if_pos hc, fl_116 hs, r_isGuest hs, gs_bI_s, b2_if, e3]
    by_cases hc2 : isIx y (Int32.ofNat n)
    · rw [if_pos hc2, if_pos hc2]
      by_cases he : x = y
      · rw [if_pos he, if_pos he]
      · rw [if_neg he, if_neg he, fl_116 hs]
        obtain ⟨g, hg, rfl, eg⟩ := i_gst hc hn
        obtain ⟨g2, hg2, rfl, eg2⟩ := i_gst hc2 hn
        have eO : f_oneA (gs_sI m 116 2 0) turn g g2 = f_oneA m turn g g2 := rfl
        rw [eg, eg2, r_isOne hX hs hV2 hn h0 h1 e9 bt hg hg2, gs_bI_s, eO]
        exact f_01 f_oneA01 _
    · rw [if_neg hc2, if_neg hc2]
  · rw [if_neg hc, if_neg hc]
/-! books -/
/-- the class's books are the reference's; each was copied from one told before -/
def gs_RB (m : gs_M) (T n2 : Nat) : Prop := ∀ k, k < n2 → m.2.1 (T + 10) k = m.2.1 130 k ∧ m.2.1 (T + 11) k = m.2.1 131 k ∧ isO (m.2.1 131 k) k
def f_fr (f : Nat → Int32) (o : Int32) : Nat → Nat → Int32
  | 0, _ => 0
  | q + 1, k => if f k = -1 then 0 else if f k = o then 1 else f_fr f o q (f k).toInt.toNat
theorem f_fr_s (f : Nat → Int32) (o : Int32) (q k : Nat) : f_fr f o (q + 1) k = if f k = -1 then 0 else if f k = o then 1 else f_fr f o q (f k).toInt.toNat := rfl
theorem x_copy_loop {o : Nat} (h : gs_Sh m T) (hB : gs_RB m T n2) (h2 : n2 ≤ 8) (ho : o < 8) : ∀ (q k v F : Nat), k < n2 → k < q → v + q = 8 → q < F →
    gs_iter X (gs_exec X d) gT_X8_isCopyOf F 5 [(0, .inr (.inr T)), (2, .inl (Int32.ofNat o)), (3, .inl (Int32.ofNat k)), (4, .inl (Int32.ofNat v))] [] m = gs_rI (f_fr (m.2.1 131) (Int32.ofNat o) q k) m := by
  intro q
  induction q with
  | zero => intro k v F hk hq; omega
  | succ q ih =>
    intro k v F hk hq hv hF
    obtain ⟨F, rfl⟩ : ∃ z, F = z + 2 := ⟨F - 2, by omega⟩
    obtain ⟨-, e11, hO⟩ := hB k hk
    rw [eq_X8_isCopyOf_5, if_pos (by show _ < Int32.ofNat 8; rw [gs_nlt (by omega) (by omega)]; omega), if_neg (gs_neg1 (by omega)), fl_t0 h, sh_t0_2 h, gs_nn_s, fl_t9 h, sh_t9_1 h, gs_nn_s, ar_t h 11 13 8 (by decide) (show k < 8 by omega), e11, f_fr_s]
    rcases hO with hO | ⟨j, hj, ej⟩
    · rw [hO, if_neg (show ¬ (-1 : Int32) = Int32.ofNat o from fun q => gs_neg1 (show o < 2147483648 by omega) q.symm), if_pos rfl, gs_ns, eq_X8_isCopyOf_5]
      split
      · rw [if_pos rfl]; rfl
      · rfl
    · rw [ej, if_neg (gs_neg1 (show j < 2147483648 by omega))]
      by_cases hjo : Int32.ofNat j = Int32.ofNat o
      · rw [if_pos hjo, if_pos hjo]; rfl
      · rw [if_neg hjo, if_neg hjo, gs_ns, ih j (v + 1) (F + 1) (by omega) (by omega) (by omega) (by omega), f_nat (rfl : Int32.ofNat j = Int32.ofNat j) (by omega)]
theorem r_from_loop {o : Nat} (h : gs_Sh m T) (hB : ∀ k, k < n2 → isO (m.2.1 131 k) k) (h2 : n2 ≤ 8) (ho : o < 8) : ∀ (q k F : Nat), k < n2 → k < q → q < F →
    gs_iter X (gs_exec X d) gT_X12_isFrom F 7 [(0, .inr (.inr 116)), (2, .inl (Int32.ofNat o)), (3, .inl (m.2.1 131 k))] [] m = gs_rI (f_fr (m.2.1 131) (Int32.ofNat o) q k) m := by
  intro q
  induction q with
  | zero => intro k F hk hq; omega
  | succ q ih =>
    intro k F hk hq hF
    obtain ⟨F, rfl⟩ : ∃ z, F = z + 1 := ⟨F - 1, by omega⟩
    rw [eq_X12_isFrom_7, f_fr_s]
    rcases hB k hk with hO | ⟨j, hj, ej⟩
    · rw [hO, if_pos (show (-1 : Int32) < 0 by decide), if_pos (show (-1 : Int32) < 0 by decide), if_pos rfl]; rfl
    · rw [ej, if_neg (gs_nneg (show j < 2147483648 by omega)), if_neg (gs_neg1 (show j < 2147483648 by omega))]
      by_cases hjo : Int32.ofNat j = Int32.ofNat o
      · rw [if_pos hjo, if_pos hjo, if_neg (gs_nneg (show j < 2147483648 by omega))]; rfl
      · rw [if_neg hjo, if_neg hjo, fl_116 h, sh_116_25 h, gs_nn_s, gs_ixn h.1 (show gs_ok 131 13 153 = true from rfl) (show j < 16 by omega), ih j F (by omega) (by omega) (by omega), f_nat (rfl : Int32.ofNat j = Int32.ofNat j) (by omega)]
theorem x_isCopyOf {o : Nat} (hX : gs_Fu X) (h : gs_Sh m T) (hB : gs_RB m T n2) (h2 : n2 ≤ 8) (ho : o < 8) (hk : k < n2) : gs_exec X (d + 1) 104 [.inr (.inr T), .inl (Int32.ofNat k), .inl (Int32.ofNat o)] m = gs_rI (f_fr (m.2.1 131) (Int32.ofNat o) 8 k) m := by
  rw [eq_X8_isCopyOf]
  exact x_copy_loop h hB h2 ho 8 k 0 X.1 hk (by omega) rfl (by unfold gs_Fu at hX; omega)
theorem r_isFrom {o : Nat} (hX : gs_Fu X) (h : gs_Sh m T) (hB : ∀ k, k < n2 → isO (m.2.1 131 k) k) (h2 : n2 ≤ 8) (ho : o < 8) (hk : k < n2) : gs_exec X (d + 1) 282 [.inr (.inr 116), .inl (Int32.ofNat k), .inl (Int32.ofNat o)] m = gs_rI (f_fr (m.2.1 131) (Int32.ofNat o) 8 k) m := by
  rw [eq_X12_isFrom, fl_116 h, sh_116_25 h, gs_nn_s, gs_ixn h.1 (show gs_ok 131 13 153 = true from rfl) (show k < 16 by omega)]
  exact r_from_loop h hB h2 ho 8 k X.1 hk (by omega) (by unfold gs_Fu at hX; omega)
/-! shares -/
def gs_RW (m : gs_M) (T n7 : Nat) : Prop := ∀ k, k < n7 → m.2.1 (T + 22) k = m.2.1 138 (3 * k) ∧ m.2.1 (T + 23) k = m.2.1 138 (3 * k + 1) ∧ m.2.1 (T + 24) k = m.2.1 138 (3 * k + 2)
def f_sh (f : Nat → Int32) (y : Int32) : Nat → Nat → Int32 → Int32
  | 0, _, v => v
  | q + 1, k, v => if isBt y (f (3 * k)) (f (3 * k + 1)) then (if v < f (3 * k + 2) then f_sh f y q (k + 1) (f (3 * k + 2)) else f_sh f y q (k + 1) v) else f_sh f y q (k + 1) v
theorem f_sh_s (f : Nat → Int32) (y : Int32) (q k : Nat) (v : Int32) : f_sh f y (q + 1) k v = if isBt y (f (3 * k)) (f (3 * k + 1)) then (if v < f (3 * k + 2) then f_sh f y q (k + 1) (f (3 * k + 2)) else f_sh f y q (k + 1) v) else f_sh f y q (k + 1) v := rfl
theorem x_share_loop (h : gs_Sh m T) (hW : gs_RW m T n7) (h7 : n7 ≤ 6) (hn : m.2.1 (T + 21) 3 = Int32.ofNat n7) : ∀ (q k F : Nat) (v : Int32), k + q = n7 → q < F →
    gs_iter X (gs_exec X d) gT_X10_shareOf F 4 [(0, .inr (.inr (T + 21))), (1, .inl y), (2, .inl v), (3, .inl (Int32.ofNat k))] [] m = gs_rI (f_sh (m.2.1 138) y q k v) m := by
  intro q
  induction q with
  | zero =>
    intro k F v hk hF
    obtain ⟨F, rfl⟩ : ∃ z, F = z + 1 := ⟨F - 1, by omega⟩
    rw [eq_X10_shareOf_4, fl_t21 h, hn, if_neg (by rw [gs_nlt (by omega) (by omega)]; omega)]
    rfl
  | succ q ih =>
    intro k F v hk hF
    obtain ⟨F, rfl⟩ : ∃ z, F = z + 1 := ⟨F - 1, by omega⟩
    obtain ⟨w0, w1, w2⟩ := hW k (by omega)
    rw [eq_X10_shareOf_4, fl_t21 h, hn, if_pos (by rw [gs_nlt (by omega) (by omega)]; omega)]
    simp only [fl_t21 h, sh_t21_0 h, sh_t21_1 h, sh_t21_2 h, gs_nn_s, ar_t h 22 13 6 (by decide) (show k < 6 by omega), ar_t h 23 13 6 (by decide) (show k < 6 by omega), ar_t h 24 13 6 (by decide) (show k < 6 by omega), w0, w1, w2, gs_ns]
    rw [ih (k + 1) F v (by omega) (by omega), ih (k + 1) F _ (by omega) (by omega), f_sh_s]
    by_cases a1 : y < m.2.1 138 (3 * k)
    · rw [if_pos a1, if_neg (show ¬ isBt y (m.2.1 138 (3 * k)) (m.2.1 138 (3 * k + 1)) from fun q => q.1 a1)]
    · rw [if_neg a1]
      by_cases a2 : m.2.1 138 (3 * k + 1) < y
      · rw [if_pos a2, if_neg (show ¬ isBt y (m.2.1 138 (3 * k)) (m.2.1 138 (3 * k + 1)) from fun q => q.2 a2)]
      · rw [if_neg a2, if_pos (show isBt y (m.2.1 138 (3 * k)) (m.2.1 138 (3 * k + 1)) from ⟨a1, a2⟩), gs_if_rI]
theorem r_share_loop (h : gs_Sh m T) (h7 : n7 ≤ 6) (hn : m.2.1 119 7 = Int32.ofNat n7) : ∀ (q k F : Nat) (v : Int32), k + q = n7 → q < F →
    gs_iter X (gs_exec X (d + 1)) gT_X12_shareOf F 4 [(0, .inr (.inr 116)), (1, .inl y), (2, .inl v), (3, .inl (Int32.ofNat k))] [] m = gs_rI (f_sh (m.2.1 138) y q k v) m := by
  have i7 : ∀ K : Nat → gs_O, gs_ix m 119 13 7 K = K 7 := fun K => gs_ixe h.1 rfl rfl
  intro q
  induction q with
  | zero =>
    intro k F v hk hF
    obtain ⟨F, rfl⟩ : ∃ z, F = z + 1 := ⟨F - 1, by omega⟩
    rw [eq_X12_shareOf_4, fl_116 h, sh_116_12 h, gs_nn_s, i7, hn, if_neg (by rw [gs_nlt (by omega) (by omega)]; omega)]
    rfl
  | succ q ih =>
    intro k F v hk hF
    obtain ⟨F, rfl⟩ : ∃ z, F = z + 1 := ⟨F - 1, by omega⟩
    have j0 : ∀ K : Nat → gs_O, gs_ix m 138 13 ((3 : Int32) * Int32.ofNat k) K = K (3 * k) := fun K => by
      show gs_ix m 138 13 (Int32.ofNat 3 * Int32.ofNat k) K = _
      rw [n_mul]
      exact gs_ixn h.1 rfl (by show _ < 36; omega)
    have j1 : ∀ K : Nat → gs_O, gs_ix m 138 13 ((3 : Int32) * Int32.ofNat k + 1) K = K (3 * k + 1) := fun K => by
      show gs_ix m 138 13 (Int32.ofNat 3 * Int32.ofNat k + Int32.ofNat 1) K = _
      rw [n_mul, n_add]
      exact gs_ixn h.1 rfl (by show _ < 36; omega)
    have j2 : ∀ K : Nat → gs_O, gs_ix m 138 13 ((3 : Int32) * Int32.ofNat k + 2) K = K (3 * k + 2) := fun K => by
      show gs_ix m 138 13 (Int32.ofNat 3 * Int32.ofNat k + Int32.ofNat 2) K = _
      rw [n_mul, n_add]
      exact gs_ixn h.1 rfl (by show _ < 36; omega)
    rw [eq_X12_shareOf_4, fl_116 h, sh_116_12 h, gs_nn_s, i7, hn, if_pos (by rw [gs_nlt (by omega) (by omega)]; omega)]
    simp only [fl_116 h, sh_116_32 h, gs_nn_s, j0, j1, j2, r_isIn, gs_bI_s, b2_if, gs_ns]
    rw [ih (k + 1) F v (by omega) (by omega), ih (k + 1) F _ (by omega) (by omega), f_sh_s, gs_if_rI, gs_if_rI]
theorem x_shareOf (hX : gs_Fu X) (h : gs_Sh m T) (hW : gs_RW m T n7) (h7 : n7 ≤ 6) (hn : m.2.1 (T + 21) 3 = Int32.ofNat n7) : gs_exec X (d + 1) 115 [.inr (.inr (T + 21)), .inl y] m = gs_rI (f_sh (m.2.1 138) y n7 0 0) m := by
  rw [eq_X10_shareOf]
  exact x_share_loop h hW h7 hn n7 0 X.1 0 (by omega) (by unfold gs_Fu at hX; omega)
theorem r_shareOf (hX : gs_Fu X) (h : gs_Sh m T) (h7 : n7 ≤ 6) (hn : m.2.1 119 7 = Int32.ofNat n7) : gs_exec X (d + 2) 290 [.inr (.inr 116), .inl y] m = gs_rI (f_sh (m.2.1 138) y n7 0 0) m := by
  rw [eq_X12_shareOf]
  exact r_share_loop h h7 hn n7 0 X.1 0 (by omega) (by unfold gs_Fu at hX; omega)
end FRM
