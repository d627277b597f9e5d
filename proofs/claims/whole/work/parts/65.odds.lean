/-! sort and odds, asked. -/
def f_so (m : gs_M) (g : Nat) : Nat → Nat → Int32
  | 0, _ => -1
  | r + 1, s => match sumO m g s with
    | some v => if lg_cmp v 0 = 0 then f_so m g r (s + 1) else Int32.ofNat s
    | none => f_so m g r (s + 1)
theorem f_so_s (m : gs_M) (g r s : Nat) : f_so m g (r + 1) s = match sumO m g s with
    | some v => if lg_cmp v 0 = 0 then f_so m g r (s + 1) else Int32.ofNat s
    | none => f_so m g r (s + 1) := rfl
def w9 (o : Option Int64) : Nat := match o with
  | some v => min 9999 v.toInt.toNat
  | none => 0
def n_ow (m : gs_M) (g s : Nat) : Nat := (m.2.1 135 s).toInt.toNat * w9 (sumO m g s)
def n_od (m : gs_M) (g : Nat) : Nat → Nat → Nat → Nat
  | 0, _, a => a
  | r + 1, s, a => n_od m g r (s + 1) (a + n_ow m g s)
theorem w9_le (o : Option Int64) : w9 o ≤ 9999 := by
  cases o with
  | none => exact Nat.zero_le _
  | some v => exact Nat.min_le_left _ _
theorem j_n9 {v : Int64} : (if lg_cmp 0 (if 0 < lg_cmp 9999 v then v else 9999) < 0 then (if 0 < lg_cmp 9999 v then v else 9999) else 0) = Int64.ofNat (min 9999 v.toInt.toNat) := by
  have e9 : (9999 : Int64).toInt = 9999 := rfl
  have e0 : (0 : Int64).toInt = 0 := rfl
  by_cases h : 0 < lg_cmp 9999 v
  · have h' := j_cg.mp h
    rw [if_pos h]
    by_cases h2 : lg_cmp 0 v < 0
    · have h2' := j_cl.mp h2
      rw [if_pos h2, j_eq, j_n (by omega)]
      omega
    · have h2' : ¬ (0 : Int64).toInt < v.toInt := fun q => h2 (j_cl.mpr q)
      rw [if_neg h2, j_eq, j_n (by omega)]
      omega
  · have h' : ¬ v.toInt < (9999 : Int64).toInt := fun q => h (j_cg.mpr q)
    rw [if_neg h, if_pos (by decide), j_eq, j_n (by omega)]
    omega
theorem j_n9r {v : Int64} (h : ¬ lg_cmp v 0 < 0) : (if 0 < lg_cmp v 9999 then (9999 : Int64) else v) = Int64.ofNat (min 9999 v.toInt.toNat) := by
  have e9 : (9999 : Int64).toInt = 9999 := rfl
  have e0 : (0 : Int64).toInt = 0 := rfl
  have h' : ¬ v.toInt < (0 : Int64).toInt := fun q => h (j_cl.mpr q)
  by_cases h2 : 0 < lg_cmp v 9999
  · have h2' := j_cg.mp h2
    rw [if_pos h2, j_eq, j_n (by omega)]
    omega
  · have h2' : ¬ (9999 : Int64).toInt < v.toInt := fun q => h2 (j_cg.mpr q)
    rw [if_neg h2, j_eq, j_n (by omega)]
    omega
section ODD
variable {X : gs_E} {d : Nat} {m M : gs_M} {T n n0 n1 n2 n6 n8 turn g k l f q F s p o j : Nat} {x w y : Int32}
theorem wr_so_f (hW : gs_Wr m M) : ∀ r s, f_so M g r s = f_so m g r s := by
  intro r
  induction r with
  | zero => intro s; rfl
  | succ r ih =>
    intro s
    rw [f_so_s, f_so_s, wr_sumO hW, ih]
theorem wr_ow (hW : gs_Wr m M) : n_ow M g s = n_ow m g s := by
  unfold n_ow
  rw [wr_sumO hW, wr_cell hW 135 (by decide) (by decide)]
theorem x_sortOf_loop (hX : gs_Fu X) (hO : gs_So m T n n0 n1 n2 turn n6 n8) (hg : g < n) : ∀ (r s F : Nat) (M : gs_M), gs_Wr m M → s + r = n6 → r < F →
    ∃ M', gs_iter X (gs_exec X (d + 5)) gT_X8_sortOf F 2 [(0, .inr (.inr T)), (1, .inr (.inr (T + (27 + g)))), (2, .inl (Int32.ofNat s))] [] M = gs_rI (f_so m g r s) M' ∧ gs_Wr m M' := by
  have h := hO.1.1
  obtain ⟨-, e6, -, b6, -⟩ := id hO
  intro r
  induction r with
  | zero =>
    intro s F M hW hs hF
    obtain ⟨F, rfl⟩ : ∃ z, F = z + 1 := ⟨F - 1, by omega⟩
    have hM := wr_sh h hW
    have e6M : M.2.1 (T + 13) 3 = Int32.ofNat n6 := by rw [wr_t h hW 13 (by decide)]; exact e6
    refine ⟨M, ?_, hW⟩
    rw [eq_X8_sortOf_2, fl_t0 hM, sh_t0_3 hM, gs_nn_s, fl_t13 hM, e6M, if_neg (by rw [gs_nlt (by omega) (by omega)]; omega)]
    rfl
  | succ r ih =>
    intro s F M hW hs hF
    obtain ⟨F, rfl⟩ : ∃ z, F = z + 1 := ⟨F - 1, by omega⟩
    have hM := wr_sh h hW
    have e6M : M.2.1 (T + 13) 3 = Int32.ofNat n6 := by rw [wr_t h hW 13 (by decide)]; exact e6
    obtain ⟨M1, e, hW1, he⟩ := x_sortValue (X := X) (d := d) hX (wr_so hO hW) hg (show s < n6 by omega)
    rw [wr_sumO hW] at e he
    have hW2 := wr_trans hW hW1
    have hM1 := wr_sh h hW2
    obtain ⟨M2, e2, hW3⟩ := ih (s + 1) F M1 hW2 (by omega) (by omega)
    rw [eq_X8_sortOf_2, fl_t0 hM, sh_t0_3 hM, gs_nn_s, fl_t13 hM, e6M, if_pos (by rw [gs_nlt (by omega) (by omega)]; omega), fl_t0 hM, e, gs_bJ_s, fl_t0 hM1, sh_t0_4 hM1, gs_nn_s, fl_t17 hM1, he, gs_ns, e2, f_so_s]
    cases sumO m g s with
    | none => exact ⟨M2, rfl, hW3⟩
    | some v =>
      show ∃ M', (if (0 : Int32) = 0 then (if lg_cmp v 0 = 0 then gs_rI (f_so m g r (s + 1)) M2 else gs_rI (Int32.ofNat s) M1) else gs_rI (f_so m g r (s + 1)) M2) = gs_rI (if lg_cmp v 0 = 0 then f_so m g r (s + 1) else Int32.ofNat s) M' ∧ _
      rw [if_pos rfl]
      by_cases u : lg_cmp v 0 = 0
      · rw [if_pos u, if_pos u]; exact ⟨M2, rfl, hW3⟩
      · rw [if_neg u, if_neg u]; exact ⟨M1, rfl, hW2⟩
theorem x_sortOf (hX : gs_Fu X) (hO : gs_So m T n n0 n1 n2 turn n6 n8) (hg : g < n) : ∃ M', gs_exec X (d + 6) 95 [.inr (.inr T), .inr (.inr (T + (27 + g)))] m = gs_rI (f_so m g n6 0) M' ∧ gs_Wr m M' := by
  rw [eq_X8_sortOf]
  exact x_sortOf_loop hX hO hg n6 0 X.1 m (wr_refl m) (by omega) (by have := hO.2.2.2.1; unfold gs_Fu at hX; omega)
theorem r_sortOf_loop (hX : gs_Fu X) (hO : gs_So m T n n0 n1 n2 turn n6 n8) (hg : g < n) : ∀ (r s F : Nat) (M : gs_M), gs_Ws m M → s + r = n6 → r < F →
    ∃ M', gs_iter X (gs_exec X (d + 3)) gT_X12_sortOf F 2 [(0, .inr (.inr 116)), (1, .inl (Int32.ofNat g)), (2, .inl (Int32.ofNat s))] [] M = gs_rI (f_so m g r s) M' ∧ gs_Ws m M' := by
  have h := hO.1.1
  obtain ⟨-, -, e6, b6, -⟩ := id hO
  have i6 : ∀ (M : gs_M), gs_Sh M T → ∀ K : Nat → gs_O, gs_ix M 119 13 6 K = K 6 := fun M hM K => gs_ixe hM.1 rfl rfl
  intro r
  induction r with
  | zero =>
    intro s F M hW hs hF
    obtain ⟨F, rfl⟩ : ∃ z, F = z + 1 := ⟨F - 1, by omega⟩
    have hM := wr_sh h hW.1
    have e6M : M.2.1 119 6 = Int32.ofNat n6 := by rw [wr_cell hW.1 119 (by decide) (by decide)]; exact e6
    refine ⟨M, ?_, hW⟩
    rw [eq_X12_sortOf_2, fl_116 hM, sh_116_12 hM, gs_nn_s, i6 M hM, e6M, if_neg (by rw [gs_nlt (by omega) (by omega)]; omega)]
    rfl
  | succ r ih =>
    intro s F M hW hs hF
    obtain ⟨F, rfl⟩ : ∃ z, F = z + 1 := ⟨F - 1, by omega⟩
    have hM := wr_sh h hW.1
    have e6M : M.2.1 119 6 = Int32.ofNat n6 := by rw [wr_cell hW.1 119 (by decide) (by decide)]; exact e6
    obtain ⟨v, M1, e, hW1, he, hv⟩ := r_sumFor (X := X) (d := d) hX (wr_so hO hW.1) hg (show s < n6 by omega)
    rw [wr_sumO hW.1] at he hv
    have hW2 := ws_trans hW hW1
    have hM1 := wr_sh h hW2.1
    obtain ⟨M2, e2, hW3⟩ := ih (s + 1) F M1 hW2 (by omega) (by omega)
    rw [eq_X12_sortOf_2, fl_116 hM, sh_116_12 hM, gs_nn_s, i6 M hM, e6M, if_pos (by rw [gs_nlt (by omega) (by omega)]; omega), fl_116 hM, e, gs_bJ_s, fl_116 hM1, he, gs_ns, e2, f_so_s]
    cases hu : sumO m g s with
    | none => exact ⟨M2, rfl, hW3⟩
    | some u =>
      have hvu := hv u hu
      subst hvu
      show ∃ M', (if (0 : Int32) = 0 then (if lg_cmp v 0 = 0 then gs_rI (f_so m g r (s + 1)) M2 else gs_rI (Int32.ofNat s) M1) else gs_rI (f_so m g r (s + 1)) M2) = gs_rI (if lg_cmp v 0 = 0 then f_so m g r (s + 1) else Int32.ofNat s) M' ∧ _
      rw [if_pos rfl]
      by_cases u : lg_cmp v 0 = 0
      · rw [if_pos u, if_pos u]; exact ⟨M2, rfl, hW3⟩
      · rw [if_neg u, if_neg u]; exact ⟨M1, rfl, hW2⟩
theorem r_sortOf (hX : gs_Fu X) (hO : gs_So m T n n0 n1 n2 turn n6 n8) (hg : g < n) : ∃ M', gs_exec X (d + 4) 227 [.inr (.inr 116), .inl (Int32.ofNat g)] m = gs_rI (f_so m g n6 0) M' ∧ gs_Ws m M' := by
  rw [eq_X12_sortOf]
  exact r_sortOf_loop hX hO hg n6 0 X.1 m (ws_refl m) (by omega) (by have := hO.2.2.2.1; unfold gs_Fu at hX; omega)
def f_sort (m : gs_M) (n n6 : Nat) (x : Int32) : Int32 := if isIx x (Int32.ofNat n) then f_so m x.toInt.toNat n6 0 else -2
theorem x_sort (hX : gs_Fu X) (hO : gs_So m T n n0 n1 n2 turn n6 n8) : ∃ M', gs_exec X (d + 7) 127 [.inr (.inr 0), .inl x] m = gs_rI (f_sort m n n6 x) M' ∧ gs_Wr m M' := by
  obtain ⟨h, hn3, -, hn, -⟩ := hO.1
  unfold f_sort
  rw [eq_X11_sort, fl_0 h, x_isGuest h, gs_bI_s, b2_if, hn3]
  by_cases hc : isIx x (Int32.ofNat n)
  · obtain ⟨g, hg, rfl, eg⟩ := i_gst hc hn
    obtain ⟨M', e, hW⟩ := x_sortOf (X := X) (d := d) hX hO hg
    refine ⟨M', ?_, hW⟩
    rw [if_pos hc, if_pos hc, eg]
    simp only [fl_0 h, sh_told h, gs_nn_s, fl_t0 h, sh_t0_6 h, x_gx h (show g < 12 by omega), sh_guest h (show g < 12 by omega), e, gs_bI_s]
  · rw [if_neg hc, if_neg hc]
    exact ⟨m, rfl, wr_refl m⟩
theorem r_sort (hX : gs_Fu X) (hO : gs_So m T n n0 n1 n2 turn n6 n8) : ∃ M', gs_exec X (d + 5) 230 [.inr (.inr 116), .inl x] m = gs_rI (f_sort m n n6 x) M' ∧ gs_Wr m M' := by
  have hO2 := wr_so hO (wr_thr (m := m) (x := 0))
  obtain ⟨hs, -, e3, hn, -⟩ := hO2.1
  have h := hO.1.1
  unfold f_sort
  rw [eq_X12_sort, fl_116 h]
  show ∃ M', gs_fld (gs_sI m 116 2 0) 116 11 _ = _ ∧ _
  rw [fl_116 hs, r_isGuest hs, gs_bI_s, b2_if, e3]
  by_cases hc : isIx x (Int32.ofNat n)
  · obtain ⟨g, hg, rfl, eg⟩ := i_gst hc hn
    obtain ⟨M', e, hW⟩ := r_sortOf (X := X) (d := d) hX hO2 hg
    refine ⟨M', ?_, wr_trans wr_thr hW.1⟩
    rw [if_pos hc, if_pos hc, fl_116 hs, eg, e, gs_bI_s, wr_so_f wr_thr]
  · rw [if_neg hc, if_neg hc]
    exact ⟨_, rfl, wr_thr⟩
/-! odds -/
theorem x_minL {a b : Int64} : gs_exec X (d + 1) 315 [.inr (.inl a), .inr (.inl b)] m = gs_rJ (if 0 < lg_cmp a b then b else a) m := by rw [eq_J9_min_f86c9, gs_if_rJ]
theorem x_maxL {a b : Int64} : gs_exec X (d + 1) 313 [.inr (.inl a), .inr (.inl b)] m = gs_rJ (if lg_cmp a b < 0 then b else a) m := by rw [eq_J9_max_f86c9, gs_if_rJ]
theorem w9_vl (o : Option Int64) : Int64.ofNat (min 9999 (f_vl o).toInt.toNat) = Int64.ofNat (w9 o) := by
  cases o with
  | none => rfl
  | some v => rfl
theorem x_sortWeight (hX : gs_Fu X) (hO : gs_So m T n n0 n1 n2 turn n6 n8) (hg : g < n) (hs : s < n6) : ∃ M', gs_exec X (d + 6) 97 [.inr (.inr T), .inr (.inr (T + (27 + g))), .inl (Int32.ofNat s)] m = gs_rJ (Int64.ofNat (n_ow m g s)) M' ∧ gs_Wr m M' := by
  obtain ⟨M', e, hW, -⟩ := x_sortValue (X := X) (d := d) hX hO hg hs
  refine ⟨M', ?_, hW⟩
  obtain ⟨⟨h, -⟩, -, -, b6, -, -, -, hS⟩ := hO
  obtain ⟨-, e15, ⟨w, w1, w99, ew⟩, -⟩ := hS.2 s hs
  have hM := wr_sh h hW
  have e15M : M'.2.1 (T + 15) s = Int32.ofNat w := by rw [wr_t h hW 15 (by decide), e15]; exact ew
  rw [eq_X8_sortWeight, fl_t0 h, e, gs_bJ_s, fl_t0 hM, sh_t0_3 hM, gs_nn_s, fl_t13 hM, sh_t13_1 hM, gs_nn_s, ar_t hM 15 13 6 (by decide) (by omega), x_minL, gs_bJ_s, x_maxL, gs_bJ_s, j_n9, e15M, l_32 (by omega), w9_vl, j_mul]
  unfold n_ow
  rw [f_nat ew (by omega)]
theorem r_oddsOf (hX : gs_Fu X) (hO : gs_So m T n n0 n1 n2 turn n6 n8) (hg : g < n) (hs : s < n6) : ∃ M', gs_exec X (d + 4) 231 [.inr (.inr 116), .inl (Int32.ofNat g), .inl (Int32.ofNat s)] m = gs_rJ (Int64.ofNat (n_ow m g s)) M' ∧ gs_Wr m M' := by
  obtain ⟨v, M', e, hW, he, hv⟩ := r_sumFor (X := X) (d := d) hX hO hg hs
  refine ⟨M', ?_, hW.1⟩
  obtain ⟨⟨h, -⟩, -, -, b6, -, -, -, hS⟩ := hO
  obtain ⟨-, e15, ⟨w, w1, w99, ew⟩, -⟩ := hS.2 s hs
  have hM := wr_sh h hW.1
  have e15M : M'.2.1 135 s = Int32.ofNat w := by rw [wr_cell hW.1 135 (by decide) (by decide)]; exact ew
  have i135 : ∀ K : Nat → gs_O, gs_ix M' 135 13 (Int32.ofNat s) K = K s := fun K => gs_ixn hM.1 (show gs_ok 135 13 153 = true from rfl) (show s < 12 by omega)
  have z : ¬ 0 < lg_cmp (0 : Int64) 9999 := by decide
  have mz : Int64.ofNat w * (0 : Int64) = Int64.ofNat (w * 0) := j_mul w 0
  unfold n_ow
  rw [eq_X12_oddsOf, fl_116 h, e, gs_bJ_s, fl_116 hM, he, f_nat ew (by omega)]
  simp only [fl_116 hM, sh_116_29 hM, gs_nn_s, i135, e15M, l_32 (show w < 2147483648 by omega), if_neg z, mz]
  cases hu : sumO m g s with
  | none => rfl
  | some u =>
    have hvu := hv u hu
    subst hvu
    show (if (0 : Int32) = 0 then _ else _) = _
    rw [if_pos rfl]
    by_cases c : lg_cmp v 0 < 0
    · rw [if_pos c]
      have c' := j_cl.mp c
      have c' : v.toInt < 0 := c'
      have e0 : v.toInt.toNat = 0 := by omega
      show gs_rJ (Int64.ofNat (w * 0)) M' = gs_rJ (Int64.ofNat (w * min 9999 v.toInt.toNat)) M'
      rw [e0]
      rfl
    · rw [if_neg c]
      have e1 := j_n9r c
      show _ = gs_rJ (Int64.ofNat (w * min 9999 v.toInt.toNat)) M'
      rw [← j_mul, ← e1]
      split <;> rfl
theorem n_ow_le (hS : gs_RS m T n6 n8) (hs : s < n6) : n_ow m g s ≤ 989901 := by
  obtain ⟨-, e15, ⟨w, w1, w99, ew⟩, -⟩ := hS.2 s hs
  unfold n_ow
  rw [f_nat ew (by omega)]
  exact Nat.mul_le_mul w99 (w9_le _)
theorem x_odds_loop (hX : gs_Fu X) (hO : gs_So m T n n0 n1 n2 turn n6 n8) (hg : g < n) (hs : s < n6) : ∀ (r k F a : Nat) (M : gs_M), gs_Wr m M → k + r = n6 → r < F → a ≤ 989901 * k →
    ∃ M', gs_iter X (gs_exec X (d + 6)) gT_X11_odds F 44 [(0, .inr (.inr 0)), (2, .inl (Int32.ofNat s)), (3, .inl w), (4, .inr (.inr (T + (27 + g)))), (5, .inr (.inl (Int64.ofNat a))), (7, .inl (Int32.ofNat k))] [] M = gs_rJ (f_least (n_ow m g s) (n_od m g r k a) w) M' ∧ gs_Wr m M' := by
  have h := hO.1.1
  have e6 := hO.2.1
  have b6 := hO.2.2.2.1
  have hS := hO.2.2.2.2.2.2.2
  intro r
  induction r with
  | zero =>
    intro k F a M hW hk hF ha
    obtain ⟨F, rfl⟩ : ∃ z, F = z + 1 := ⟨F - 1, by omega⟩
    have hM := wr_sh h hW
    have e6M : M.2.1 (T + 13) 3 = Int32.ofNat n6 := by rw [wr_t h hW 13 (by decide)]; exact e6
    obtain ⟨M1, e, hW1⟩ := x_sortWeight (X := X) (d := d) hX (wr_so hO hW) hg hs
    rw [wr_ow hW] at e
    have hb := n_ow_le (g := g) hS hs
    refine ⟨M1, ?_, wr_trans hW hW1⟩
    rw [eq_X11_odds_44, fl_0 hM, sh_told hM, gs_nn_s, fl_t0 hM, sh_t0_3 hM, gs_nn_s, fl_t13 hM, e6M, if_neg (by rw [gs_nlt (by omega) (by omega)]; omega), fl_0 hM, gs_nn_s, fl_t0 hM, e, gs_bJ_s, x_least hX (by omega) (by omega), gs_bJ_s]
    rfl
  | succ r ih =>
    intro k F a M hW hk hF ha
    obtain ⟨F, rfl⟩ : ∃ z, F = z + 1 := ⟨F - 1, by omega⟩
    have hM := wr_sh h hW
    have e6M : M.2.1 (T + 13) 3 = Int32.ofNat n6 := by rw [wr_t h hW 13 (by decide)]; exact e6
    obtain ⟨M1, e, hW1⟩ := x_sortWeight (X := X) (d := d) hX (wr_so hO hW) hg (show k < n6 by omega)
    rw [wr_ow hW] at e
    have hb := n_ow_le (g := g) hS (show k < n6 by omega)
    obtain ⟨M2, e2, hW2⟩ := ih (k + 1) F (a + n_ow m g k) M1 (wr_trans hW hW1) (by omega) (by omega) (by omega)
    refine ⟨M2, ?_, hW2⟩
    rw [eq_X11_odds_44, fl_0 hM, sh_told hM, gs_nn_s, fl_t0 hM, sh_t0_3 hM, gs_nn_s, fl_t13 hM, e6M, if_pos (by rw [gs_nlt (by omega) (by omega)]; omega), fl_0 hM, gs_nn_s, fl_t0 hM, e, gs_bJ_s, j_add, gs_ns, e2]
    rfl
theorem r_odds_loop (hX : gs_Fu X) (hO : gs_So m T n n0 n1 n2 turn n6 n8) (hg : g < n) (hs : s < n6) : ∀ (r k F a : Nat) (M : gs_M), gs_Wr m M → k + r = n6 → r < F → a ≤ 989901 * k →
    ∃ M', gs_iter X (gs_exec X (d + 4)) gT_X12_odds F 47 [(0, .inr (.inr 116)), (1, .inl (Int32.ofNat g)), (2, .inl (Int32.ofNat s)), (3, .inl w), (4, .inr (.inl (Int64.ofNat a))), (6, .inl (Int32.ofNat k))] [] M = gs_rJ (f_least (n_ow m g s) (n_od m g r k a) w) M' ∧ gs_Wr m M' := by
  have h := hO.1.1
  have e6 := hO.2.2.1
  have b6 := hO.2.2.2.1
  have hS := hO.2.2.2.2.2.2.2
  have i6 : ∀ (M : gs_M), gs_Sh M T → ∀ K : Nat → gs_O, gs_ix M 119 13 6 K = K 6 := fun M hM K => gs_ixe hM.1 rfl rfl
  intro r
  induction r with
  | zero =>
    intro k F a M hW hk hF ha
    obtain ⟨F, rfl⟩ : ∃ z, F = z + 1 := ⟨F - 1, by omega⟩
    have hM := wr_sh h hW
    have e6M : M.2.1 119 6 = Int32.ofNat n6 := by rw [wr_cell hW 119 (by decide) (by decide)]; exact e6
    obtain ⟨M1, e, hW1⟩ := r_oddsOf (X := X) (d := d) hX (wr_so hO hW) hg hs
    rw [wr_ow hW] at e
    have hb := n_ow_le (g := g) hS hs
    refine ⟨M1, ?_, wr_trans hW hW1⟩
    rw [eq_X12_odds_47, fl_116 hM, sh_116_12 hM, gs_nn_s, i6 M hM, e6M, if_neg (by rw [gs_nlt (by omega) (by omega)]; omega), fl_116 hM, e, gs_bJ_s, r_least hX (by omega) (by omega), gs_bJ_s]
    rfl
  | succ r ih =>
    intro k F a M hW hk hF ha
    obtain ⟨F, rfl⟩ : ∃ z, F = z + 1 := ⟨F - 1, by omega⟩
    have hM := wr_sh h hW
    have e6M : M.2.1 119 6 = Int32.ofNat n6 := by rw [wr_cell hW 119 (by decide) (by decide)]; exact e6
    obtain ⟨M1, e, hW1⟩ := r_oddsOf (X := X) (d := d) hX (wr_so hO hW) hg (show k < n6 by omega)
    rw [wr_ow hW] at e
    have hb := n_ow_le (g := g) hS (show k < n6 by omega)
    obtain ⟨M2, e2, hW2⟩ := ih (k + 1) F (a + n_ow m g k) M1 (wr_trans hW hW1) (by omega) (by omega) (by omega)
    refine ⟨M2, ?_, hW2⟩
    rw [eq_X12_odds_47, fl_116 hM, sh_116_12 hM, gs_nn_s, i6 M hM, e6M, if_pos (by rw [gs_nlt (by omega) (by omega)]; omega), fl_116 hM, e, gs_bJ_s, j_add, gs_ns, e2]
    rfl
def f_odds (m : gs_M) (n n6 : Nat) (x y w : Int32) : Int64 := if isIx x (Int32.ofNat n) then (if isIx y (Int32.ofNat n6) then (if w = 0 ∨ w = 1 then f_least (n_ow m x.toInt.toNat y.toInt.toNat) (n_od m x.toInt.toNat n6 0 0) w else -1) else -1) else -1
theorem x_odds (hX : gs_Fu X) (hO : gs_So m T n n0 n1 n2 turn n6 n8) : ∃ M', gs_exec X (d + 7) 129 [.inr (.inr 0), .inl x, .inl y, .inl w] m = gs_rJ (f_odds m n n6 x y w) M' ∧ gs_Wr m M' := by
  obtain ⟨h, hn3, -, hn, -⟩ := hO.1
  have e6 := hO.2.1
  have b6 := hO.2.2.2.1
  unfold f_odds
  rw [eq_X11_odds, fl_0 h, x_isGuest h, gs_bI_s, b2_if, hn3]
  by_cases hc : isIx x (Int32.ofNat n)
  · rw [if_pos hc, if_pos hc, fl_0 h, x_isSort h, gs_bI_s, b2_if, e6]
    by_cases hc2 : isIx y (Int32.ofNat n6)
    · rw [if_pos hc2, if_pos hc2, x_isPart, gs_bI_s, b2_if]
      by_cases hc3 : w = 0 ∨ w = 1
      · rw [if_pos hc3, if_pos hc3]
        obtain ⟨g, hg, rfl, eg⟩ := i_gst hc hn
        obtain ⟨s, hs, rfl, es⟩ := i_gst hc2 (by omega)
        obtain ⟨M', e, hW⟩ := x_odds_loop (X := X) (d := d) (w := w) hX hO hg hs n6 0 X.1 0 m (wr_refl m) (by omega) (by unfold gs_Fu at hX; omega) (by omega)
        refine ⟨M', ?_, hW⟩
        rw [eg, es]
        simp only [fl_0 h, sh_told h, gs_nn_s, fl_t0 h, sh_t0_6 h, x_gx h (show g < 12 by omega), sh_guest h (show g < 12 by omega)]
        exact e
      · rw [if_neg hc3, if_neg hc3]; exact ⟨m, rfl, wr_refl m⟩
    · rw [if_neg hc2, if_neg hc2]; exact ⟨m, rfl, wr_refl m⟩
  · rw [if_neg hc, if_neg hc]; exact ⟨m, rfl, wr_refl m⟩
theorem r_odds (hX : gs_Fu X) (hO : gs_So m T n n0 n1 n2 turn n6 n8) : ∃ M', gs_exec X (d + 5) 234 [.inr (.inr 116), .inl x, .inl y, .inl w] m = gs_rJ (f_odds m n n6 x y w) M' ∧ gs_Wr m M' := by
  have hW0 := wr_thr (m := m) (x := 0)
  have hO2 := wr_so hO hW0
  obtain ⟨hs, -, e3, hn, -⟩ := hO2.1
  have e6 := hO2.2.2.1
  have b6 := hO2.2.2.2.1
  have h := hO.1.1
  have i6 : ∀ (M : gs_M), gs_Sh M T → ∀ K : Nat → gs_O, gs_ix M 119 13 6 K = K 6 := fun M hM K => gs_ixe hM.1 rfl rfl
  unfold f_odds
  rw [eq_X12_odds, fl_116 h]
  show ∃ M', gs_fld (gs_sI m 116 2 0) 116 11 _ = _ ∧ _
  rw [fl_116 hs, r_isGuest hs, gs_bI_s, b2_if, e3]
  by_cases hc : isIx x (Int32.ofNat n)
  · rw [if_pos hc, if_pos hc]
    by_cases c1 : y < 0
    · rw [if_pos c1, if_neg (show ¬ isIx y (Int32.ofNat n6) from fun q => q.1 c1)]; exact ⟨_, rfl, hW0⟩
    · rw [if_neg c1, fl_116 hs, sh_116_12 hs, gs_nn_s, i6 _ hs, e6]
      by_cases c2 : y < Int32.ofNat n6
      · have hc2 : isIx y (Int32.ofNat n6) := ⟨c1, c2⟩
        rw [if_pos c2, if_pos hc2, r_isIn, gs_bI_s, b2_if]
        by_cases hc3 : w = 0 ∨ w = 1
        · rw [if_pos (i_part.mpr hc3), if_pos hc3]
          obtain ⟨g, hg, rfl, eg⟩ := i_gst hc hn
          obtain ⟨s, hs', rfl, es⟩ := i_gst hc2 (by omega)
          obtain ⟨M', e, hW⟩ := r_odds_loop (X := X) (d := d) (w := w) hX hO hg hs' n6 0 X.1 0 _ hW0 (by omega) (by unfold gs_Fu at hX; omega) (by omega)
          refine ⟨M', ?_, hW⟩
          rw [eg, es]
          exact e
        · rw [if_neg (fun q => hc3 (i_part.mp q)), if_neg hc3]; exact ⟨_, rfl, hW0⟩
      · rw [if_neg c2, if_neg (show ¬ isIx y (Int32.ofNat n6) from fun q => c2 q.2)]; exact ⟨_, rfl, hW0⟩
  · rw [if_neg hc, if_neg hc]; exact ⟨_, rfl, hW0⟩
end ODD
