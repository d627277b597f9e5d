/-! next and chance. -/
def nSz (y s z t yr : Nat) : Nat := t + (t - s) * (yr - z) / (z - y)
def f_nar (m : gs_M) (blur c yr : Nat) : Int32 := (f_bt (cn m c 2) (cn m c 3) (cn m c 4) (cn m c 5) (cn m c 6) blur - f_bf (cn m c 2) (cn m c 3) (cn m c 4) (cn m c 5) blur) - (f_bt (cn m c 2) (cn m c 3) yr (nSz (cn m c 2) (cn m c 3) (cn m c 4) (cn m c 5) yr) (cn m c 6) blur - f_bf (cn m c 2) (cn m c 3) yr (nSz (cn m c 2) (cn m c 3) (cn m c 4) (cn m c 5) yr) blur)
def f_nx (m : gs_M) (blur yr : Nat) (w : Int32) : Nat → Nat → Int32 → Int32 → Int32
  | 0, _, v3, v4 => if v3 = -1 then -1 else if w = 0 then v3 else v4
  | q + 1, k, v3, v4 => if cn m k 4 < yr then (if v4 < f_nar m blur k yr then f_nx m blur yr w q (k + 1) (Int32.ofNat k) (f_nar m blur k yr) else f_nx m blur yr w q (k + 1) v3 v4) else f_nx m blur yr w q (k + 1) v3 v4
theorem f_nx_s (m : gs_M) (blur yr : Nat) (w : Int32) (q k : Nat) (v3 v4 : Int32) : f_nx m blur yr w (q + 1) k v3 v4 = if cn m k 4 < yr then (if v4 < f_nar m blur k yr then f_nx m blur yr w q (k + 1) (Int32.ofNat k) (f_nar m blur k yr) else f_nx m blur yr w q (k + 1) v3 v4) else f_nx m blur yr w q (k + 1) v3 v4 := rfl
section NXT
variable {X : gs_E} {d : Nat} {m : gs_M} {T n5 blur yr c : Nat} {x w : Int32}
theorem nSz_lt {y s z t : Nat} (ht : t ≤ 9999) (hyr : yr < 3000) : nSz y s z t yr < 100000000 := by
  unfold nSz
  have h1 : (t - s) * (yr - z) ≤ 9999 * 3000 := Nat.mul_le_mul (by omega) (by omega)
  have h2 : (t - s) * (yr - z) / (z - y) ≤ (t - s) * (yr - z) := Nat.div_le_self _ _
  omega
theorem i_trans0 {a b : Int32} (h : ¬ a < 0) (h2 : a < b) : ¬ b < 0 := by
  rw [i_lt] at h h2 ⊢
  omega
theorem n_nz {a : Nat} (h : 0 < a) (h2 : a < 2147483648) : Int32.ofNat a ≠ 0 := fun e => by
  have := (n_eq (a := a) (b := 0) h2 (by decide)).mp e
  omega
theorem x_narrower (hX : gs_Fu X) (hC : gs_Ca m T n5 blur) (hc : c < n5) (hyr : yr < 3000) : gs_exec X (d + 5) 7 [.inr (.inr (T + (39 + c))), .inl (Int32.ofNat yr), .inl (Int32.ofNat blur)] m = gs_rI (if cn m c 4 < yr then f_nar m blur c yr else 0) m := by
  obtain ⟨h, -, -, hn5, -, -, bb, hR, hV⟩ := hC
  have hc10 : c < 10 := by omega
  obtain ⟨hr, r9, r10⟩ := hR c hc
  obtain ⟨hv, v0, v1, v2, v4, v3, v5, v6, v7, v8, v9, v10, v11⟩ := hV c hc
  have e : ∀ i, i < 9 → m.2.1 (T + (39 + c)) i = Int32.ofNat (cn m c i) := fun i hi => (hr i hi).trans (hv i hi)
  rw [eq_X0_narrowerBy]
  simp only [fl_tc h hc10]
  rw [e 2 (by decide), e 3 (by decide), e 4 (by decide), e 5 (by decide)]
  by_cases hy : cn m c 4 < yr
  · have b1 : (cn m c 5 - cn m c 3) * (yr - cn m c 4) ≤ 9999 * 3000 := Nat.mul_le_mul (by omega) (by omega)
    rw [if_pos ((gs_nlt (by omega) (by omega)).mpr hy), if_pos hy, n_sub (show cn m c 2 ≤ cn m c 4 by omega), n_sub (show cn m c 3 ≤ cn m c 5 by omega), n_sub (show cn m c 4 ≤ yr by omega), n_mul, if_pos (show (0 : Int32) < Int32.ofNat (cn m c 4 - cn m c 2) from (gs_nlt (a := 0) (by decide) (by omega)).mpr (by omega)), gs_nz_n (n_nz (by omega) (by omega)), n_div (by omega) (by omega), n_add]
    have hz := nSz_lt (y := cn m c 2) (s := cn m c 3) (z := cn m c 4) v6 hyr
    rw [show cn m c 5 + (cn m c 5 - cn m c 3) * (yr - cn m c 4) / (cn m c 4 - cn m c 2) = nSz (cn m c 2) (cn m c 3) (cn m c 4) (cn m c 5) yr from rfl, x_latest hX hc10 h (e 2 (by decide)) (e 3 (by decide)) (e 6 (by decide)) v8 (by omega) hyr (by omega) hz bb, gs_bI_s, x_earliest hX hc10 h (e 2 (by decide)) (e 3 (by decide)) (by omega) hyr (by omega) hz bb, gs_bI_s, fl_tc h hc10, fl_tc h hc10, fl_tc h hc10, r9, r10]
    rfl
  · rw [if_neg (fun q => hy ((gs_nlt (by omega) (by omega)).mp q)), if_neg hy]
theorem x_next_loop (hX : gs_Fu X) (hC : gs_Ca m T n5 blur) (hyr : yr < 3000) : ∀ (q k F : Nat) (v3 v4 : Int32), k + q = n5 → q < F → ¬ v4 < 0 →
    gs_iter X (gs_exec X (d + 5)) gT_X11_next F 28 [(0, .inr (.inr 0)), (1, .inl (Int32.ofNat yr)), (2, .inl w), (3, .inl v3), (4, .inl v4), (5, .inl (Int32.ofNat k))] [] m = gs_rI (f_nx m blur yr w q k v3 v4) m := by
  have hC2 := hC
  obtain ⟨h, e9, -, hn5, e13, -, bb, hR, hV⟩ := hC
  intro q
  induction q with
  | zero =>
    intro k F v3 v4 hk hF h4
    obtain ⟨F, rfl⟩ : ∃ z, F = z + 1 := ⟨F - 1, by omega⟩
    rw [eq_X11_next_28, fl_0 h, sh_told h, gs_nn_s, fl_t0 h, e9, if_neg (by rw [gs_nlt (by omega) (by omega)]; omega)]
    simp only [gs_if_rI]
    rfl
  | succ q ih =>
    intro k F v3 v4 hk hF h4
    obtain ⟨F, rfl⟩ : ∃ z, F = z + 1 := ⟨F - 1, by omega⟩
    have hk10 : k < 10 := by omega
    rw [eq_X11_next_28, fl_0 h, sh_told h, gs_nn_s, fl_t0 h, e9, if_pos (by rw [gs_nlt (by omega) (by omega)]; omega)]
    simp only [fl_0 h, sh_told h, gs_nn_s, fl_t0 h, sh_t0_7 h, x_cx h hk10, sh_cloud h hk10, fl_tc h hk10, e13, x_narrower hX hC2 (show k < n5 by omega) hyr, gs_bI_s, gs_ns]
    rw [f_nx_s]
    by_cases hy : cn m k 4 < yr
    · rw [if_pos hy, if_pos hy]
      by_cases hl : v4 < f_nar m blur k yr
      · rw [if_pos hl, if_pos hl, ih (k + 1) F _ _ (by omega) (by omega) (i_trans0 h4 hl)]
      · rw [if_neg hl, if_neg hl, ih (k + 1) F _ _ (by omega) (by omega) h4]
    · rw [if_neg hy, if_neg hy, if_neg h4, ih (k + 1) F _ _ (by omega) (by omega) h4]
theorem r_next_loop (hX : gs_Fu X) (hC : gs_Ca m T n5 blur) (hyr : yr < 3000) : ∀ (q k F : Nat) (v3 v4 : Int32) (M : gs_M), gs_Wr m M → k + q = n5 → q < F → (v3 = -1 ∨ isN v3 10) →
    ∃ M', gs_iter X (gs_exec X (d + 3)) gT_X12_next F 35 [(0, .inr (.inr 116)), (1, .inl (Int32.ofNat yr)), (2, .inl w), (3, .inl v3), (4, .inl v4), (5, .inl (Int32.ofNat k))] [] M = gs_rI (f_nx m blur yr w q k v3 v4) M' ∧ gs_Wr m M' := by
  have hC2 := hC
  obtain ⟨h0, -, -, hn5, -, -, bb, hR, hV0⟩ := hC
  intro q
  induction q with
  | zero =>
    intro k F v3 v4 M hM hk hF h3
    obtain ⟨h, -, e5, -⟩ := wr_ca hC2 hM
    have i5 : ∀ K : Nat → gs_O, gs_ix M 119 13 5 K = K 5 := fun K => gs_ixe h.1 rfl rfl
    obtain ⟨F, rfl⟩ : ∃ z, F = z + 1 := ⟨F - 1, by omega⟩
    refine ⟨M, ?_, hM⟩
    rw [eq_X12_next_35, fl_116 h, sh_116_12 h, gs_nn_s, i5, e5, if_neg (by rw [gs_nlt (by omega) (by omega)]; omega)]
    show _ = gs_rI (if v3 = -1 then -1 else if w = 0 then v3 else v4) M
    rcases h3 with h3 | ⟨z, hz, ez⟩
    · rw [h3, if_pos rfl]
      simp only [if_pos (show (-1 : Int32) < 0 by decide), gs_if_rI]
      split <;> rfl
    · rw [ez, if_neg (gs_neg1 (by omega)), if_neg (gs_nneg (by omega)), gs_if_rI]
  | succ q ih =>
    intro k F v3 v4 M hM hk hF h3
    have hC3 := wr_ca hC2 hM
    obtain ⟨h, -, e5, -, -, e3, -, -, hV⟩ := hC3
    have i5 : ∀ K : Nat → gs_O, gs_ix M 119 13 5 K = K 5 := fun K => gs_ixe h.1 rfl rfl
    obtain ⟨F, rfl⟩ : ∃ z, F = z + 1 := ⟨F - 1, by omega⟩
    have hk5 : k < n5 := by omega
    have hk10 : k < 10 := by omega
    obtain ⟨hv, v0, v1, v2, v4', v3', v5, v6, v7, v8, v9, v10, v11⟩ := hV0 k hk5
    have cell : ∀ M : gs_M, gs_Wr m M → ∀ i, i < 9 → M.2.1 133 (9 * k + i) = Int32.ofNat (cn m k i) := fun M hM i hi => by
      rw [wr_cell hM 133 (by decide) (by decide)]
      exact hv i hi
    rw [eq_X12_next_35, fl_116 h, sh_116_12 h, gs_nn_s, i5, e5, if_pos (by rw [gs_nlt (by omega) (by omega)]; omega), fl_116 h, sh_116_27 h, gs_nn_s, r_cx h hk10 (i := 4) (il := 4) rfl (by decide), cell M hM 4 (by decide), f_nx_s]
    by_cases hy : cn m k 4 < yr
    · rw [if_pos ((gs_nlt (by omega) (by omega)).mpr hy), if_pos hy]
      obtain ⟨M1, eM1, hM1, l49, l50, -⟩ := r_layCloud (d := d) hX h hk10 (hV k hk5) e3 bb
      have hW1 := wr_trans hM hM1
      have h1 := wr_sh h0 hW1
      have e31 : M1.2.1 122 3 = Int32.ofNat blur := by rw [wr_cell hM1 122 (by decide) (by decide)]; exact e3
      have ecn : ∀ i, cn M k i = cn m k i := fun i => by
        unfold cn cd
        rw [wr_cell hM 133 (by decide) (by decide)]
      rw [ecn, ecn, ecn, ecn] at l49
      rw [ecn, ecn, ecn, ecn, ecn] at l50
      have b1 : (cn m k 5 - cn m k 3) * (yr - cn m k 4) ≤ 9999 * 3000 := Nat.mul_le_mul (by omega) (by omega)
      have hz := nSz_lt (y := cn m k 2) (s := cn m k 3) (z := cn m k 4) v6 hyr
      rw [fl_116 h, eM1, gs_bU_s]
      simp only [fl_116 h1, sh_116_27 h1, gs_nn_s, r_cx h1 hk10 (i := 5) (il := 5) rfl (by decide), r_cx h1 hk10 (i := 3) (il := 3) rfl (by decide), r_cx h1 hk10 (i := 2) (il := 2) rfl (by decide), r_cx h1 hk10 (i := 6) (il := 6) rfl (by decide), cell M1 hW1 5 (by decide), cell M1 hW1 3 (by decide), cell M1 hW1 2 (by decide), cell M1 hW1 6 (by decide), l49, l50]
      rw [n_sub (show cn m k 2 ≤ cn m k 4 by omega), n_sub (show cn m k 3 ≤ cn m k 5 by omega), n_sub (show cn m k 4 ≤ yr by omega), n_mul, gs_nz_n (n_nz (by omega) (by omega)), n_div (by omega) (by omega), n_add, show cn m k 5 + (cn m k 5 - cn m k 3) * (yr - cn m k 4) / (cn m k 4 - cn m k 2) = nSz (cn m k 2) (cn m k 3) (cn m k 4) (cn m k 5) yr from rfl, r_layBorn hX h1 e31 bb (by omega) hyr (by omega) hz v8, gs_bU_s]
      have h2 := sh_lay h1 (f_bf (cn m k 2) (cn m k 3) yr (nSz (cn m k 2) (cn m k 3) (cn m k 4) (cn m k 5) yr) blur) (f_bt (cn m k 2) (cn m k 3) yr (nSz (cn m k 2) (cn m k 3) (cn m k 4) (cn m k 5) yr) (cn m k 6) blur)
      have hW2 := wr_lay (a := f_bf (cn m k 2) (cn m k 3) yr (nSz (cn m k 2) (cn m k 3) (cn m k 4) (cn m k 5) yr) blur) (b := f_bt (cn m k 2) (cn m k 3) yr (nSz (cn m k 2) (cn m k 3) (cn m k 4) (cn m k 5) yr) (cn m k 6) blur) hW1
      simp only [fl_116 h2, lay49, lay50, gs_ns]
      by_cases hl : v4 < f_nar m blur k yr
      · rw [if_pos hl]
        have hl2 := hl
        unfold f_nar at hl2
        rw [if_pos hl2]
        exact ih (k + 1) F _ _ _ hW2 (by omega) (by omega) (Or.inr ⟨k, hk10, rfl⟩)
      · rw [if_neg hl]
        have hl2 := hl
        unfold f_nar at hl2
        rw [if_neg hl2]
        exact ih (k + 1) F _ _ _ hW2 (by omega) (by omega) h3
    · rw [if_neg (fun q => hy ((gs_nlt (by omega) (by omega)).mp q)), if_neg hy, gs_ns]
      exact ih (k + 1) F _ _ _ hM (by omega) (by omega) h3
def f_next (m : gs_M) (blur n5 : Nat) (x w : Int32) : Int32 := if isIx x 3000 then (if w = 0 ∨ w = 1 then f_nx m blur x.toInt.toNat w n5 0 (-1) 0 else -1) else -1
theorem i_yr (hc : isIx x 3000) : ∃ yr, yr < 3000 ∧ x = Int32.ofNat yr ∧ x.toInt.toNat = yr := by
  have hb := i_ix.mp hc
  have e : (3000 : Int32).toInt = 3000 := rfl
  exact ⟨_, by omega, i_nat hc, rfl⟩
theorem x_next (hX : gs_Fu X) (hC : gs_Ca m T n5 blur) : gs_exec X (d + 6) 144 [.inr (.inr 0), .inl x, .inl w] m = gs_rI (f_next m blur n5 x w) m := by
  unfold f_next
  rw [eq_X11_next]
  by_cases hc : isIx x 3000
  · rw [if_neg hc.1, if_pos hc.2, if_pos hc, x_isPart, gs_bI_s, b2_if]
    obtain ⟨yr, hyr, rfl, ey⟩ := i_yr hc
    by_cases hw : w = 0 ∨ w = 1
    · rw [if_pos hw, if_pos hw, ey]
      exact x_next_loop hX hC hyr n5 0 X.1 _ _ (by omega) (by have := hC.2.2.2.1; unfold gs_Fu at hX; omega) (by decide)
    · rw [if_neg hw, if_neg hw]
  · rw [if_neg hc]
    by_cases h1 : x < 0
    · rw [if_pos h1]
    · rw [if_neg h1, if_neg (fun h2 => hc ⟨h1, h2⟩)]
theorem i_bt1 {k : Nat} (hk : 0 < k) (hk2 : k < 2147483648) : isBt x 0 (Int32.ofNat (k - 1)) ↔ isIx x (Int32.ofNat k) := by
  rw [i_bt, i_ix, gs_n32 (by omega), gs_n32 hk2]
  show 0 ≤ _ ∧ _ ↔ _
  omega
theorem i_3000 : isBt x 0 2999 ↔ isIx x 3000 := i_bt1 (k := 3000) (by decide) (by decide)
theorem r_next (hX : gs_Fu X) (hC : gs_Ca m T n5 blur) : ∃ M, gs_exec X (d + 4) 296 [.inr (.inr 116), .inl x, .inl w] m = gs_rI (f_next m blur n5 x w) M ∧ gs_Wr m M := by
  have hW : gs_Wr m (gs_sI m 116 2 0) := wr_thr
  unfold f_next
  rw [eq_X12_next, fl_116 hC.1]
  show ∃ M, gs_bI (gs_exec X (d + 3) 175 [.inl x, .inl 0, .inl 2999] (gs_sI m 116 2 0)) _ _ = _ ∧ _
  rw [r_isIn, gs_bI_s, b2_if]
  by_cases hc : isIx x 3000
  · rw [if_pos (i_3000.mpr hc), if_pos hc, r_isIn, gs_bI_s, b2_if]
    obtain ⟨yr, hyr, rfl, ey⟩ := i_yr hc
    by_cases hw : w = 0 ∨ w = 1
    · rw [if_pos hw, if_pos (i_part.mpr hw), ey]
      exact r_next_loop hX hC hyr n5 0 X.1 _ _ _ hW (by omega) (by have := hC.2.2.2.1; unfold gs_Fu at hX; omega) (Or.inl rfl)
    · rw [if_neg hw, if_neg (fun q => hw (i_part.mp q))]
      exact ⟨_, rfl, hW⟩
  · rw [if_neg (fun q => hc (i_3000.mp q)), if_neg hc]
    exact ⟨_, rfl, hW⟩
/-! chance -/
def nCp (dd y : Nat) : Nat := min 120 (2 * dd + 1) * (min 59 (y + dd) - (y - dd) + 1)
def nCs (m : gs_M) (dd : Nat) : Nat → Nat → Nat → Nat
  | 0, _, v => v
  | q + 1, k, v => nCs m dd q (k + 1) (v + nCp dd (cn m k 1))
theorem nCp_le {dd y : Nat} (hd : dd ≤ 60) (hy : y < 60) : nCp dd y ≤ 7200 := by
  unfold nCp
  exact Nat.le_trans (Nat.mul_le_mul (Nat.min_le_left 120 _) (show min 59 (y + dd) - (y - dd) + 1 ≤ 60 by omega)) (by decide)
theorem i_nd {a b : Nat} (ha : a < 2147483648) (hb : b < 2147483648) : (Int32.ofNat a - Int32.ofNat b).toInt = (a : Int) - b := by
  rw [i_sub (by rw [gs_n32 ha, gs_n32 hb]; omega) (by rw [gs_n32 ha, gs_n32 hb]; omega), gs_n32 ha, gs_n32 hb]
theorem x_countPlaces {dd : Nat} (hC : gs_Ca m T n5 blur) (hc : c < n5) (hd : dd ≤ 60) : gs_exec X (d + 2) 8 [.inr (.inr (T + (39 + c))), .inl (Int32.ofNat dd)] m = gs_rI (Int32.ofNat (nCp dd (cn m c 1))) m := by
  obtain ⟨h, -, -, hn5, -, -, bb, hR, hV⟩ := hC
  have hc10 : c < 10 := by omega
  obtain ⟨hv, v0, v1, -⟩ := hV c hc
  have e1 : m.2.1 (T + (39 + c)) 1 = Int32.ofNat (cn m c 1) := ((hR c hc).1 1 (by decide)).trans (hv 1 (by decide))
  have e2 : (2 : Int32) * Int32.ofNat dd + 1 = Int32.ofNat (2 * dd + 1) := by
    show Int32.ofNat 2 * Int32.ofNat dd + 1 = _
    rw [n_mul, gs_ns]
  have e3 : (if (0 : Int32) < Int32.ofNat (cn m c 1) - Int32.ofNat dd then Int32.ofNat (cn m c 1) - Int32.ofNat dd else 0) = Int32.ofNat (cn m c 1 - dd) := by
    by_cases q : dd < cn m c 1
    · rw [n_sub (by omega), if_pos (show (0 : Int32) < Int32.ofNat (cn m c 1 - dd) from (gs_nlt (a := 0) (by decide) (by omega)).mpr (by omega))]
    · rw [if_neg (fun z => by rw [i_lt, i_nd (by omega) (by omega)] at z; have z : (0 : Int) < _ := z; omega), Nat.sub_eq_zero_of_le (by omega)]
      rfl
  rw [eq_X0_countPlaces, x_min, gs_bI_s, fl_tc h hc10, e1, x_min, gs_bI_s, fl_tc h hc10, e1, x_max, gs_bI_s, e2, e3, n_add]
  show gs_rI ((if Int32.ofNat (2 * dd + 1) < Int32.ofNat 120 then Int32.ofNat (2 * dd + 1) else Int32.ofNat 120) * ((if Int32.ofNat (cn m c 1 + dd) < Int32.ofNat 59 then Int32.ofNat (cn m c 1 + dd) else Int32.ofNat 59) - _ + 1)) m = _
  rw [n_min (by decide) (by omega), n_min (by decide) (by omega), n_sub (by omega), gs_ns, n_mul]
  rfl
theorem r_chanceFor {dd : Nat} (h : gs_Sh m T) (hV : gs_CV m c) (hc10 : c < 10) (hd : dd ≤ 60) : gs_exec X (d + 1) 297 [.inr (.inr 116), .inl (Int32.ofNat c), .inl (Int32.ofNat dd)] m = gs_rI (Int32.ofNat (nCp dd (cn m c 1))) m := by
  obtain ⟨hv, v0, v1, -⟩ := hV
  have e1 : m.2.1 133 (9 * c + 1) = Int32.ofNat (cn m c 1) := hv 1 (by decide)
  have e2 : (2 : Int32) * Int32.ofNat dd + 1 = Int32.ofNat (2 * dd + 1) := by
    show Int32.ofNat 2 * Int32.ofNat dd + 1 = _
    rw [n_mul, gs_ns]
  rw [eq_X12_chanceFor]
  simp only [fl_116 h, sh_116_27 h, gs_nn_s, r_cx h hc10 (i := 1) (il := 1) rfl (by decide), e1, e2, n_add, gs_if_rI]
  have e3 : (if Int32.ofNat dd < Int32.ofNat (cn m c 1) then Int32.ofNat (cn m c 1) - Int32.ofNat dd else 0) = Int32.ofNat (cn m c 1 - dd) := by
    by_cases q : dd < cn m c 1
    · rw [n_sub (by omega), if_pos ((gs_nlt (by omega) (by omega)).mpr q)]
    · rw [if_neg (fun z => q ((gs_nlt (by omega) (by omega)).mp z)), Nat.sub_eq_zero_of_le (by omega)]
      rfl
  have eR : Int32.ofNat (nCp dd (cn m c 1)) = (if Int32.ofNat (2 * dd + 1) < Int32.ofNat 120 then Int32.ofNat (2 * dd + 1) else Int32.ofNat 120) * ((if Int32.ofNat (cn m c 1 + dd) < Int32.ofNat 59 then Int32.ofNat (cn m c 1 + dd) else Int32.ofNat 59) - (if Int32.ofNat dd < Int32.ofNat (cn m c 1) then Int32.ofNat (cn m c 1) - Int32.ofNat dd else 0) + 1) := by
    rw [n_min (by decide) (by omega), n_min (by decide) (by omega), e3, n_sub (by omega), gs_ns, n_mul]
    rfl
  rw [eR]
  congr 1
  show (if Int32.ofNat (2 * dd + 1) < Int32.ofNat 120 then (if _ then (if _ < Int32.ofNat 59 then _ else _) else (if _ < Int32.ofNat 59 then _ else _)) else (if _ then (if _ < Int32.ofNat 59 then _ else _) else (if _ < Int32.ofNat 59 then _ else _))) = _
  by_cases a1 : Int32.ofNat (2 * dd + 1) < Int32.ofNat 120 <;> by_cases a2 : Int32.ofNat dd < Int32.ofNat (cn m c 1) <;> by_cases a3 : Int32.ofNat (cn m c 1 + dd) < Int32.ofNat 59 <;> simp only [a1, a2, a3, if_true, if_false] <;> rfl
theorem x_chance_loop {dd : Nat} (hX : gs_Fu X) (hC : gs_Ca m T n5 blur) (hd : dd ≤ 60) : ∀ (q k F v : Nat), k + q = n5 → q < F → v ≤ 7200 * k →
    gs_iter X (gs_exec X (d + 2)) gT_X11_chance F 21 [(0, .inr (.inr 0)), (1, .inl (Int32.ofNat dd)), (2, .inl w), (3, .inl (Int32.ofNat v)), (4, .inl (Int32.ofNat k))] [] m = gs_rI (Int64.toInt32 (f_least (nCs m dd q k v) 7200 w)) m := by
  have hC2 := hC
  obtain ⟨h, e9, -, hn5, e13, -, bb, hR, hV⟩ := hC
  intro q
  induction q with
  | zero =>
    intro k F v hk hF hv
    obtain ⟨F, rfl⟩ : ∃ z, F = z + 1 := ⟨F - 1, by omega⟩
    rw [eq_X11_chance_21, fl_0 h, sh_told h, gs_nn_s, fl_t0 h, e9, if_neg (by rw [gs_nlt (by omega) (by omega)]; omega), l_32 (by omega)]
    show gs_bJ (gs_exec X (d + 2) 85 [.inr (.inl (Int64.ofNat v)), .inr (.inl (Int64.ofNat 7200)), .inl w] m) _ _ = _
    rw [x_least hX (by omega) (by decide), gs_bJ_s]
    rfl
  | succ q ih =>
    intro k F v hk hF hv
    obtain ⟨F, rfl⟩ : ∃ z, F = z + 1 := ⟨F - 1, by omega⟩
    have hk10 : k < 10 := by omega
    have hcp := nCp_le hd ((hV k (by omega)).2.2.1)
    rw [eq_X11_chance_21, fl_0 h, sh_told h, gs_nn_s, fl_t0 h, e9, if_pos (by rw [gs_nlt (by omega) (by omega)]; omega)]
    simp only [fl_0 h, sh_told h, gs_nn_s, fl_t0 h, sh_t0_7 h, x_cx h hk10, sh_cloud h hk10, fl_tc h hk10, x_countPlaces hC2 (show k < n5 by omega) hd, gs_bI_s, gs_ns, n_add]
    rw [ih (k + 1) F _ (by omega) (by omega) (by omega)]
    rfl
theorem r_chance_loop {dd : Nat} (hX : gs_Fu X) (hC : gs_Ca m T n5 blur) (hd : dd ≤ 60) : ∀ (q k F v : Nat), k + q = n5 → q < F → v ≤ 7200 * k →
    gs_iter X (gs_exec X (d + 2)) gT_X12_chance F 31 [(0, .inr (.inr 116)), (1, .inl (Int32.ofNat dd)), (2, .inl w), (3, .inr (.inl (Int64.ofNat v))), (5, .inl (Int32.ofNat k))] [] m = gs_rI (Int64.toInt32 (f_least (nCs m dd q k v) 7200 w)) m := by
  obtain ⟨h, -, e5, hn5, -, -, bb, hR, hV⟩ := hC
  have i5 : ∀ K : Nat → gs_O, gs_ix m 119 13 5 K = K 5 := fun K => gs_ixe h.1 rfl rfl
  intro q
  induction q with
  | zero =>
    intro k F v hk hF hv
    obtain ⟨F, rfl⟩ : ∃ z, F = z + 1 := ⟨F - 1, by omega⟩
    rw [eq_X12_chance_31, fl_116 h, sh_116_12 h, gs_nn_s, i5, e5, if_neg (by rw [gs_nlt (by omega) (by omega)]; omega)]
    show gs_bJ (gs_exec X (d + 2) 233 [.inr (.inl (Int64.ofNat v)), .inr (.inl (Int64.ofNat 7200)), .inl w] m) _ _ = _
    rw [r_least hX (by omega) (by decide), gs_bJ_s]
    rfl
  | succ q ih =>
    intro k F v hk hF hv
    obtain ⟨F, rfl⟩ : ∃ z, F = z + 1 := ⟨F - 1, by omega⟩
    have hk10 : k < 10 := by omega
    have hcp := nCp_le hd ((hV k (by omega)).2.2.1)
    rw [eq_X12_chance_31, fl_116 h, sh_116_12 h, gs_nn_s, i5, e5, if_pos (by rw [gs_nlt (by omega) (by omega)]; omega), fl_116 h, r_chanceFor h (hV k (by omega)) hk10 hd, gs_bI_s, gs_ns, l_32 (by omega), j_add, ih (k + 1) F _ (by omega) (by omega) (by omega)]
    rfl
def f_chance (m : gs_M) (n5 : Nat) (x w : Int32) : Int32 := if isIx x 61 then (if w = 0 ∨ w = 1 then Int64.toInt32 (f_least (nCs m x.toInt.toNat n5 0 0) 7200 w) else -1) else -1
theorem i_dd (hc : isIx x 61) : ∃ dd, dd ≤ 60 ∧ x = Int32.ofNat dd ∧ x.toInt.toNat = dd := by
  have hb := i_ix.mp hc
  have e : (61 : Int32).toInt = 61 := rfl
  exact ⟨_, by omega, i_nat hc, rfl⟩
theorem i_61 : isBt x 0 60 ↔ isIx x 61 := i_bt1 (k := 61) (by decide) (by decide)
theorem x_chance (hX : gs_Fu X) (hC : gs_Ca m T n5 blur) : gs_exec X (d + 3) 148 [.inr (.inr 0), .inl x, .inl w] m = gs_rI (f_chance m n5 x w) m := by
  unfold f_chance
  rw [eq_X11_chance, x_isWidth, gs_bI_s, b2_if]
  by_cases hc : isIx x 61
  · rw [if_pos (i_61.mpr hc), if_pos hc, x_isPart, gs_bI_s, b2_if]
    obtain ⟨dd, hd, rfl, ey⟩ := i_dd hc
    by_cases hw : w = 0 ∨ w = 1
    · rw [if_pos hw, if_pos hw, ey]
      exact x_chance_loop hX hC hd n5 0 X.1 0 (by omega) (by have := hC.2.2.2.1; unfold gs_Fu at hX; omega) (by omega)
    · rw [if_neg hw, if_neg hw]
  · rw [if_neg (fun q => hc (i_61.mp q)), if_neg hc]
theorem r_chance (hX : gs_Fu X) (hC : gs_Ca m T n5 blur) : gs_exec X (d + 3) 298 [.inr (.inr 116), .inl x, .inl w] m = gs_rI (f_chance m n5 x w) (gs_sI m 116 2 0) := by
  have hW : gs_Wr m (gs_sI m 116 2 0) := wr_thr
  have hC2 := wr_ca hC hW
  unfold f_chance
  rw [eq_X12_chance, fl_116 hC.1]
  show gs_bI (gs_exec X (d + 2) 175 [.inl x, .inl 0, .inl 60] (gs_sI m 116 2 0)) _ _ = _
  rw [r_isIn, gs_bI_s, b2_if]
  by_cases hc : isIx x 61
  · rw [if_pos (i_61.mpr hc), if_pos hc, r_isIn, gs_bI_s, b2_if]
    obtain ⟨dd, hd, rfl, ey⟩ := i_dd hc
    by_cases hw : w = 0 ∨ w = 1
    · rw [if_pos hw, if_pos (i_part.mpr hw), ey]
      have key := r_chance_loop (w := w) (d := d) hX hC2 hd n5 0 X.1 0 (by omega) (by have := hC.2.2.2.1; unfold gs_Fu at hX; omega) (by omega)
      have e : ∀ q k v, nCs (gs_sI m 116 2 0) dd q k v = nCs m dd q k v := by
        intro q
        induction q with
        | zero => intro k v; rfl
        | succ q ih => intro k v; exact ih _ _
      rw [e] at key
      exact key
    · rw [if_neg hw, if_neg (fun q => hw (i_part.mp q))]
  · rw [if_neg (fun q => hc (i_61.mp q)), if_neg hc]
end NXT
