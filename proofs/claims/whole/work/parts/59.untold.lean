/-! untold and draws. -/
/-- the shares that were told -/
def gs_WV (m : gs_M) (n7 : Nat) : Prop := ∀ k, k < n7 → isN (m.2.1 138 (3 * k + 2)) 11
theorem f_sh_n {f : Nat → Int32} {y : Int32} {n7 : Nat} (hf : ∀ k, k < n7 → isN (f (3 * k + 2)) 11) : ∀ (q k : Nat) (v : Int32), k + q ≤ n7 → isN v 11 → isN (f_sh f y q k v) 11 := by
  intro q
  induction q with
  | zero => intro k v _ hv; exact hv
  | succ q ih =>
    intro k v hk hv
    rw [f_sh_s]
    split
    · split
      · exact ih _ _ (by omega) (hf k (by omega))
      · exact ih _ _ (by omega) hv
    · exact ih _ _ (by omega) hv
/-- the sum of what was not watched -/
def nUn (f : Nat → Nat) : Nat → Nat → Nat → Nat
  | 0, _, v => v
  | q + 1, k, v => nUn f q (k + 1) (v + f k)
def nStop (y new : Nat) : Nat := min 2000 (y + 1 - new)
def nShr (m : gs_M) (n7 y : Nat) : Nat := (f_sh (m.2.1 138) (Int32.ofNat y) n7 0 0).toInt.toNat
def nSeen (x : Int32) : Nat := (f_mo (f_seenOf x 12 1 0) 16 0 0).toInt.toNat
def f_untA (m : gs_M) (n7 blur c : Nat) (w : Int32) : Int64 := f_least (nUn (fun y => 120 - nShr m n7 y * nSeen (cd m c 0)) (nStop (cn m c 2) (nNew (cn m c 3) (cn m c 5) blur (cn m c 4 - cn m c 2) (cn m c 6)) - (cn m c 2 - nOld (cn m c 3) (cn m c 5) blur (cn m c 4 - cn m c 2))) (cn m c 2 - nOld (cn m c 3) (cn m c 5) blur (cn m c 4 - cn m c 2)) 0) (120 * (nStop (cn m c 2) (nNew (cn m c 3) (cn m c 5) blur (cn m c 4 - cn m c 2) (cn m c 6)) - (cn m c 2 - nOld (cn m c 3) (cn m c 5) blur (cn m c 4 - cn m c 2)))) w
theorem f_seen_lt : ∀ j, j < 120 → (f_seenOf (Int32.ofNat j) 12 1 0).toInt.toNat < 4096 ∧ f_seenOf (Int32.ofNat j) 12 1 0 = Int32.ofNat (f_seenOf (Int32.ofNat j) 12 1 0).toInt.toNat ∧ nSeen (Int32.ofNat j) ≤ 12 ∧ f_mo (f_seenOf (Int32.ofNat j) 12 1 0) 16 0 0 = Int32.ofNat (nSeen (Int32.ofNat j)) := by decide +kernel
section UNT
variable {X : gs_E} {d : Nat} {m : gs_M} {T n5 n7 blur c : Nat} {x w : Int32}
theorem nNew_le {s t b y ww : Nat} (hw : ww ≤ 10) : nNew s t b y ww ≤ 9999 := by
  unfold nNew
  have h0 : nCor s t b y 0 * ww ≤ 99990 := Nat.mul_le_mul (nCor_le s t b y 0) hw
  omega
theorem x_unt_loop {z mo st : Nat} (hX : gs_Fu X) (h : gs_Sh m T) (hW : gs_RW m T n7) (hWV : gs_WV m n7) (h7 : n7 ≤ 6) (hn : m.2.1 (T + 21) 3 = Int32.ofNat n7) (hmo : mo ≤ 12) (hst : st ≤ 2000) {v5 : Int32} (h5 : ∀ k, k ≤ 2000 → (v5 < Int32.ofNat k ↔ st ≤ k)) : ∀ (q k F a b : Nat), (k + q = st ∨ (q = 0 ∧ st ≤ k)) → k ≤ 3000 → (q = 0 → k ≤ 3000) → q < F → a ≤ 120 * 3000 - 120 * q → b = b →
    b + 120 * q < 1152921504606846976 → (st ≤ k → v5 < Int32.ofNat k) → gs_iter X (gs_exec X (d + 1)) gT_X11_untold F 73 [(0, .inr (.inr 0)), (2, .inl w), (5, .inl v5), (6, .inl (Int32.ofNat mo)), (7, .inr (.inl (Int64.ofNat a))), (9, .inr (.inl (Int64.ofNat b))), (11, .inl (Int32.ofNat k))] [] m = gs_rJ (f_least (nUn (fun y => 120 - nShr m n7 y * mo) q k a) (b + 120 * q) w) m := by
  intro q
  induction q with
  | zero =>
    intro k F a b hk _ _ hF ha _ hb hk3
    obtain ⟨F, rfl⟩ : ∃ z, F = z + 1 := ⟨F - 1, by omega⟩
    rw [eq_X11_untold_73, if_pos (hk3 (by omega)), x_least hX (by omega) (by omega), gs_bJ_s]
    rfl
  | succ q ih =>
    intro k F a b hk hk1 _ hF ha _ hb hk3
    obtain ⟨F, rfl⟩ : ∃ z, F = z + 1 := ⟨F - 1, by omega⟩
    obtain ⟨sh, bs, es⟩ := f_sh_n (y := Int32.ofNat k) hWV n7 0 0 (by omega) ⟨0, by decide, rfl⟩
    have en : nShr m n7 k = sh := f_nat es (by omega)
    have bm : sh * mo ≤ 10 * 12 := Nat.mul_le_mul (by omega) hmo
    have e120 : (120 : Int32) - Int32.ofNat (sh * mo) = Int32.ofNat (120 - sh * mo) := n_sub (a := 120) (by omega)
    have e120b : Int64.ofNat b + 120 = Int64.ofNat (b + 120) := j_add b 120
    rw [eq_X11_untold_73, if_neg (fun q => by have := (h5 k (by omega)).mp q; omega), fl_0 h, sh_told h, gs_nn_s, fl_t0 h, sh_t0_5 h, gs_nn_s, fl_t21 h, x_shareOf hX h hW h7 hn, gs_bI_s, es, n_mul, e120, l_32 (by omega), j_add, e120b, gs_ns, ih (k + 1) F _ _ (by omega) (by omega) (by omega) (by omega) (by omega) rfl (by omega) (fun q => (h5 (k + 1) (by omega)).mpr q)]
    rw [show b + 120 + 120 * q = b + 120 * (q + 1) by omega]
    show _ = gs_rJ (f_least (nUn _ q (k + 1) (a + (120 - nShr m n7 k * mo))) _ w) m
    rw [en]
theorem r_unt_loop {mo st : Nat} (hX : gs_Fu X) (h : gs_Sh m T) (hWV : gs_WV m n7) (h7 : n7 ≤ 6) (hn : m.2.1 119 7 = Int32.ofNat n7) (hmo : mo ≤ 12) (hst : st ≤ 2000) (h5 : ∀ k, k ≤ 3000 → ((m.2.1 116 50 < Int32.ofNat k ∨ 2000 ≤ k) ↔ st ≤ k)) : ∀ (q k F a b : Nat), (k + q = st ∨ (q = 0 ∧ st ≤ k)) → k ≤ 3000 → q < F → a ≤ 120 * 3000 - 120 * q →
    b + 120 * q < 1152921504606846976 → gs_iter X (gs_exec X (d + 2)) gT_X12_untold F 71 [(0, .inr (.inr 116)), (2, .inl w), (3, .inr (.inl (Int64.ofNat mo))), (5, .inr (.inl (Int64.ofNat a))), (7, .inr (.inl (Int64.ofNat b))), (9, .inl (Int32.ofNat k))] [] m = gs_rJ (f_least (nUn (fun y => 120 - nShr m n7 y * mo) q k a) (b + 120 * q) w) m := by
  intro q
  induction q with
  | zero =>
    intro k F a b hk hk2 hF ha hb
    obtain ⟨F, rfl⟩ : ∃ z, F = z + 1 := ⟨F - 1, by omega⟩
    have hq := (h5 k hk2).mpr (by omega)
    rw [eq_X12_untold_71, fl_116 h, r_least hX (by omega) (by omega), gs_bJ_s]
    rcases hq with hq | hq
    · rw [if_pos hq]; rfl
    · rw [if_neg (show ¬ Int32.ofNat k < 2000 from fun z => by have := (gs_nlt (b := 2000) (by omega) (by decide)).mp z; omega)]
      split <;> rfl
  | succ q ih =>
    intro k F a b hk hk2 hF ha hb
    obtain ⟨F, rfl⟩ : ∃ z, F = z + 1 := ⟨F - 1, by omega⟩
    have nq : ¬ (m.2.1 116 50 < Int32.ofNat k ∨ 2000 ≤ k) := fun z => by have := (h5 k hk2).mp z; omega
    obtain ⟨sh, bs, es⟩ := f_sh_n (y := Int32.ofNat k) hWV n7 0 0 (by omega) ⟨0, by decide, rfl⟩
    have en : nShr m n7 k = sh := f_nat es (by omega)
    have bm : sh * mo ≤ 10 * 12 := Nat.mul_le_mul (by omega) hmo
    have e120 : (120 : Int64) - Int64.ofNat (sh * mo) = Int64.ofNat (120 - sh * mo) := j_sub (a := 120) (by omega)
    have e120b : Int64.ofNat b + 120 = Int64.ofNat (b + 120) := j_add b 120
    rw [eq_X12_untold_71, fl_116 h, if_neg (fun z => nq (Or.inl z)), if_pos (show Int32.ofNat k < 2000 from (gs_nlt (b := 2000) (by omega) (by decide)).mpr (by omega)), fl_116 h, r_shareOf hX h h7 hn, gs_bI_s, es, l_32 (by omega), j_mul, e120, j_add, e120b, gs_ns, ih (k + 1) F _ _ (by omega) (by omega) (by omega) (by omega) (by omega)]
    rw [show b + 120 + 120 * q = b + 120 * (q + 1) by omega]
    show _ = gs_rJ (f_least (nUn _ q (k + 1) (a + (120 - nShr m n7 k * mo))) _ w) m
    rw [en]
def f_untold (m : gs_M) (n7 blur n5 : Nat) (x w : Int32) : Int64 := if isIx x (Int32.ofNat n5) then (if w = 0 ∨ w = 1 then f_untA m n7 blur x.toInt.toNat w else -1) else -1
theorem i_bf0 {y o : Nat} (hy : y < 3000) (ho : o ≤ 9999) : (if (0 : Int32) < Int32.ofNat y - Int32.ofNat o then Int32.ofNat y - Int32.ofNat o else 0) = Int32.ofNat (y - o) := by
  by_cases q : o < y
  · rw [n_sub (by omega), if_pos (show (0 : Int32) < Int32.ofNat (y - o) from (gs_nlt (a := 0) (by decide) (by omega)).mpr (by omega))]
  · rw [if_neg (fun z => by rw [i_lt, i_nd (by omega) (by omega)] at z; have z : (0 : Int) < _ := z; omega), Nat.sub_eq_zero_of_le (by omega)]
    rfl
theorem x_untold (hX : gs_Fu X) (hC : gs_Ca m T n5 blur) (hW : gs_RW m T n7) (hWV : gs_WV m n7) (h7 : n7 ≤ 6) (hn : m.2.1 (T + 21) 3 = Int32.ofNat n7) : gs_exec X (d + 5) 143 [.inr (.inr 0), .inl x, .inl w] m = gs_rJ (f_untold m n7 blur n5 x w) m := by
  obtain ⟨h, e9, -, hn5, -, -, bb, hR, hV⟩ := hC
  unfold f_untold
  rw [eq_X11_untold, fl_0 h, x_isCloud h, gs_bI_s, b2_if, e9]
  by_cases hc : isIx x (Int32.ofNat n5)
  · rw [if_pos hc, if_pos hc, x_isPart, gs_bI_s, b2_if]
    by_cases hw : w = 0 ∨ w = 1
    · rw [if_pos hw, if_pos hw]
      obtain ⟨c, hc5, rfl, ec⟩ := i_gst hc (by omega)
      have hc10 : c < 10 := by omega
      obtain ⟨hr, r9, r10⟩ := hR c hc5
      obtain ⟨hv, v0, v1, v2, v4, v3, v5, v6, v7, v8, v9, v10, v11⟩ := hV c hc5
      have e0 : m.2.1 (T + (39 + c)) 0 = Int32.ofNat (cn m c 0) := (hr 0 (by decide)).trans (hv 0 (by decide))
      have bo := nOld_le (cn m c 3) (cn m c 5) blur (cn m c 4 - cn m c 2)
      have bn := nNew_le (s := cn m c 3) (t := cn m c 5) (b := blur) (y := cn m c 4 - cn m c 2) v8
      obtain ⟨sl, se, sm, so⟩ := f_seen_lt (cn m c 0) v0
      have hix : isIx (Int32.ofNat (cn m c 0)) 120 := by
        rw [i_ix, gs_n32 (by omega)]
        show (0 : Int) ≤ _ ∧ _ < (120 : Int)
        omega
      rw [ec]
      simp only [fl_0 h, sh_told h, gs_nn_s, fl_t0 h, sh_t0_7 h, x_cx h hc10, sh_cloud h hc10, fl_tc h hc10, x_max, x_min, gs_bI_s, e0, x_bitCount, r9, r10]
      rw [x_monthsSeen hX hix, gs_bI_s, se, f_bc_mo _ sl, ← se, so]
      unfold f_bf
      rw [i_bf0 (by omega) bo]
      unfold f_untA
      rw [hv 0 (by decide)]
      have hst : nStop (cn m c 2) (nNew (cn m c 3) (cn m c 5) blur (cn m c 4 - cn m c 2) (cn m c 6)) ≤ 2000 := Nat.min_le_left _ _
      have h5 : ∀ k, k ≤ 3000 → ((if f_bt (cn m c 2) (cn m c 3) (cn m c 4) (cn m c 5) (cn m c 6) blur < 1999 then f_bt (cn m c 2) (cn m c 3) (cn m c 4) (cn m c 5) (cn m c 6) blur else 1999) < Int32.ofNat k ↔ nStop (cn m c 2) (nNew (cn m c 3) (cn m c 5) blur (cn m c 4 - cn m c 2) (cn m c 6)) ≤ k) := by
        intro k hk
        unfold f_bt nStop
        generalize nNew (cn m c 3) (cn m c 5) blur (cn m c 4 - cn m c 2) (cn m c 6) = nw at bn ⊢
        have ei := i_nd (a := cn m c 2) (b := nw) (by omega) (by omega)
        have e1999 : (1999 : Int32).toInt = 1999 := rfl
        by_cases q : Int32.ofNat (cn m c 2) - Int32.ofNat nw < 1999
        · rw [if_pos q, i_lt, ei, gs_n32 (by omega)]
          rw [i_lt, ei, e1999] at q
          omega
        · rw [if_neg q, i_lt, e1999, gs_n32 (by omega)]
          rw [i_lt, ei, e1999] at q
          omega
      have key := x_unt_loop (z := 0) (w := w) (d := d + 3) hX h hW hWV h7 hn sm hst (fun k hk => h5 k (by omega)) (nStop (cn m c 2) (nNew (cn m c 3) (cn m c 5) blur (cn m c 4 - cn m c 2) (cn m c 6)) - (cn m c 2 - nOld (cn m c 3) (cn m c 5) blur (cn m c 4 - cn m c 2))) (cn m c 2 - nOld (cn m c 3) (cn m c 5) blur (cn m c 4 - cn m c 2)) X.1 0 0 (by omega) (by omega) (by omega) (by unfold gs_Fu at hX; omega) (by omega) rfl (by omega) (fun q => (h5 _ (by omega)).mpr q)
      rw [Nat.zero_add] at key
      exact key
    · rw [if_neg hw, if_neg hw]
  · rw [if_neg hc, if_neg hc]
theorem r_untold (hX : gs_Fu X) (hC : gs_Ca m T n5 blur) (hWV : gs_WV m n7) (h7 : n7 ≤ 6) (hn : m.2.1 119 7 = Int32.ofNat n7) : ∃ M, gs_exec X (d + 5) 295 [.inr (.inr 116), .inl x, .inl w] m = gs_rJ (f_untold m n7 blur n5 x w) M ∧ gs_Wr m M := by
  have hW : gs_Wr m (gs_sI m 116 2 0) := wr_thr
  obtain ⟨hs, -, e5, -, -, e3, -, -, hV2⟩ := wr_ca hC hW
  obtain ⟨h, -, -, hn5, -, -, bb, hR, hV⟩ := hC
  unfold f_untold
  rw [eq_X12_untold, fl_116 h]
  show ∃ M, gs_fld (gs_sI m 116 2 0) 116 11 _ = _ ∧ _
  rw [fl_116 hs, r_isCloud hs, gs_bI_s, b2_if, e5]
  by_cases hc : isIx x (Int32.ofNat n5)
  · rw [if_pos hc, if_pos hc, r_isIn, gs_bI_s, b2_if]
    by_cases hw : w = 0 ∨ w = 1
    · rw [if_pos hw, if_pos (i_part.mpr hw)]
      obtain ⟨c, hc5, rfl, ec⟩ := i_gst hc (by omega)
      have hc10 : c < 10 := by omega
      obtain ⟨M, eM, hM, l49, l50, -⟩ := r_layCloud (d := d + 1) hX hs hc10 (hV2 c hc5) e3 bb
      have hW2 := wr_trans hW hM
      have hh := wr_sh h hW2
      have l49 : M.2.1 116 49 = f_bf (cn m c 2) (cn m c 3) (cn m c 4) (cn m c 5) blur := l49
      have l50 : M.2.1 116 50 = f_bt (cn m c 2) (cn m c 3) (cn m c 4) (cn m c 5) (cn m c 6) blur := l50
      refine ⟨M, ?_, hW2⟩
      obtain ⟨hv, v0, v1, v2, v4, v3, v5, v6, v7, v8, v9, v10, v11⟩ := hV c hc5
      have e0 : M.2.1 133 (9 * c + 0) = Int32.ofNat (cn m c 0) := by
        rw [wr_cell hW2 133 (by decide) (by decide)]
        exact hv 0 (by decide)
      have bo := nOld_le (cn m c 3) (cn m c 5) blur (cn m c 4 - cn m c 2)
      have bn := nNew_le (s := cn m c 3) (t := cn m c 5) (b := blur) (y := cn m c 4 - cn m c 2) v8
      obtain ⟨sl, se, sm, so⟩ := f_seen_lt (cn m c 0) v0
      rw [ec, fl_116 hs, eM, gs_bU_s, fl_116 hh, sh_116_27 hh, gs_nn_s, r_cx0 hh hc10, e0, r_seenOf hX, gs_bI_s, r_manyOf hX, gs_bI_s, so, l_32 (by omega), fl_116 hh, fl_116 hh, l49]
      have hWV2 : gs_WV M n7 := fun k hk => by rw [wr_cell hW2 138 (by decide) (by decide)]; exact hWV k hk
      have hn2 : M.2.1 119 7 = Int32.ofNat n7 := by rw [wr_cell hW2 119 (by decide) (by decide)]; exact hn
      have hst : nStop (cn m c 2) (nNew (cn m c 3) (cn m c 5) blur (cn m c 4 - cn m c 2) (cn m c 6)) ≤ 2000 := Nat.min_le_left _ _
      have h5 : ∀ k, k ≤ 3000 → ((M.2.1 116 50 < Int32.ofNat k ∨ 2000 ≤ k) ↔ nStop (cn m c 2) (nNew (cn m c 3) (cn m c 5) blur (cn m c 4 - cn m c 2) (cn m c 6)) ≤ k) := by
        intro k hk
        rw [l50]
        unfold f_bt nStop
        generalize nNew (cn m c 3) (cn m c 5) blur (cn m c 4 - cn m c 2) (cn m c 6) = nw at bn ⊢
        rw [i_lt, i_nd (by omega) (by omega), gs_n32 (by omega)]
        omega
      have key := r_unt_loop (w := w) (d := d + 2) hX hh hWV2 h7 hn2 sm hst h5 (nStop (cn m c 2) (nNew (cn m c 3) (cn m c 5) blur (cn m c 4 - cn m c 2) (cn m c 6)) - (cn m c 2 - nOld (cn m c 3) (cn m c 5) blur (cn m c 4 - cn m c 2))) (cn m c 2 - nOld (cn m c 3) (cn m c 5) blur (cn m c 4 - cn m c 2)) X.1 0 0 (by omega) (by omega) (by unfold gs_Fu at hX; omega) (by omega) (by omega)
      rw [Nat.zero_add] at key
      have eS : (fun y => 120 - nShr M n7 y * nSeen (Int32.ofNat (cn m c 0))) = (fun y => 120 - nShr m n7 y * nSeen (Int32.ofNat (cn m c 0))) := funext fun y => by
        unfold nShr
        rw [wr_cell hW2 138 (by decide) (by decide)]
      rw [eS] at key
      unfold f_untA
      rw [hv 0 (by decide)]
      have ei := i_bf0 (y := cn m c 2) (by omega) bo
      unfold f_bf
      by_cases q : (0 : Int32) < Int32.ofNat (cn m c 2) - Int32.ofNat (nOld (cn m c 3) (cn m c 5) blur (cn m c 4 - cn m c 2))
      · rw [if_pos q] at ei ⊢
        rw [ei]
        exact key
      · rw [if_neg q] at ei ⊢
        rw [show (0 : Int32) = Int32.ofNat 0 from rfl] at ei
        rw [← ei] at key
        exact key
    · rw [if_neg hw, if_neg (fun q => hw (i_part.mp q))]
      exact ⟨_, rfl, hW⟩
  · rw [if_neg hc, if_neg hc]
    exact ⟨_, rfl, hW⟩
end UNT
