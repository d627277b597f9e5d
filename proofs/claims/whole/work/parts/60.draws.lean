/-! Dice; draws. -/
theorem n_and31 (n : Nat) : Int32.ofNat n &&& (2147483647 : Int32) = Int32.ofNat (n % 2147483648) := by
  apply Int32.toBitVec_inj.mp
  rw [Int32.toBitVec_and, Int32.toBitVec_ofNat', Int32.toBitVec_ofNat']
  apply BitVec.eq_of_toNat_eq
  rw [BitVec.toNat_and, BitVec.toNat_ofNat, BitVec.toNat_ofNat]
  show n % 2 ^ 32 &&& (2 ^ 31 - 1) = _
  rw [Nat.and_two_pow_sub_one_eq_mod]
  omega
theorem j_and31 (n : Nat) : Int64.ofNat n &&& (2147483647 : Int64) = Int64.ofNat (n % 2147483648) := by
  apply Int64.toBitVec_inj.mp
  rw [Int64.toBitVec_and, Int64.toBitVec_ofNat', Int64.toBitVec_ofNat']
  apply BitVec.eq_of_toNat_eq
  rw [BitVec.toNat_and, BitVec.toNat_ofNat, BitVec.toNat_ofNat]
  show n % 2 ^ 64 &&& (2 ^ 31 - 1) = _
  rw [Nat.and_two_pow_sub_one_eq_mod]
  omega
def nRoll (s : Nat) : Nat := (s * 1103515245 + 12345) % 2147483648
theorem nRoll_lt (s : Nat) : nRoll s < 2147483648 := Nat.mod_lt _ (by decide)
theorem gs_sJe (m : gs_M) (a j : Nat) (x : Int64) : (gs_sJ m a j x).2.2.1 a j = x := by rw [gs_sJg, if_pos rfl, if_pos rfl]
section DRW
variable {X : gs_E} {d : Nat} {m : gs_M} {T n5 blur c s : Nat} {x y w dd : Int32}
theorem x_roll (h : gs_Sh m T) (hs : m.2.1 0 4 = Int32.ofNat s) : gs_exec X (d + 1) 170 [.inr (.inr 0)] m = gs_rI (Int32.ofNat (nRoll s / 65536)) (gs_sI m 0 4 (Int32.ofNat (nRoll s))) := by
  have e1 : (Int32.ofNat s * (1103515245 : Int32) + (12345 : Int32)) &&& (2147483647 : Int32) = Int32.ofNat (nRoll s) := by
    show (Int32.ofNat s * Int32.ofNat 1103515245 + Int32.ofNat 12345) &&& (2147483647 : Int32) = _
    rw [n_mul, n_add, n_and31]
    rfl
  have e2 : Int32.ofNat (nRoll s) / (65536 : Int32) = Int32.ofNat (nRoll s / 65536) := n_div (b := 65536) (nRoll_lt s) (by decide)
  rw [eq_X11_roll, fl_0 h, fl_0 h, hs, e1]
  show gs_fld (gs_sI m 0 4 (Int32.ofNat (nRoll s))) 0 10 (gs_nz 65536 (gs_rI ((gs_sI m 0 4 (Int32.ofNat (nRoll s))).2.1 0 4 / 65536) (gs_sI m 0 4 (Int32.ofNat (nRoll s))))) = _
  rw [fl_0 (sh_sI h), gs_nz_n (by decide), gs_sIe, e2]
theorem r_drawn {b : Nat} (hb : 0 < b) (hb2 : b < 2147483648) (h : gs_Sh m T) (hs : m.2.2.1 116 59 = Int64.ofNat s) (h31 : s < 2147483648) : gs_exec X (d + 1) 304 [.inr (.inr 116), .inl (Int32.ofNat b)] m = gs_rI (Int32.ofNat (nRoll s / 65536 % b)) (gs_sJ m 116 59 (Int64.ofNat (nRoll s))) := by
  have e1 : (Int64.ofNat s * (1103515245 : Int64) + (12345 : Int64)) &&& (2147483647 : Int64) = Int64.ofNat (nRoll s) := by
    show (Int64.ofNat s * Int64.ofNat 1103515245 + Int64.ofNat 12345) &&& (2147483647 : Int64) = _
    rw [j_mul, j_add, j_and31]
    rfl
  have bl := nRoll_lt s
  have e2 : Int64.ofNat (nRoll s) / (65536 : Int64) = Int64.ofNat (nRoll s / 65536) := j_div (b := 65536) (by omega) (by decide)
  rw [eq_X12_drawn, fl_116 h, fl_116 h, hs, e1]
  show gs_fld (gs_sJ m 116 59 (Int64.ofNat (nRoll s))) 116 11 (gs_nzL 65536 (gs_nzL (Int32.toInt64 (Int32.ofNat b)) (gs_rI (Int64.toInt32 ((gs_sJ m 116 59 (Int64.ofNat (nRoll s))).2.2.1 116 59 / 65536 - (gs_sJ m 116 59 (Int64.ofNat (nRoll s))).2.2.1 116 59 / 65536 / Int32.toInt64 (Int32.ofNat b) * Int32.toInt64 (Int32.ofNat b))) (gs_sJ m 116 59 (Int64.ofNat (nRoll s)))))) = _
  rw [fl_116 (sh_sJ h), gs_nzL_n (by decide), l_32 hb2, j_nz (by omega) (by omega), gs_sJe, e2, j_mod (by omega) (by omega), l_64]
def f_nr (m : gs_M) (x y dd : Int32) : Nat → Nat → Int32
  | 0, _ => 0
  | q + 1, k => if dd < f_apart x y (cd m k 0) (cd m k 1) then f_nr m x y dd q (k + 1) else 1
theorem f_nr_s (m : gs_M) (x y dd : Int32) (q k : Nat) : f_nr m x y dd (q + 1) k = if dd < f_apart x y (cd m k 0) (cd m k 1) then f_nr m x y dd q (k + 1) else 1 := rfl
theorem wr_nr {m' : gs_M} (hW : gs_Wr m m') : ∀ q k, f_nr m' x y dd q k = f_nr m x y dd q k := by
  intro q
  induction q with
  | zero => intro k; rfl
  | succ q ih =>
    intro k
    rw [f_nr_s, f_nr_s, ih]
    unfold cd
    rw [wr_cell hW 133 (by decide) (by decide)]
theorem f_cdx (hC : gs_CV m c) : isIx (cd m c 0) 120 := by
  obtain ⟨hv, v0, v1, -⟩ := hC
  rw [hv 0 (by decide), i_ix, gs_n32 (by omega)]
  show (0 : Int) ≤ _ ∧ _ < (120 : Int)
  omega
theorem x_near_loop (hC : gs_Ca m T n5 blur) (hx : isIx x 120) : ∀ (q k F : Nat), k + q = n5 → q < F →
    gs_iter X (gs_exec X (d + 2)) gT_X8_hasCloudNear F 3 [(0, .inr (.inr T)), (1, .inl x), (2, .inl y), (3, .inl dd), (4, .inl (Int32.ofNat k))] [] m = gs_rI (f_nr m x y dd q k) m := by
  obtain ⟨h, e9, -, hn5, -, -, bb, hR, hV⟩ := hC
  intro q
  induction q with
  | zero =>
    intro k F hk hF
    obtain ⟨F, rfl⟩ : ∃ z, F = z + 1 := ⟨F - 1, by omega⟩
    rw [eq_X8_hasCloudNear_3, fl_t0 h, e9, if_neg (by rw [gs_nlt (by omega) (by omega)]; omega)]
    rfl
  | succ q ih =>
    intro k F hk hF
    obtain ⟨F, rfl⟩ : ∃ z, F = z + 1 := ⟨F - 1, by omega⟩
    have hk10 : k < 10 := by omega
    have hr := (hR k (by omega)).1
    rw [eq_X8_hasCloudNear_3, fl_t0 h, e9, if_pos (by rw [gs_nlt (by omega) (by omega)]; omega)]
    simp only [fl_t0 h, sh_t0_7 h, gs_nn_s, x_cx h hk10, sh_cloud h hk10, fl_tc h hk10, hr 0 (by decide), hr 1 (by decide), x_apart hx (f_cdx (hV k (by omega))), gs_bI_s, gs_ns]
    rw [ih (k + 1) F (by omega) (by omega), f_nr_s, gs_bt1, gs_if_rI]
theorem x_near (hX : gs_Fu X) (hC : gs_Ca m T n5 blur) (hx : isIx x 120) : gs_exec X (d + 3) 102 [.inr (.inr T), .inl x, .inl y, .inl dd] m = gs_rI (f_nr m x y dd n5 0) m := by
  rw [eq_X8_hasCloudNear]
  exact x_near_loop hC hx n5 0 X.1 (by omega) (by have := hC.2.2.2.1; unfold gs_Fu at hX; omega)
def f_dr (m : gs_M) (n5 : Nat) (dd : Int32) : Nat → Nat → Int32 → Int32
  | 0, _, v => v
  | q + 1, s, v => f_dr m n5 dd q (nRoll (nRoll s)) (v + f_nr m (Int32.ofNat (nRoll s / 65536 % 120)) (Int32.ofNat (nRoll (nRoll s) / 65536 % 60)) dd n5 0)
theorem f_nr01 (m : gs_M) : ∀ q k, f_nr m x y dd q k = 0 ∨ f_nr m x y dd q k = 1 := by
  intro q
  induction q with
  | zero => intro k; exact Or.inl rfl
  | succ q ih => intro k; exact f_i01 (ih _) (Or.inr rfl)
theorem i_120 (z : Nat) : isIx (Int32.ofNat (z % 120)) 120 := by
  have := Nat.mod_lt z (show 120 > 0 by decide)
  rw [i_ix, gs_n32 (by omega)]
  show (0 : Int) ≤ _ ∧ _ < (120 : Int)
  omega
theorem gs_rs09 : gs_rs 0 4 := Or.inr (Or.inr (Or.inl ⟨rfl, rfl⟩))
theorem x_draws_loop {N : Nat} (hX : gs_Fu X) (hC : gs_Ca m T n5 blur) (hN : N ≤ 500) : ∀ (q k F s : Nat) (v : Int32) (M : gs_M), gs_Wr m M → M.2.1 0 4 = Int32.ofNat s → k + q = N → q < F →
    ∃ M', gs_iter X (gs_exec X (d + 3)) gT_X11_draws F 36 [(0, .inr (.inr 0)), (2, .inl (Int32.ofNat N)), (3, .inl dd), (4, .inl v), (5, .inl (Int32.ofNat k))] [] M = gs_rI (f_dr m n5 dd q s v) M' ∧ gs_Wr m M' := by
  intro q
  induction q with
  | zero =>
    intro k F s v M hM hs hk hF
    obtain ⟨F, rfl⟩ : ∃ z, F = z + 1 := ⟨F - 1, by omega⟩
    refine ⟨M, ?_, hM⟩
    rw [eq_X11_draws_36, if_neg (by rw [gs_nlt (by omega) (by omega)]; omega)]
    rfl
  | succ q ih =>
    intro k F s v M hM hs hk hF
    obtain ⟨F, rfl⟩ : ∃ z, F = z + 1 := ⟨F - 1, by omega⟩
    have h := wr_sh hC.1 hM
    have hM1 : gs_Wr m (gs_sI M 0 4 (Int32.ofNat (nRoll s))) := wr_sI hM gs_rs09
    have h1 : gs_Sh (gs_sI M 0 4 (Int32.ofNat (nRoll s))) T := wr_sh hC.1 hM1
    have hM2 : gs_Wr m (gs_sI (gs_sI M 0 4 (Int32.ofNat (nRoll s))) 0 4 (Int32.ofNat (nRoll (nRoll s)))) := wr_sI hM1 gs_rs09
    have h2 := wr_sh hC.1 hM2
    have l1 := nRoll_lt s
    have l2 := nRoll_lt (nRoll s)
    have e1 : Int32.ofNat (nRoll s / 65536) - Int32.ofNat (nRoll s / 65536) / 120 * 120 = Int32.ofNat (nRoll s / 65536 % 120) := n_mod (b := 120) (by omega) (by decide)
    have e2 : Int32.ofNat (nRoll (nRoll s) / 65536) - Int32.ofNat (nRoll (nRoll s) / 65536) / 60 * 60 = Int32.ofNat (nRoll (nRoll s) / 65536 % 60) := n_mod (b := 60) (by omega) (by decide)
    rw [eq_X11_draws_36, if_pos (by rw [gs_nlt (by omega) (by omega)]; omega), fl_0 h, x_roll h hs, gs_bI_s, gs_nz_n (by decide), fl_0 h1, x_roll h1 (gs_sIe _ _ _ _), gs_bI_s, gs_nz_n (by decide), fl_0 h2, sh_told h2, gs_nn_s, fl_t0 h2, e1, e2, x_near hX (wr_ca hC hM2) (i_120 _), gs_bI_s, wr_nr hM2, gs_ns]
    have key := ih (k + 1) F (nRoll (nRoll s)) (v + f_nr m (Int32.ofNat (nRoll s / 65536 % 120)) (Int32.ofNat (nRoll (nRoll s) / 65536 % 60)) dd n5 0) _ hM2 (gs_sIe _ _ _ _) (by omega) (by omega)
    rcases f_nr01 (x := Int32.ofNat (nRoll s / 65536 % 120)) (y := Int32.ofNat (nRoll (nRoll s) / 65536 % 60)) (dd := dd) m n5 0 with e | e
    · have ez : v + (0 : Int32) = v := by simp
      show ∃ M', _ = gs_rI (f_dr m n5 dd q _ (v + f_nr m (Int32.ofNat (nRoll s / 65536 % 120)) (Int32.ofNat (nRoll (nRoll s) / 65536 % 60)) dd n5 0)) M' ∧ _
      rw [e, ez] at key ⊢
      rw [if_pos rfl]
      exact key
    · show ∃ M', _ = gs_rI (f_dr m n5 dd q _ (v + f_nr m (Int32.ofNat (nRoll s / 65536 % 120)) (Int32.ofNat (nRoll (nRoll s) / 65536 % 60)) dd n5 0)) M' ∧ _
      rw [e] at key ⊢
      rw [if_neg (by decide)]
      exact key
theorem r_near_loop {N s0 : Nat} {v : Int32} (hC : gs_Ca m T n5 blur) : ∀ (q k F : Nat), k + q = n5 →
    gs_iter X (gs_exec X (d + 3)) gT_X12_draws (F + q + 1) 72 [(0, .inr (.inr 116)), (2, .inl (Int32.ofNat N)), (3, .inl dd), (4, .inl v), (5, .inl (Int32.ofNat s0)), (6, .inl x), (7, .inl y), (8, .inl 1), (9, .inl (Int32.ofNat k))] [] m = gs_iter X (gs_exec X (d + 3)) gT_X12_draws F 44 [(0, .inr (.inr 116)), (2, .inl (Int32.ofNat N)), (3, .inl dd), (4, .inl (v + 1)), (5, .inl (Int32.ofNat (s0 + 1)))] [] m ∧
    gs_iter X (gs_exec X (d + 3)) gT_X12_draws (F + q + 1) 72 [(0, .inr (.inr 116)), (2, .inl (Int32.ofNat N)), (3, .inl dd), (4, .inl v), (5, .inl (Int32.ofNat s0)), (6, .inl x), (7, .inl y), (8, .inl 0), (9, .inl (Int32.ofNat k))] [] m = gs_iter X (gs_exec X (d + 3)) gT_X12_draws F 44 [(0, .inr (.inr 116)), (2, .inl (Int32.ofNat N)), (3, .inl dd), (4, .inl (v + f_nr m x y dd q k)), (5, .inl (Int32.ofNat (s0 + 1)))] [] m := by
  obtain ⟨h, -, e5, hn5, -, -, bb, hR, hV⟩ := hC
  have i5 : ∀ K : Nat → gs_O, gs_ix m 119 13 5 K = K 5 := fun K => gs_ixe h.1 rfl rfl
  intro q
  induction q with
  | zero =>
    intro k F hk
    refine ⟨?_, ?_⟩
    · show gs_iter X (gs_exec X (d + 3)) gT_X12_draws (F + 1) 72 _ _ _ = _
      rw [eq_X12_draws_72, fl_116 h, sh_116_12 h, gs_nn_s, i5, e5, if_neg (by rw [gs_nlt (by omega) (by omega)]; omega), if_neg (by decide), gs_ns]
    · show gs_iter X (gs_exec X (d + 3)) gT_X12_draws (F + 1) 72 _ _ _ = _
      rw [eq_X12_draws_72, fl_116 h, sh_116_12 h, gs_nn_s, i5, e5, if_neg (by rw [gs_nlt (by omega) (by omega)]; omega), if_pos rfl, gs_ns]
      rfl
  | succ q ih =>
    intro k F hk
    have hk10 : k < 10 := by omega
    obtain ⟨i1, i2⟩ := ih (k + 1) F (by omega)
    refine ⟨?_, ?_⟩
    · show gs_iter X (gs_exec X (d + 3)) gT_X12_draws (F + q + 1 + 1) 72 _ _ _ = _
      rw [eq_X12_draws_72, fl_116 h, sh_116_12 h, gs_nn_s, i5, e5, if_pos (by rw [gs_nlt (by omega) (by omega)]; omega), if_neg (by decide), gs_ns]
      exact i1
    · show gs_iter X (gs_exec X (d + 3)) gT_X12_draws (F + q + 1 + 1) 72 _ _ _ = _
      rw [eq_X12_draws_72, fl_116 h, sh_116_12 h, gs_nn_s, i5, e5, if_pos (by rw [gs_nlt (by omega) (by omega)]; omega), if_pos rfl]
      simp only [fl_116 h, sh_116_27 h, gs_nn_s, r_cx0 h hk10, r_cx h hk10 (i := 1) (il := 1) rfl (by decide), r_apart, gs_bI_s]
      rw [gs_ns, f_nr_s]
      by_cases hd : dd < f_apart x y (cd m k 0) (cd m k 1)
      · rw [if_pos hd]
        have hd2 : dd < f_apart x y (m.2.1 133 (9 * k + 0)) (m.2.1 133 (9 * k + 1)) := hd
        rw [if_pos hd2]
        exact i2
      · rw [if_neg hd]
        have hd2 : ¬ dd < f_apart x y (m.2.1 133 (9 * k + 0)) (m.2.1 133 (9 * k + 1)) := hd
        rw [if_neg hd2]
        exact i1
theorem r_draws_loop {N : Nat} (hX : gs_Fu X) (hC : gs_Ca m T n5 blur) (hN : N ≤ 500) : ∀ (q k F s : Nat) (v : Int32) (M : gs_M), gs_Wr m M → M.2.2.1 116 59 = Int64.ofNat s → s < 2147483648 → k + q = N → q * 20 < F →
    ∃ M', gs_iter X (gs_exec X (d + 3)) gT_X12_draws F 44 [(0, .inr (.inr 116)), (2, .inl (Int32.ofNat N)), (3, .inl dd), (4, .inl v), (5, .inl (Int32.ofNat k))] [] M = gs_rI (f_dr m n5 dd q s v) M' ∧ gs_Wr m M' := by
  have hn5 := hC.2.2.2.1
  intro q
  induction q with
  | zero =>
    intro k F s v M hM hs h31 hk hF
    obtain ⟨F, rfl⟩ : ∃ z, F = z + 1 := ⟨F - 1, by omega⟩
    refine ⟨M, ?_, hM⟩
    rw [eq_X12_draws_44, if_neg (by rw [gs_nlt (by omega) (by omega)]; omega)]
    rfl
  | succ q ih =>
    intro k F s v M hM hs h31 hk hF
    obtain ⟨F, rfl⟩ : ∃ z, F = z + n5 + 1 + 1 := ⟨F - n5 - 2, by omega⟩
    have h := wr_sh hC.1 hM
    have hM1 : gs_Wr m (gs_sJ M 116 59 (Int64.ofNat (nRoll s))) := wr_sJ hM
    have h1 : gs_Sh (gs_sJ M 116 59 (Int64.ofNat (nRoll s))) T := wr_sh hC.1 hM1
    have hM2 : gs_Wr m (gs_sJ (gs_sJ M 116 59 (Int64.ofNat (nRoll s))) 116 59 (Int64.ofNat (nRoll (nRoll s)))) := wr_sJ hM1
    have l1 := nRoll_lt s
    have l2 := nRoll_lt (nRoll s)
    rw [eq_X12_draws_44, if_pos (by rw [gs_nlt (by omega) (by omega)]; omega), fl_116 h]
    show ∃ M', gs_bI (gs_exec X (d + 3) 304 [.inr (.inr 116), .inl (Int32.ofNat 120)] M) _ _ = _ ∧ _
    rw [r_drawn (by decide) (by decide) h hs h31, gs_bI_s, fl_116 h1]
    show ∃ M', gs_bI (gs_exec X (d + 3) 304 [.inr (.inr 116), .inl (Int32.ofNat 60)] _) _ _ = _ ∧ _
    rw [r_drawn (by decide) (by decide) h1 (gs_sJe _ _ _ _) l1, gs_bI_s]
    have key := (r_near_loop (X := X) (d := d) (N := N) (s0 := k) (v := v) (x := Int32.ofNat (nRoll s / 65536 % 120)) (y := Int32.ofNat (nRoll (nRoll s) / 65536 % 60)) (dd := dd) (wr_ca hC hM2) n5 0 F (by omega)).2
    rw [wr_nr hM2] at key
    obtain ⟨M', e', w'⟩ := ih (k + 1) F (nRoll (nRoll s)) _ _ hM2 (gs_sJe _ _ _ _) l2 (by omega) (by omega)
    exact ⟨M', key.trans e', w'⟩
def f_draws (m : gs_M) (n5 : Nat) (x y w : Int32) : Int32 := if x < 0 then -1 else if isBt y 1 500 then (if isBt w 0 60 then f_dr m n5 w y.toInt.toNat x.toInt.toNat 0 else -1) else -1
theorem i_pos (h : ¬ x < 0) : x = Int32.ofNat x.toInt.toNat ∧ x.toInt.toNat < 2147483648 := by
  have h1 : ¬ x.toInt < 0 := fun q => h (i_lt.mpr q)
  have h2 := x.toInt_lt
  refine ⟨?_, by omega⟩
  rw [i_eq, gs_n32 (by omega)]
  omega
theorem i_500 (h : isBt y 1 500) : ∃ N, N ≤ 500 ∧ y = Int32.ofNat N ∧ y.toInt.toNat = N := by
  have hb := i_bt.mp h
  have e1 : (1 : Int32).toInt = 1 := rfl
  have e5 : (500 : Int32).toInt = 500 := rfl
  refine ⟨y.toInt.toNat, by omega, ?_, rfl⟩
  rw [i_eq, gs_n32 (by omega)]
  omega
theorem x_draws (hX : gs_Fu X) (hC : gs_Ca m T n5 blur) : ∃ M, gs_exec X (d + 4) 154 [.inr (.inr 0), .inl x, .inl y, .inl w] m = gs_rI (f_draws m n5 x y w) M ∧ gs_Wr m M := by
  have h := hC.1
  unfold f_draws
  rw [eq_X11_draws]
  by_cases hx : x < 0
  · rw [if_pos hx, if_pos hx]
    exact ⟨_, rfl, wr_refl m⟩
  · rw [if_neg hx, if_neg hx]
    obtain ⟨ex, bx⟩ := i_pos hx
    by_cases hy : isBt y 1 500
    · rw [if_neg hy.1, if_neg hy.2, if_pos hy, x_isWidth, gs_bI_s, b2_if]
      by_cases hw : isBt w 0 60
      · rw [if_pos hw, if_pos hw, fl_0 h]
        obtain ⟨N, hN, rfl, eN⟩ := i_500 hy
        rw [eN]
        exact x_draws_loop hX hC hN N 0 X.1 x.toInt.toNat 0 (gs_sI m 0 4 x) (wr_sI (wr_refl m) gs_rs09) ((gs_sIe _ _ _ _).trans ex) (by omega) (by unfold gs_Fu at hX; omega)
      · rw [if_neg hw, if_neg hw]
        exact ⟨_, rfl, wr_refl m⟩
    · rw [if_neg hy]
      refine ⟨_, ?_, wr_refl m⟩
      by_cases a1 : y < 1
      · rw [if_pos a1]
      · rw [if_neg a1, if_pos]
        by_cases a2 : 500 < y
        · exact a2
        · exact absurd ⟨a1, a2⟩ hy
theorem r_draws (hX : gs_Fu X) (hC : gs_Ca m T n5 blur) : ∃ M, gs_exec X (d + 4) 305 [.inr (.inr 116), .inl x, .inl y, .inl w] m = gs_rI (f_draws m n5 x y w) M ∧ gs_Wr m M := by
  have hW : gs_Wr m (gs_sI m 116 2 0) := wr_thr
  have h := hC.1
  have hs := wr_sh h hW
  unfold f_draws
  rw [eq_X12_draws, fl_116 h]
  show ∃ M, (if x < 0 then gs_rI (-1) (gs_sI m 116 2 0) else gs_bI (gs_exec X (d + 3) 175 [.inl y, .inl 1, .inl 500] (gs_sI m 116 2 0)) _ _) = _ ∧ _
  by_cases hx : x < 0
  · rw [if_pos hx, if_pos hx]
    exact ⟨_, rfl, hW⟩
  · rw [if_neg hx, if_neg hx, r_isIn, gs_bI_s, b2_if]
    obtain ⟨ex, bx⟩ := i_pos hx
    by_cases hy : isBt y 1 500
    · rw [if_pos hy, if_pos hy, r_isIn, gs_bI_s, b2_if]
      by_cases hw : isBt w 0 60
      · rw [if_pos hw, if_pos hw, fl_116 hs]
        obtain ⟨N, hN, rfl, eN⟩ := i_500 hy
        rw [eN]
        exact r_draws_loop hX hC hN N 0 X.1 x.toInt.toNat 0 (gs_sJ (gs_sI m 116 2 0) 116 59 (Int32.toInt64 x)) (wr_sJ hW) ((gs_sJe _ _ _ _).trans (by rw [← l_32 bx, ← ex])) bx (by omega) (by unfold gs_Fu at hX; omega)
      · rw [if_neg hw, if_neg hw]
        exact ⟨_, rfl, hW⟩
    · rw [if_neg hy, if_neg hy]
      exact ⟨_, rfl, hW⟩
end DRW
