/-! pairs, pair, asked. -/
def rsQ (x i : Nat) : Prop := rsL x i ∨ rsB x i
theorem wq_r {m M : gs_M} (h : gs_Wx rsQ m M) : gs_Wr m M := ⟨h.1, h.2.1, fun x i hn => h.2.2 x i (fun q => hn (by
  unfold rsQ at q
  rcases q with q | q
  · exact rsL_rs q
  · unfold rsB at q
    exact Or.inr (Or.inl (by omega))))⟩
section PQ
variable {X : gs_E} {d : Nat} {m M : gs_M} {T n n0 n1 n2 n5 turn price blur limit kn k g c : Nat} {D x w : Int32} {tl tf : Nat → Nat → Nat}
theorem r_layPairs (hX : gs_Fu X) (h : gs_Sh m T) (e3 : m.2.1 119 3 = Int32.ofNat n) (e5 : m.2.1 119 5 = Int32.ofNat n5) (hn : n ≤ 12) (hn5 : n5 ≤ 10) (e2 : m.2.1 122 2 = Int32.ofNat limit) (hlim : limit ≤ 999) (hK : gs_Kn m n kn D) (htf : ∀ g c, g < n → c < n5 → tf g c ≤ 3000) (hst : ∀ M g c, gs_Wx rsL m M → g < n → c < n5 → ∃ M', gs_exec X (d + 5) 264 [.inr (.inr 116), .inl (Int32.ofNat g), .inl (Int32.ofNat c)] M = gs_rI (Int32.ofNat (tf g c)) M' ∧ gs_Wx rsN M M') :
    ∃ M', gs_exec X (d + 7) 270 [.inr (.inr 116)] m = gs_rU M' ∧ gs_Wx rsQ m M' ∧ (∀ g c, g < n → c < n5 → M'.2.1 148 (10 * g + c) = Int32.ofNat (tlx tf limit kn D g c)) ∧ (∀ g, g < n → M'.2.1 150 g = pI (sgm (tlx tf limit kn D) n n5 g)) := by
  obtain ⟨M1, k1, k2, k3⟩ := r_layTolls (X := X) (d := d) hX h e3 e5 hn hn5 e2 hlim hK htf hst
  have hM1 := wr_sh h (wl_r k2)
  have e3M : M1.2.1 119 3 = Int32.ofNat n := by rw [wr_cell (wl_r k2) 119 (by decide) (by decide)]; exact e3
  have e5M : M1.2.1 119 5 = Int32.ofNat n5 := by rw [wr_cell (wl_r k2) 119 (by decide) (by decide)]; exact e5
  have hT : ∀ g c, g < n → c < n5 → tlx tf limit kn D g c = 100000 ∨ tlx tf limit kn D g c ≤ 999 := fun g c _ _ => by
    unfold tlx
    split
    · next z => right; omega
    · exact Or.inl rfl
  have hB : gs_Bp M1 T n n5 (tlx tf limit kn D) := ⟨hM1, e3M, e5M, hn, hn5, fun g c a b => k3 g c a b, hT⟩
  have hpk := pow_le10 n5 hn5
  have hA1 : 2 ^ n5 * (n5 + 2) ≤ 1024 * 12 := Nat.mul_le_mul hpk (by omega)
  have hA2 : n * (2 ^ n5 * (n5 + 2) + 2) ≤ 12 * (1024 * 12 + 2) := Nat.mul_le_mul hn (by omega)
  obtain ⟨F, hF1, hF2⟩ : ∃ F, X.1 = (F + n * (2 ^ n5 * (n5 + 2) + 2) + 1) + 2 ^ n5 + 1 ∧ 200 ≤ F := by
    unfold gs_Fu at hX
    refine ⟨X.1 - (n * (2 ^ n5 * (n5 + 2) + 2) + 2 ^ n5 + 2), ?_, ?_⟩
    · omega
    · omega
  obtain ⟨M2, a1, a2, a3⟩ := r_22 (X := X) (d := d + 6) hB hpk (2 ^ n5) 0 (F + n * (2 ^ n5 * (n5 + 2) + 2) + 1) M1 (by omega) (wx_refl M1) (fun s hs => by omega)
  obtain ⟨M3, b1, b2, b3⟩ := r_50 (X := X) (d := d + 5) hB n F M2 (Nat.le_refl _) a2 (fun g s x y z => by
    have : g = n := by omega
    rw [this, Nat.sub_self]
    exact a3 s z)
  obtain ⟨M4, c1, c2, c3, c4⟩ := r_218 (X := X) (d := d + 5) hB n 0 0 F M3 (by omega) (Nat.pow_pos (by decide)) (by omega) b2 b3
  refine ⟨M4, ?_, wx_trans (wx_mono k2 (fun _ _ y => Or.inl y)) (wx_mono c2 (fun _ _ y => Or.inr y)), fun g c hg hc => ?_, fun g hg => ?_⟩
  · rw [eq_X12_layPairs, fl_116 h, k1, gs_bU_s, fl_116 hM1, sh_116_12 hM1, gs_nn_s, r_i119_3 hM1, fl_116 hM1, gs_nn_s, r_i119_5 hM1, e3M, e5M, shl_pow n5 (by omega)]
    rw [hF1]
    exact a1.trans (b1.trans c1)
  · rw [c2.2.2 148 _ (fun q => by unfold rsB at q; omega)]
    exact k3 g c hc hg
  · have := c4 g hg
    rw [Nat.zero_add] at this
    exact this
theorem pI_neg (hn : n ≤ 12) (hk : k ≤ 10) (hg : g < n) : (pI (sgm tl n k g) < 0 ↔ ¬ sgm tl n k g < k) ∧ pI (sgm tl n k g) = sgI (sgm tl n k) k g := by
  unfold pI sgI
  rcases grd_at (tl := tl) hn hk hg with e | ⟨e1, e2⟩
  · rw [if_pos e, if_neg (by omega)]
    exact ⟨⟨fun _ => by omega, fun _ => by decide⟩, rfl⟩
  · rw [if_neg (by omega), if_pos e1]
    exact ⟨⟨fun z => absurd z (gs_nneg (by omega)), fun z => absurd e1 z⟩, rfl⟩
theorem r_pm_loop (h : gs_Sh m T) (e3 : m.2.1 119 3 = Int32.ofNat n) (hn : n ≤ 12) (hk : k ≤ 10) (h150 : ∀ g, g < n → m.2.1 150 g = pI (sgm tl n k g)) : ∀ (q g F : Nat), g + q = n → q < F → gs_iter X (gs_exec X d) gT_X12_pairMany F 4 [(0, .inr (.inr 116)), (1, .inl (Int32.ofNat (nCt (sgm tl n k) k g))), (2, .inl (Int32.ofNat g))] [] m = gs_rI (Int32.ofNat (nCt (sgm tl n k) k n)) m := by
  intro q
  induction q with
  | zero =>
    intro g F hg hF
    obtain ⟨F, rfl⟩ : ∃ y, F = y + 1 := ⟨F - 1, by omega⟩
    rw [eq_X12_pairMany_4, fl_116 h, sh_116_12 h, gs_nn_s, r_i119_3 h, e3, if_neg (fun y => by have := (gs_nlt (by omega) (by omega)).mp y; omega), show g = n by omega]
  | succ q ih =>
    intro g F hg hF
    obtain ⟨F, rfl⟩ : ∃ y, F = y + 1 := ⟨F - 1, by omega⟩
    have i := ih (g + 1) F (by omega) (by omega)
    obtain ⟨p1, -⟩ := pI_neg (tl := tl) hn hk (show g < n by omega)
    rw [eq_X12_pairMany_4, fl_116 h, sh_116_12 h, gs_nn_s, r_i119_3 h, e3, if_pos ((gs_nlt (by omega) (by omega)).mpr (by omega)), fl_116 h, sh_116_57 h, gs_nn_s, r_i150 h (by omega), h150 g (by omega), gs_ns, gs_ns, show Int32.ofNat (nCt (sgm tl n k) k g) + (0 : Int32) = Int32.ofNat (nCt (sgm tl n k) k g) by simp]
    have e : nCt (sgm tl n k) k (g + 1) = nCt (sgm tl n k) k g + (if sgm tl n k g < k then 1 else 0) := rfl
    by_cases z : sgm tl n k g < k
    · rw [if_pos z] at e
      rw [if_neg (fun y => p1.mp y z), ← e]
      exact i
    · rw [if_neg z] at e
      have e2 : nCt (sgm tl n k) k (g + 1) = nCt (sgm tl n k) k g := e
      rw [if_pos (p1.mpr z), ← e2]
      exact i
theorem r_pt_loop (h : gs_Sh m T) (e3 : m.2.1 119 3 = Int32.ofNat n) (hn : n ≤ 12) (hk : k ≤ 10) (h148 : ∀ g c, g < n → c < k → m.2.1 148 (10 * g + c) = Int32.ofNat (tl g c)) (h150 : ∀ g, g < n → m.2.1 150 g = pI (sgm tl n k g)) : ∀ (q g F : Nat), g + q = n → q < F → gs_iter X (gs_exec X d) gT_X12_pairs F 33 [(0, .inr (.inr 116)), (2, .inl (Int32.ofNat (nTt tl (sgm tl n k) k g))), (3, .inl (Int32.ofNat g))] [] m = gs_rI (Int32.ofNat (nTt tl (sgm tl n k) k n)) m := by
  intro q
  induction q with
  | zero =>
    intro g F hg hF
    obtain ⟨F, rfl⟩ : ∃ y, F = y + 1 := ⟨F - 1, by omega⟩
    rw [eq_X12_pairs_33, fl_116 h, sh_116_12 h, gs_nn_s, r_i119_3 h, e3, if_neg (fun y => by have := (gs_nlt (by omega) (by omega)).mp y; omega), show g = n by omega]
  | succ q ih =>
    intro g F hg hF
    obtain ⟨F, rfl⟩ : ∃ y, F = y + 1 := ⟨F - 1, by omega⟩
    have i := ih (g + 1) F (by omega) (by omega)
    obtain ⟨p1, -⟩ := pI_neg (tl := tl) hn hk (show g < n by omega)
    rw [eq_X12_pairs_33, fl_116 h, sh_116_12 h, gs_nn_s, r_i119_3 h, e3, if_pos ((gs_nlt (by omega) (by omega)).mpr (by omega)), fl_116 h, sh_116_57 h, gs_nn_s, r_i150 h (by omega), h150 g (by omega), gs_ns, show Int32.ofNat (nTt tl (sgm tl n k) k g) + (0 : Int32) = Int32.ofNat (nTt tl (sgm tl n k) k g) by simp]
    have e : nTt tl (sgm tl n k) k (g + 1) = nTt tl (sgm tl n k) k g + (if sgm tl n k g < k then tl g (sgm tl n k g) else 0) := rfl
    by_cases z : sgm tl n k g < k
    · rw [if_pos z] at e
      have ep : pI (sgm tl n k g) = Int32.ofNat (sgm tl n k g) := by
        unfold pI
        rw [if_neg (by omega)]
      rw [if_neg (fun y => p1.mp y z), fl_116 h, sh_116_55 h, gs_nn_s, fl_116 h, gs_nn_s, r_i150 h (by omega), h150 g (by omega), ep, r_i148 h (by omega) (by omega), h148 g _ (by omega) z, n_add, ← e]
      exact i
    · rw [if_neg z] at e
      have e2 : nTt tl (sgm tl n k) k (g + 1) = nTt tl (sgm tl n k) k g := e
      rw [if_pos (p1.mpr z), ← e2]
      exact i
/-- all that pairs need of the state -/
def gs_Pa (m : gs_M) (T n n0 n1 n2 n5 turn blur price limit kn : Nat) (D : Int32) : Prop := gs_To m T n n0 n1 n2 n5 turn blur price ∧ m.2.1 T 12 = Int32.ofNat limit ∧ m.2.1 122 2 = Int32.ofNat limit ∧ limit ≤ 999 ∧ gs_Kn m n kn D ∧ m.2.1 116 51 = 0
theorem wd_pa (hP : gs_Pa m T n n0 n1 n2 n5 turn blur price limit kn D) (hW : gs_Wd m M) (h51 : M.2.1 116 51 = m.2.1 116 51) : gs_Pa M T n n0 n1 n2 n5 turn blur price limit kn D := by
  obtain ⟨a1, a2, a3, a4, a5, a6⟩ := hP
  exact ⟨wd_to a1 hW, by rw [show M.2.1 T = m.2.1 T from wd_t a1.1.1 hW 0 (by decide)]; exact a2, by rw [wd_cell hW 122 (by decide) (by decide)]; exact a3, a4, wd_kn a5 hW, h51.trans a6⟩
theorem wr_pa (hP : gs_Pa m T n n0 n1 n2 n5 turn blur price limit kn D) (hW : gs_Wr m M) : gs_Pa M T n n0 n1 n2 n5 turn blur price limit kn D := wd_pa hP (wd_r hW) (hW.2.2 116 51 (fun q => by unfold gs_rs at q; omega))
theorem wp_pa (hP : gs_Pa m T n n0 n1 n2 n5 turn blur price limit kn D) (hW : gs_Wx rsP m M) : gs_Pa M T n n0 n1 n2 n5 turn blur price limit kn D := wd_pa hP (wd_p hW) (hW.2.2 116 51 (fun q => by unfold rsP gs_rs at q; omega))
theorem tlx_F : tlx (nTo m price blur) limit kn D = tlF m price blur limit kn D := rfl
theorem r_pairsN (hX : gs_Fu X) (hP : gs_Pa m T n n0 n1 n2 n5 turn blur price limit kn D) : ∃ M', gs_exec X (d + 7) 270 [.inr (.inr 116)] m = gs_rU M' ∧ gs_Wx rsQ m M' ∧ (∀ g c, g < n → c < n5 → M'.2.1 148 (10 * g + c) = Int32.ofNat (tlF m price blur limit kn D g c)) ∧ (∀ g, g < n → M'.2.1 150 g = pI (sgm (tlF m price blur limit kn D) n n5 g)) := by
  obtain ⟨a1, a2, a3, a4, a5, a6⟩ := hP
  exact r_layPairs (d := d) (tf := nTo m price blur) hX a1.1.1 a1.1.2.2.1 a1.2.2.1.2.2.1 a1.1.2.2.2.1 a1.2.2.1.2.2.2.1 a3 a4 a5 (fun g c hg hc => by have := (nTo_n a1 hg hc).2; omega) (fun M g c hW hg hc => by
    have hWr := wl_r hW
    have hTM := wr_to a1 hWr
    have hLM : M.2.1 116 51 = 0 := (hWr.2.2 116 51 (fun q => by unfold gs_rs at q; omega)).trans a6
    obtain ⟨M', e, hN⟩ := r_tollN (X := X) (d := d) hX hTM hLM hg hc
    refine ⟨M', ?_, hN⟩
    rw [e, (nTo_n hTM hg hc).1, wd_nTo (wd_r hWr)])
def f_pairs (tl : Nat → Nat → Nat) (n k : Nat) (x : Int32) : Int32 := if x = 0 ∨ x = 1 then (if x = 0 then Int32.ofNat (nCt (sgm tl n k) k n) else Int32.ofNat (nTt tl (sgm tl n k) k n)) else -1
def f_pair (tl : Nat → Nat → Nat) (n k : Nat) (x : Int32) : Int32 := if isIx x (Int32.ofNat n) then pI (sgm tl n k x.toInt.toNat) else -1
theorem x_pairs (hX : gs_Fu X) (hP : gs_Pa m T n n0 n1 n2 n5 turn blur price limit kn D) (hC : gs_CP m n n5 price blur limit kn D) : ∃ M, gs_exec X (d + 8) 133 [.inr (.inr 0), .inl x] m = gs_rI (f_pairs (tlF m price blur limit kn D) n n5 x) M ∧ gs_Wx rsP m M ∧ gs_CP M n n5 price blur limit kn D := by
  obtain ⟨a1, a2, a3, a4, a5, a6⟩ := id hP
  have h := a1.1.1
  unfold f_pairs
  rw [eq_X11_pairs, x_isPart, gs_bI_s, b2_if]
  by_cases hp : x = 0 ∨ x = 1
  · obtain ⟨M, e, hW, h7, hPC⟩ := x_reckonPairs (X := X) (d := d) hX a1 a4 a2 a5 hC
    have hM := wd_sh h (wd_p hW)
    refine ⟨M, ?_, hW, fun _ => hPC⟩
    rw [wd_tlF (wd_p hW)] at hPC
    obtain ⟨-, -, -, -, p13, p14⟩ := hPC
    rw [if_pos hp, if_pos hp, fl_0 h, e, gs_bU_s]
    simp only [fl_0 hM, sh_0_1 hM, gs_nn_s, fl_6 hM, p13, p14, gs_if_rI]
  · rw [if_neg hp, if_neg hp]
    exact ⟨m, rfl, wx_refl m, hC⟩
theorem r_pairs (hX : gs_Fu X) (hP : gs_Pa m T n n0 n1 n2 n5 turn blur price limit kn D) : ∃ M, gs_exec X (d + 8) 272 [.inr (.inr 116), .inl x] m = gs_rI (f_pairs (tlF m price blur limit kn D) n n5 x) M ∧ gs_Wr m M := by
  have hW0 := wr_thr (m := m) (x := 0)
  have hP2 := wr_pa hP hW0
  have h := hP.1.1.1
  have hs := hP2.1.1.1
  have hn := hP.1.1.2.2.2.1
  have hk := hP.1.2.2.1.2.2.2.1
  unfold f_pairs
  rw [eq_X12_pairs, fl_116 h]
  show ∃ M, gs_bI (gs_exec X (d + 7) 175 [.inl x, .inl 0, .inl 1] (gs_sI m 116 2 0)) gs_nt _ = _ ∧ _
  rw [r_isIn, gs_bI_s, b2_if]
  by_cases hp : x = 0 ∨ x = 1
  · obtain ⟨M, e, hW, h148, h150⟩ := r_pairsN (X := X) (d := d) hX hP2
    rw [wd_tlF (wd_r hW0)] at h148 h150
    have hWr := wq_r hW
    have hM := wr_sh hs hWr
    have e3M := (wr_ga hP2.1.1 hWr).2.2.1
    refine ⟨M, ?_, wr_trans hW0 hWr⟩
    rw [if_pos (i_part.mpr hp), if_pos hp, fl_116 hs, e, gs_bU_s]
    by_cases z : x = 0
    · rw [if_pos z, if_pos z, fl_116 hM, eq_X12_pairMany]
      have l := r_pm_loop (X := X) (d := d + 6) (tl := tlF m price blur limit kn D) hM e3M hn hk h150 n 0 X.1 (by omega) (by unfold gs_Fu at hX; omega)
      have l2 : gs_iter X (gs_exec X (d + 6)) gT_X12_pairMany X.1 4 [(0, .inr (.inr 116)), (1, .inl 0), (2, .inl 0)] [] M = _ := l
      rw [l2, gs_bI_s]
    · rw [if_neg z, if_neg z]
      exact r_pt_loop (X := X) (d := d + 7) (tl := tlF m price blur limit kn D) hM e3M hn hk h148 h150 n 0 X.1 (by omega) (by unfold gs_Fu at hX; omega)
  · rw [if_neg (fun y => hp (i_part.mp y)), if_neg hp]
    exact ⟨_, rfl, hW0⟩
theorem x_pair (hX : gs_Fu X) (hP : gs_Pa m T n n0 n1 n2 n5 turn blur price limit kn D) (hC : gs_CP m n n5 price blur limit kn D) : ∃ M, gs_exec X (d + 8) 134 [.inr (.inr 0), .inl x] m = gs_rI (f_pair (tlF m price blur limit kn D) n n5 x) M ∧ gs_Wx rsP m M ∧ gs_CP M n n5 price blur limit kn D := by
  obtain ⟨a1, a2, a3, a4, a5, a6⟩ := id hP
  obtain ⟨h, hn3, -, hn, -⟩ := id a1.1
  have hk := a1.2.2.1.2.2.2.1
  unfold f_pair
  rw [eq_X11_pair, fl_0 h, x_isGuest h, gs_bI_s, b2_if, hn3]
  by_cases hc : isIx x (Int32.ofNat n)
  · obtain ⟨g, hg, rfl, eg⟩ := i_gst hc hn
    obtain ⟨M, e, hW, h7, hPC⟩ := x_reckonPairs (X := X) (d := d) hX a1 a4 a2 a5 hC
    have hM := wd_sh h (wd_p hW)
    refine ⟨M, ?_, hW, fun _ => hPC⟩
    rw [wd_tlF (wd_p hW)] at hPC
    rw [if_pos hc, if_pos hc, fl_0 h, e, gs_bU_s, fl_0 hM, sh_0_1 hM, gs_nn_s, fl_6 hM, sh_6_11 hM, gs_nn_s, x_i14 hM (by omega), hPC.2.2.2.1 g hg, eg, (pI_neg hn hk hg).2]
  · rw [if_neg hc, if_neg hc]
    exact ⟨m, rfl, wx_refl m, hC⟩
theorem r_pair (hX : gs_Fu X) (hP : gs_Pa m T n n0 n1 n2 n5 turn blur price limit kn D) : ∃ M, gs_exec X (d + 8) 273 [.inr (.inr 116), .inl x] m = gs_rI (f_pair (tlF m price blur limit kn D) n n5 x) M ∧ gs_Wr m M := by
  have hW0 := wr_thr (m := m) (x := 0)
  have hP2 := wr_pa hP hW0
  have h := hP.1.1.1
  obtain ⟨hs, -, e3, hn, -⟩ := id hP2.1.1
  have hk := hP.1.2.2.1.2.2.2.1
  unfold f_pair
  rw [eq_X12_pair, fl_116 h]
  show ∃ M, gs_fld (gs_sI m 116 2 0) 116 11 _ = _ ∧ _
  rw [fl_116 hs, r_isGuest hs, gs_bI_s, b2_if, e3]
  by_cases hc : isIx x (Int32.ofNat n)
  · obtain ⟨g, hg, rfl, eg⟩ := i_gst hc hn
    obtain ⟨M, e, hW, h148, h150⟩ := r_pairsN (X := X) (d := d) hX hP2
    rw [wd_tlF (wd_r hW0)] at h150
    have hWr := wq_r hW
    have hM := wr_sh hs hWr
    refine ⟨M, ?_, wr_trans hW0 hWr⟩
    rw [if_pos hc, if_pos hc, fl_116 hs, e, gs_bU_s, fl_116 hM, sh_116_57 hM, gs_nn_s, r_i150 hM (by omega), h150 g hg, eg]
  · rw [if_neg hc, if_neg hc]
    exact ⟨_, rfl, hW0⟩
end PQ
