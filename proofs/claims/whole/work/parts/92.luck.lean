/-! Luck (the class). -/
def nLk (m : gs_M) (n n5 blur limit kn : Nat) (D : Int32) (s : Nat) : Nat := nCt (sgm (tlx (nTL m blur s) limit kn D) n n5) n5 n
def f_lk (m : gs_M) (n n5 blur limit kn : Nat) (D : Int32) (base : Nat) : Nat → Nat → Int32 → Int32
  | 0, _, v => v
  | q + 1, s, v => f_lk m n n5 blur limit kn D base q (sd m s n) (if nLk m n n5 blur limit kn D s < base then v else v + 1)
theorem f_lk_s (m : gs_M) (n n5 blur limit kn : Nat) (D : Int32) (base q s : Nat) (v : Int32) : f_lk m n n5 blur limit kn D base (q + 1) s v = f_lk m n n5 blur limit kn D base q (sd m s n) (if nLk m n n5 blur limit kn D s < base then v else v + 1) := rfl
section LU
variable {X : gs_E} {d : Nat} {m M : gs_M} {T n n0 n1 n2 n5 turn price blur limit kn k g c s : Nat} {D x y w : Int32} {tl tf : Nat → Nat → Nat} {dr : Nat → Nat}
theorem nCt_le {σ : Nat → Nat} : ∀ i, nCt σ k i ≤ i
  | 0 => Nat.le_refl _
  | i + 1 => by
    have := nCt_le (σ := σ) i
    show nCt σ k i + (if σ i < k then 1 else 0) ≤ i + 1
    split <;> omega
theorem x_cd_loop (hX : gs_Fu X) (h7 : m.2.1 6 7 = Int32.ofNat n) : ∀ (q i F f : Nat) (M : gs_M) (own : Nat → Nat) (t : Nat), i + q = n → q < F → gs_Wx rsF m M → kM M T n k dr own t → kI own dr k i f →
    ∃ M' f' own', gs_iter X (gs_exec X (d + 11)) gT_X4_countDrawn F 12 [(0, .inr (.inr 6)), (1, .inl (Int32.ofNat f)), (2, .inl (Int32.ofNat i))] [] M = gs_rI (Int32.ofNat f') M' ∧ gs_Wx rsF m M' ∧ kI own' dr k n f' := by
  intro q
  induction q with
  | zero =>
    intro i F f M own t hi hF hW hM hI
    obtain ⟨F, rfl⟩ : ∃ z, F = z + 1 := ⟨F - 1, by omega⟩
    have hn := hM.2.2.1
    have e7 : M.2.1 6 7 = Int32.ofNat n := (hW.2.2 6 7 (fun q => by unfold rsF at q; omega)).trans h7
    have e : i = n := by omega
    rw [e] at hI
    refine ⟨M, f, own, ?_, hW, hI⟩
    rw [eq_X4_countDrawn_12, fl_6 hM.1, e7, if_neg (by rw [gs_nlt (by omega) (by omega)]; omega)]
  | succ q ih =>
    intro i F f M own t hi hF hW hM hI
    obtain ⟨F, rfl⟩ : ∃ z, F = z + 1 := ⟨F - 1, by omega⟩
    have hn := hM.2.2.1
    have hk := hM.2.2.2.1
    have e7 : M.2.1 6 7 = Int32.ofNat n := (hW.2.2 6 7 (fun q => by unfold rsF at q; omega)).trans h7
    have hM0 := kM_tr hM 0
    have hW0 : gs_Wx rsF m (gs_sI M 6 10 (Int32.ofNat 0)) := wx_sI hW (Or.inr ⟨rfl, rfl⟩)
    have hA : kA own n k dr := fun c hc => ⟨by have := (hI.2.1 c hc).1; omega, (hI.2.1 c hc).2⟩
    rw [eq_X4_countDrawn_12, fl_6 hM.1, e7, if_pos (by rw [gs_nlt (by omega) (by omega)]; omega), fl_6 hM.1]
    show ∃ M' f' own', gs_fld (gs_sI M 6 10 (Int32.ofNat 0)) 6 4 (gs_bI (gs_exec X (d + 10 + 1) 40 [.inr (.inr 6), .inl (Int32.ofNat i), .inl (Int32.ofNat 0)] (gs_sI M 6 10 (Int32.ofNat 0))) _ _) = _ ∧ _ ∧ _
    rw [fl_6 hM0.1]
    rcases x_finds (X := X) (d := d) hX hA 10 0 _ i 0 (by omega) hM0 (by omega) hI.1 (kI_N hI) (Nat.zero_le _) with ⟨M2, own2, t2, e2, w2, m2, a2, s2⟩ | ⟨M2, t2, e2, w2, m2, f2⟩
    · rw [e2, gs_bI_s, if_neg (by decide), gs_ns, gs_ns]
      exact ih (i + 1) F (f + 1) M2 own2 t2 (by omega) (by omega) (wx_trans hW0 w2) m2 (kI_yes hk hI a2 s2)
    · rw [e2, gs_bI_s, if_pos rfl, gs_ns]
      exact ih (i + 1) F f M2 own t2 (by omega) (by omega) (wx_trans hW0 w2) m2 (kI_no hk hI f2)
theorem x_countDrawn (hX : gs_Fu X) (h : gs_Sh m T) (hn : n ≤ 12) (hk : k ≤ 10) (h7 : m.2.1 6 7 = Int32.ofNat n) (h8 : m.2.1 6 8 = Int32.ofNat k) (h15 : ∀ g, g < n → m.2.1 15 g = Int32.ofNat (dr g)) (hT : ∀ g c, g < n → c < k → tl g c = 100000 ∨ tl g c ≤ 999) (hd : ∀ g c, g < n → c < k → (tB (dr g) c ↔ tl g c ≠ 100000)) : ∃ M, gs_exec X (d + 12) 39 [.inr (.inr 6)] m = gs_rI (Int32.ofNat (nCt (sgm tl n k) k n)) M ∧ gs_Wx rsF m M := by
  obtain ⟨M1, f1, f2, f3, f4, f5, f6⟩ := x_fillI (X := X) (d := d + 10) (v := -1) hX h (show gs_ok 13 13 153 = true from rfl) (show gs_len 13 = 10 from rfl) (by decide)
  have hW1 : gs_Wx rsF m M1 := ⟨f2, f4, fun x j hn => by rw [f6 x (fun e => hn (Or.inl e))]⟩
  have hM1 : gs_Sh M1 T := by
    unfold gs_Sh at h ⊢
    rw [f2, f4]
    exact h
  obtain ⟨t, et⟩ : ∃ t : Nat, M1.2.1 6 10 = Int32.ofNat t := ⟨(M1.2.1 6 10).toBitVec.toNat, by
    apply Int32.toBitVec_inj.mp
    rw [Int32.toBitVec_ofNat']
    apply BitVec.eq_of_toNat_eq
    rw [BitVec.toNat_ofNat, Nat.mod_eq_of_lt (BitVec.isLt _)]⟩
  have kM1 : kM M1 T n k dr (fun _ => 0) t := ⟨hM1, by rw [f6 6 (by decide)]; exact h8, hn, hk, fun g hg => by rw [f6 15 (by decide)]; exact h15 g hg, fun c hc => f5 c (by omega), et⟩
  obtain ⟨M', f', own', l1, l2, l3⟩ := x_cd_loop (X := X) (d := d) (m := m) hX h7 n 0 X.1 0 M1 (fun _ => 0) t (by omega) (by unfold gs_Fu at hX; omega) hW1 kM1 kI_0
  refine ⟨M', ?_, l2⟩
  rw [eq_X4_countDrawn, fl_6 h, sh_6_6 h, gs_nn_s, f1, gs_bU_s, ← kI_end hT hk hd l3]
  exact l1
theorem tlx_v (hl : limit ≤ 999) : tlx tf limit kn D g c = 100000 ∨ tlx tf limit kn D g c ≤ 999 := by
  unfold tlx
  split
  · omega
  · exact Or.inl rfl
theorem dm_bit (hl : limit ≤ 999) (hc : c < n5) : tB (dm m blur limit kn D n5 s g) c ↔ tlx (nTL m blur s) limit kn D g c ≠ 100000 := by
  unfold dm tlx
  by_cases t : trd kn D g
  · rw [if_pos t, pm_bit]
    by_cases z : nTL m blur s g c ≤ limit
    · rw [if_pos ⟨t, z⟩]
      exact ⟨fun _ => by omega, fun _ => ⟨hc, z⟩⟩
    · rw [if_neg (fun q => z q.2)]
      exact ⟨fun q => absurd q.2 z, fun q => absurd rfl q⟩
  · rw [if_neg t, if_neg (fun q => t q.1)]
    exact ⟨fun q => absurd q (nb0 c), fun q => absurd rfl q⟩
theorem wg_pc (hW : gs_Wx rsG m M) (hC : gs_PC m n n5 tl) : gs_PC M n n5 tl := by
  obtain ⟨a, b, c7, e, f, p⟩ := hC
  refine ⟨?_, ?_, fun g c hg hc => ?_, fun g hg => ?_, ?_, ?_⟩
  · rw [hW.2.2 6 7 (fun q => by unfold rsG at q; omega)]; exact a
  · rw [hW.2.2 6 8 (fun q => by unfold rsG at q; omega)]; exact b
  · rw [hW.2.2 7 _ (fun q => by unfold rsG at q; omega)]; exact c7 g _ hg hc
  · rw [hW.2.2 14 _ (fun q => by unfold rsG at q; omega)]; exact e g hg
  · rw [hW.2.2 6 13 (fun q => by unfold rsG at q; omega)]; exact f
  · rw [hW.2.2 6 14 (fun q => by unfold rsG at q; omega)]; exact p
theorem x_lk_loop {N : Nat} (hX : gs_Fu X) (hT : gs_To m T n n0 n1 n2 n5 turn blur price) (hlim : limit ≤ 999) (hl : m.2.1 T 12 = Int32.ofNat limit) (hK : gs_Kn m n kn D) (hC : gs_PC m n n5 tl) (hN : N ≤ 20) : ∀ (q i F s : Nat) (v : Int32) (M : gs_M), i + q = N → q < F → gs_Wx rsG m M → M.2.1 0 4 = Int32.ofNat s →
    ∃ M', gs_iter X (gs_exec X (d + 12)) gT_X11_luck F 31 [(0, .inr (.inr 0)), (2, .inl (Int32.ofNat N)), (3, .inl v), (4, .inl (Int32.ofNat i))] [] M = gs_rI (f_lk m n n5 blur limit kn D (nCt (sgm tl n n5) n5 n) q s v) M' ∧ gs_Wx rsG m M' := by
  have h := hT.1.1
  have hn := hT.1.2.2.2.1
  have hk := hT.2.2.1.2.2.2.1
  intro q
  induction q with
  | zero =>
    intro i F s v M hi hF hW h9
    obtain ⟨F, rfl⟩ : ∃ z, F = z + 1 := ⟨F - 1, by omega⟩
    refine ⟨M, ?_, hW⟩
    rw [eq_X11_luck_31, if_neg (by rw [gs_nlt (by omega) (by omega)]; omega)]
    rfl
  | succ q ih =>
    intro i F s v M hi hF hW h9
    obtain ⟨F, rfl⟩ : ∃ z, F = z + 1 := ⟨F - 1, by omega⟩
    have hWd := wd_g hW
    have hM := wd_sh h hWd
    obtain ⟨M1, l1, l2, l3, l4⟩ := x_dp_loop (X := X) (d := d + 8) (s := s) hX hT hlim hl hK n 0 X.1 M (by omega) (by unfold gs_Fu at hX; omega) hW h9 (fun j hj => by omega)
    have e1 : gs_exec X (d + 12) 171 [.inr (.inr 0)] M = gs_rU M1 := by
      rw [eq_X11_drawPlaces, fl_0 hM, x_trusted (d := d + 10) hM (wd_kn hK hWd), gs_bI_s]
      exact l1
    have hM1 := wd_sh h (wd_g l2)
    have hC1 := wg_pc l2 hC
    obtain ⟨M2, k1, k2⟩ := x_countDrawn (X := X) (d := d) (m := M1) (dr := dm m blur limit kn D n5 s) (tl := tlx (nTL m blur s) limit kn D) hX hM1 hn hk hC1.1 hC1.2.1 l4 (fun g c _ _ => tlx_v hlim) (fun g c _ hc => dm_bit hlim hc)
    have hW2 : gs_Wx rsG m M2 := wx_trans l2 (wx_mono k2 (fun x i q => by
      unfold rsF at q
      unfold rsG
      omega))
    have hM2 := wd_sh h (wd_g hW2)
    have hC2 := wg_pc hW2 hC
    have n9 : M2.2.1 0 4 = Int32.ofNat (sd m s n) := (k2.2.2 0 4 (fun q => by unfold rsF at q; omega)).trans l3
    have b1 := nCt_le (σ := sgm tl n n5) (k := n5) n
    have b2 := nCt_le (σ := sgm (tlx (nTL m blur s) limit kn D) n n5) (k := n5) n
    have i1 := fun v => ih (i + 1) F (sd m s n) v M2 (by omega) (by omega) hW2 n9
    rw [f_lk_s]
    unfold nLk
    rw [eq_X11_luck_31, if_pos (by rw [gs_nlt (by omega) (by omega)]; omega), fl_0 hM, e1, gs_bU_s, fl_0 hM1, sh_0_1 hM1, gs_nn_s, fl_6 hM1, k1, gs_bI_s, fl_0 hM2, sh_0_1 hM2, gs_nn_s, fl_6 hM2, hC2.2.2.2.2.1, gs_ns]
    by_cases z : nCt (sgm (tlx (nTL m blur s) limit kn D) n n5) n5 n < nCt (sgm tl n n5) n5 n
    · rw [if_pos z, if_pos ((gs_nlt (by omega) (by omega)).mpr z)]
      exact i1 v
    · rw [if_neg z, if_neg (fun y => z ((gs_nlt (by omega) (by omega)).mp y))]
      exact i1 (v + 1)
def f_luck (m : gs_M) (n n5 price blur limit kn : Nat) (D x y : Int32) : Int32 := if x < 0 then -1 else if isBt y 1 20 then f_lk m n n5 blur limit kn D (nCt (sgm (tlF m price blur limit kn D) n n5) n5 n) y.toInt.toNat x.toInt.toNat 0 else -1
theorem i_20 (h : isBt y 1 20) : ∃ N, N ≤ 20 ∧ y = Int32.ofNat N ∧ y.toInt.toNat = N := by
  have hb := i_bt.mp h
  have e1 : (1 : Int32).toInt = 1 := rfl
  have e5 : (20 : Int32).toInt = 20 := rfl
  refine ⟨y.toInt.toNat, by omega, ?_, rfl⟩
  rw [i_eq, gs_n32 (by omega)]
  omega
theorem nLk_wd (hW : gs_Wd m M) : nLk M n n5 blur limit kn D s = nLk m n n5 blur limit kn D s := by
  unfold nLk
  rw [show nTL M blur s = nTL m blur s from funext (fun g => nTL_wf hW)]
theorem f_lk_wd {base : Nat} (hW : gs_Wd m M) : ∀ (q s : Nat) (v : Int32), f_lk M n n5 blur limit kn D base q s v = f_lk m n n5 blur limit kn D base q s v
  | 0, _, _ => rfl
  | q + 1, s, v => by
    rw [f_lk_s, f_lk_s, sd_wd hW, nLk_wd hW]
    exact f_lk_wd hW q _ _
theorem x_luck (hX : gs_Fu X) (hP : gs_Pa m T n n0 n1 n2 n5 turn blur price limit kn D) (hC : gs_CP m n n5 price blur limit kn D) : ∃ M, gs_exec X (d + 13) 155 [.inr (.inr 0), .inl x, .inl y] m = gs_rI (f_luck m n n5 price blur limit kn D x y) M ∧ gs_Wx rsP m M ∧ gs_CP M n n5 price blur limit kn D := by
  obtain ⟨a1, a2, a3, a4, a5, a6⟩ := id hP
  have h := a1.1.1
  unfold f_luck
  rw [eq_X11_luck]
  by_cases hx : x < 0
  · rw [if_pos hx, if_pos hx]
    exact ⟨m, rfl, wx_refl m, hC⟩
  rw [if_neg hx, if_neg hx]
  obtain ⟨ex, bx⟩ := i_pos hx
  by_cases hy : isBt y 1 20
  · rw [if_neg hy.1, if_neg hy.2, if_pos hy, fl_0 h]
    obtain ⟨N, hN, rfl, eN⟩ := i_20 hy
    obtain ⟨M, e, hW, h7, hPC⟩ := x_reckonPairs (X := X) (d := d + 5) hX a1 a4 a2 a5 hC
    have hWd := wd_p hW
    have hM := wd_sh h hWd
    have hPC2 := hPC
    rw [wd_tlF hWd] at hPC2
    have hTM := wd_to a1 hWd
    have hlM : M.2.1 T 12 = Int32.ofNat limit := by rw [show M.2.1 T = m.2.1 T from wd_t h hWd 0 (by decide)]; exact a2
    obtain ⟨M', l1, l2⟩ := x_lk_loop (X := X) (d := d) (m := M) hX hTM a4 hlM (wd_kn a5 hWd) hPC2 hN N 0 X.1 x.toInt.toNat 0 (gs_sI M 0 4 x) (by omega) (by unfold gs_Fu at hX; omega) (wx_sI (wx_refl M) (Or.inl ⟨rfl, rfl⟩)) ((gs_sIe _ _ _ _).trans ex)
    rw [f_lk_wd hWd] at l1
    refine ⟨M', ?_, wx_trans hW (wx_mono l2 (fun x i q => by
      unfold rsG at q
      unfold rsP gs_rs
      omega)), fun _ => ?_⟩
    · rw [e, gs_bU_s, fl_0 hM, eN]
      exact l1
    · rw [wd_tlF (wd_g l2)]
      exact wg_pc l2 hPC
  · rw [if_neg hy]
    refine ⟨m, ?_, wx_refl m, hC⟩
    by_cases b1 : y < 1
    · rw [if_pos b1]
    · rw [if_neg b1, if_pos]
      by_cases b2 : 20 < y
      · exact b2
      · exact absurd ⟨b1, b2⟩ hy
end LU
