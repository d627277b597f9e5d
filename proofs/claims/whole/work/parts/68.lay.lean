/-! Events reckoned, in both classes. -/
/-- what the class keeps of events -/
def gs_EC (m : gs_M) (n turn kn : Nat) (D : Int32) (r : Nat → Nat) : Prop := gs_Evs (oneP m turn) (trd kn D) n r ∧ ∀ g, g < 12 → m.2.1 17 g = evI kn D r g
def gs_CE (m : gs_M) (n turn kn : Nat) (D : Int32) : Prop := m.2.1 0 8 = 0 → ∃ r, gs_EC m n turn kn D r
theorem oneP_wd {m M : gs_M} {turn : Nat} (hW : gs_Wd m M) : oneP M turn = oneP m turn := by
  funext a b
  unfold oneP
  rw [wd_oneA hW]
def nSm (r : Nat → Nat) : Nat → Nat
  | 0 => 0
  | k + 1 => nSm r k + r k
def r_up (r : Nat → Nat) (b v : Nat) (g : Nat) : Nat := if g = b then v else r g
theorem nSm_le {r : Nat → Nat} : ∀ k, (∀ g, g < k → r g ≤ g) → nSm r k ≤ 12 * k ∨ 12 < k
  | 0, _ => Or.inl (Nat.zero_le _)
  | k + 1, h => by
    rcases nSm_le k (fun g hg => h g (by omega)) with q | q
    · have := h k (by omega)
      by_cases z : 12 < k + 1
      · exact Or.inr z
      · left
        show nSm r k + r k ≤ 12 * (k + 1)
        omega
    · right; omega
theorem nSm_up {r : Nat → Nat} {b v : Nat} (hv : v < r b) : ∀ k, nSm (r_up r b v) k ≤ nSm r k ∧ (b < k → nSm (r_up r b v) k < nSm r k)
  | 0 => ⟨Nat.le_refl _, fun h => by omega⟩
  | k + 1 => by
    obtain ⟨h1, h2⟩ := nSm_up hv k
    show nSm (r_up r b v) k + r_up r b v k ≤ nSm r k + r k ∧ (b < k + 1 → nSm (r_up r b v) k + r_up r b v k < nSm r k + r k)
    unfold r_up at h1 h2 ⊢
    by_cases e : k = b
    · subst e
      rw [if_pos rfl]
      exact ⟨by omega, fun _ => by omega⟩
    · rw [if_neg e]
      exact ⟨by omega, fun h => by have := h2 (by omega); omega⟩
theorem root_up {one : Nat → Nat → Prop} {tr : Nat → Prop} {n : Nat} {r : Nat → Nat} (hr : gs_root one tr n r) {a b : Nat} (ha : a < n) (hb : b < n) (ta : tr a) (tb : tr b) (ho : one a b) (hlt : r a < r b) : gs_root one tr n (r_up r b (r a)) := by
  intro g hg tg
  unfold r_up
  by_cases e : g = b
  · subst e
    rw [if_pos rfl]
    exact root_to hr ha hb ta tb ho hg tg (by omega) rfl
  · rw [if_neg e]
    exact hr g hg tg
/-- no pair so far that would change -/
def gs_NV (one : Nat → Nat → Prop) (tr : Nat → Prop) (n : Nat) (r : Nat → Nat) (a b : Nat) : Prop := ∀ u v, u < n → v < n → (u < a ∨ (u = a ∧ v < b)) → tr u → tr v → one u v → ¬ r u < r v
def gs_J (one : Nat → Nat → Prop) (tr : Nat → Prop) (n S : Nat) (r : Nat → Nat) (f : Nat) (a b : Nat) : Prop := (f = 0 ∧ nSm r n = S ∧ gs_NV one tr n r a b) ∨ (f = 1 ∧ nSm r n < S)
section LAY
variable {X : gs_E} {d : Nat} {m : gs_M} {T n n0 n1 n2 turn kn : Nat} {D : Int32}
theorem x_evA (hX : gs_Fu X) (hG : gs_Ga m T n n0 n1 n2 turn) (hP : gs_RP m T n n1) (hkn : kn ≤ n) : ∀ (q a F : Nat) (M : gs_M) (r : Nat → Nat), a + q = n → (q + 1) * 15 ≤ F → gs_Wx rsE m M → (∀ g, g < 12 → M.2.1 17 g = evI kn D r g) → gs_root (oneP m turn) (trd kn D) n r → respTo (oneP m turn) (trd kn D) n r a (a + 1) →
    ∃ M' r', gs_iter X (gs_exec X (d + 4)) gT_X1_reckon F 44 [(0, .inr (.inr 16)), (1, .inr (.inr T)), (3, .inl (Int32.ofNat a))] [] M = gs_rU M' ∧ gs_Wx rsE m M' ∧ (∀ g, g < 12 → M'.2.1 17 g = evI kn D r' g) ∧ gs_Evs (oneP m turn) (trd kn D) n r' := by
  have h := hG.1
  have e8 := hG.2.1
  have hn := hG.2.2.2.1
  intro q
  induction q with
  | zero =>
    intro a F M r ha hF hW hc hr ht
    obtain ⟨F, rfl⟩ : ∃ z, F = z + 1 := ⟨F - 1, by omega⟩
    have hM := wd_sh h (wd_e hW)
    have e8M : M.2.1 T 8 = Int32.ofNat n := by rw [show M.2.1 T = m.2.1 T from wd_t h (wd_e hW) 0 (by decide)]; exact e8
    refine ⟨M, r, ?_, hW, hc, hr, fun u v hu hv tu tv o => ?_⟩
    · rw [eq_X1_reckon_44, fl_t0 hM, e8M, if_neg (show ¬ Int32.ofNat a < Int32.ofNat n from fun z => by have := (gs_nlt (by omega) (by omega)).mp z; omega)]
    · rcases Nat.lt_trichotomy u v with z | z | z
      · exact ht u v z hv (Or.inl (by omega)) tu tv o
      · rw [z]
      · exact (ht v u z hu (Or.inl (by omega)) tv tu (oneP_s _ _ o)).symm
  | succ q ih =>
    intro a F M r ha hF hW hc hr ht
    obtain ⟨F, rfl⟩ : ∃ z, F = z + (n - (a + 1)) + 1 + 1 := ⟨F - (n - (a + 1)) - 2, by omega⟩
    have hM := wd_sh h (wd_e hW)
    have e8M : M.2.1 T 8 = Int32.ofNat n := by rw [show M.2.1 T = m.2.1 T from wd_t h (wd_e hW) 0 (by decide)]; exact e8
    obtain ⟨M1, r1, e1, hW1, hc1, hr1, ht1⟩ := x_evB (X := X) (d := d) hX hG hP hkn (show a < n by omega) (n - (a + 1)) (a + 1) F M r (by omega) (by omega) hW hc hr ht
    obtain ⟨M2, r2, e2, k1, k2, k3⟩ := ih (a + 1) F M1 r1 (by omega) (by omega) hW1 hc1 hr1 (fun u v huv hv hor tu tv o => by
      rcases hor with z | ⟨z1, z2⟩
      · by_cases zz : u = a
        · exact ht1 u v huv hv (Or.inr ⟨zz, hv⟩) tu tv o
        · exact ht1 u v huv hv (Or.inl (by omega)) tu tv o
      · omega)
    refine ⟨M2, r2, ?_, k1, k2, k3⟩
    rw [eq_X1_reckon_44, fl_t0 hM, e8M, if_pos (show Int32.ofNat a < Int32.ofNat n from (gs_nlt (by omega) (by omega)).mpr (by omega)), gs_ns, e1, e2]
theorem x_reckonE (hX : gs_Fu X) (hG : gs_Ga m T n n0 n1 n2 turn) (hP : gs_RP m T n n1) (hkn : kn ≤ n) : ∃ M' r', gs_exec X (d + 5) 11 [.inr (.inr 16), .inr (.inr T), .inl (trv kn D)] m = gs_rU M' ∧ gs_Wx rsE m M' ∧ (∀ g, g < 12 → M'.2.1 17 g = evI kn D r' g) ∧ gs_Evs (oneP m turn) (trd kn D) n r' := by
  have hn := hG.2.2.2.1
  obtain ⟨F, hF⟩ : ∃ z, X.1 = z + 12 + 1 := ⟨X.1 - 13, by unfold gs_Fu at hX; omega⟩
  obtain ⟨M1, e1, hW1, hc1⟩ := x_evI_loop (X := X) (d := d + 4) (t := trv kn D) hG.1 hG.2.1 hn hkn rfl 12 0 F m (wx_refl m) rfl (fun g hg => by omega)
  obtain ⟨M2, r2, e2, k1, k2, k3⟩ := x_evA (X := X) (d := d) hX hG hP hkn n 0 F M1 (fun g => g) (by omega) (by unfold gs_Fu at hX; omega) hW1 hc1 root_id (fun u v huv hv hor => by omega)
  refine ⟨M2, r2, ?_, k1, k2, k3⟩
  rw [eq_X1_reckon, hF]
  exact e1.trans e2
theorem x_reckonEvents (hX : gs_Fu X) (hG : gs_Ga m T n n0 n1 n2 turn) (hP : gs_RP m T n n1) (hK : gs_Kn m n kn D) (hC : gs_CE m n turn kn D) : ∃ M r, gs_exec X (d + 6) 169 [.inr (.inr 0)] m = gs_rU M ∧ gs_Wx rsE m M ∧ M.2.1 0 8 = 0 ∧ gs_EC M n turn kn D r := by
  have h := hG.1
  rw [eq_X11_reckonEvents, fl_0 h]
  by_cases hz : m.2.1 0 8 = 0
  · obtain ⟨r, hr⟩ := hC hz
    rw [if_pos hz]
    exact ⟨m, r, rfl, wx_refl m, hz, hr⟩
  · obtain ⟨M, r, e, hW, hc, hE⟩ := x_reckonE (X := X) (d := d) (kn := kn) (D := D) hX hG hP hK.2.1
    have hM := wd_sh h (wd_e hW)
    have hW2 : gs_Wx rsE m (gs_sI M 0 8 0) := wx_sI hW (Or.inr (Or.inr ⟨rfl, rfl⟩))
    refine ⟨gs_sI M 0 8 0, r, ?_, hW2, gs_sIe _ _ _ _, ?_, fun g hg => ?_⟩
    · rw [if_neg hz, fl_0 h, sh_0_2 h, gs_nn_s, fl_0 h, sh_told h, gs_nn_s, fl_0 h, x_trusted h hK, gs_bI_s, fl_16 h, e, gs_bU_s, fl_0 hM, gs_bt0]
    · rw [oneP_wd (wd_e hW2)]
      exact hE
    · rw [gs_sIn (Or.inl (by decide))]
      exact hc g hg
/-! the reference -/
theorem r_i151 {M : gs_M} {g : Nat} (h : gs_Sh M T) (hg : g < 12) {K : Nat → gs_O} : gs_ix M 151 13 (Int32.ofNat g) K = K g := gs_ixn h.1 rfl hg
theorem rs151 (i : Nat) : gs_rs 151 i := Or.inr (Or.inl ⟨by decide, by decide⟩)
theorem r_evI_loop (h : gs_Sh m T) (e3 : m.2.1 119 3 = Int32.ofNat n) (hn : n ≤ 12) (hK : gs_Kn m n kn D) : ∀ (q k F : Nat) (M : gs_M), gs_Wr m M → k + q = n → (∀ g, g < k → M.2.1 151 g = evI kn D (fun g => g) g) →
    ∃ M', gs_iter X (gs_exec X (d + 2)) gT_X12_layEvents (F + q + 1) 9 [(0, .inr (.inr 116)), (1, .inl (Int32.ofNat n)), (2, .inl (Int32.ofNat k))] [] M = gs_iter X (gs_exec X (d + 2)) gT_X12_layEvents F 41 [(0, .inr (.inr 116)), (1, .inl (Int32.ofNat n)), (2, .inl (Int32.ofNat 1))] [] M' ∧ gs_Wr m M' ∧ ∀ g, g < n → M'.2.1 151 g = evI kn D (fun g => g) g := by
  intro q
  induction q with
  | zero =>
    intro k F M hW hk h1
    refine ⟨M, ?_, hW, fun g hg => h1 g (by omega)⟩
    show gs_iter X (gs_exec X (d + 2)) gT_X12_layEvents (F + 1) 9 _ [] M = _
    rw [eq_X12_layEvents_9, if_neg (show ¬ Int32.ofNat k < Int32.ofNat n from fun z => by have := (gs_nlt (by omega) (by omega)).mp z; omega)]
    rfl
  | succ q ih =>
    intro k F M hW hk h1
    have hM := wr_sh h hW
    have e3M : M.2.1 119 3 = Int32.ofNat n := by rw [wr_cell hW 119 (by decide) (by decide)]; exact e3
    have st : ∀ v : Int32, v = evI kn D (fun g => g) k → ∃ M', gs_iter X (gs_exec X (d + 2)) gT_X12_layEvents (F + q + 1) 9 [(0, .inr (.inr 116)), (1, .inl (Int32.ofNat n)), (2, .inl (Int32.ofNat k + 1))] [] (gs_sI M 151 k v) = gs_iter X (gs_exec X (d + 2)) gT_X12_layEvents F 41 [(0, .inr (.inr 116)), (1, .inl (Int32.ofNat n)), (2, .inl (Int32.ofNat 1))] [] M' ∧ gs_Wr m M' ∧ ∀ g, g < n → M'.2.1 151 g = evI kn D (fun g => g) g := by
      intro v hv
      rw [gs_ns]
      refine ih (k + 1) F _ (wr_sI hW (rs151 k)) (by omega) (fun g hg => ?_)
      by_cases eg : g = k
      · subst eg
        rw [gs_sIe, hv]
      · rw [gs_sIn (Or.inr eg)]
        exact h1 g (by omega)
    show ∃ M', gs_iter X (gs_exec X (d + 2)) gT_X12_layEvents (F + q + 1 + 1) 9 _ [] M = _ ∧ _
    rw [eq_X12_layEvents_9, if_pos (show Int32.ofNat k < Int32.ofNat n from (gs_nlt (by omega) (by omega)).mpr (by omega)), fl_116 hM, sh_116_58 hM, gs_nn_s, fl_116 hM, r_counts hM (wd_kn hK (wd_r hW)) e3M hn (by omega), gs_bI_s, b2_if]
    by_cases c2 : trd kn D k
    · rw [if_pos c2, r_i151 hM (by omega)]
      exact st _ (by unfold evI; rw [if_pos c2])
    · rw [if_neg c2, r_i151 hM (by omega)]
      exact st _ (by unfold evI; rw [if_neg c2])
theorem r_evB (hX : gs_Fu X) (hG : gs_Ga m T n n0 n1 n2 turn) (hkn : kn ≤ n) {a S : Nat} (ha : a < n) : ∀ (q b F f : Nat) (M : gs_M) (r : Nat → Nat), b + q = n → gs_Wr m M → (∀ g, g < n → M.2.1 151 g = evI kn D r g) → gs_root (oneP m turn) (trd kn D) n r → gs_J (oneP m turn) (trd kn D) n S r f a b →
    ∃ M' r' f', gs_iter X (gs_exec X (d + 4)) gT_X12_layEvents (F + q + 1) 57 [(0, .inr (.inr 116)), (1, .inl (Int32.ofNat n)), (2, .inl (Int32.ofNat f)), (3, .inl (Int32.ofNat a)), (4, .inl (Int32.ofNat b))] [] M = gs_iter X (gs_exec X (d + 4)) gT_X12_layEvents F 49 [(0, .inr (.inr 116)), (1, .inl (Int32.ofNat n)), (2, .inl (Int32.ofNat f')), (3, .inl (Int32.ofNat (a + 1)))] [] M' ∧ gs_Wr m M' ∧ (∀ g, g < n → M'.2.1 151 g = evI kn D r' g) ∧ gs_root (oneP m turn) (trd kn D) n r' ∧ gs_J (oneP m turn) (trd kn D) n S r' f' a n := by
  have h := hG.1
  have hn := hG.2.2.2.1
  intro q
  induction q with
  | zero =>
    intro b F f M r hb hW hc hr hJ
    refine ⟨M, r, f, ?_, hW, hc, hr, ?_⟩
    · show gs_iter X (gs_exec X (d + 4)) gT_X12_layEvents (F + 1) 57 _ [] M = _
      rw [eq_X12_layEvents_57, if_neg (show ¬ Int32.ofNat b < Int32.ofNat n from fun z => by have := (gs_nlt (by omega) (by omega)).mp z; omega), gs_ns]
    · have e : b = n := by omega
      rw [e] at hJ
      exact hJ
  | succ q ih =>
    intro b F f M r hb hW hc hr hJ
    have hM := wr_sh h hW
    have go := fun (r' : Nat → Nat) (f' : Nat) (M' : gs_M) h1 h2 h3 h4 => ih (b + 1) F f' M' r' (by omega) h1 h2 h3 h4
    have hra : trd kn D a → r a < 12 := fun t => by have := (hr a ha t).1; omega
    have hrb : trd kn D b → r b < 12 := fun t => by have := (hr b (by omega) t).1; omega
    have skip : (¬ (trd kn D a ∧ trd kn D b ∧ oneP m turn a b ∧ r a < r b)) → gs_J (oneP m turn) (trd kn D) n S r f a (b + 1) := fun hno => by
      rcases hJ with ⟨j1, j2, j3⟩ | hJ
      · refine Or.inl ⟨j1, j2, fun u v hu hv hor tu tv o => ?_⟩
        rcases hor with z | ⟨z1, z2⟩
        · exact j3 u v hu hv (Or.inl z) tu tv o
        · by_cases zz : v = b
          · subst z1; subst zz
            exact fun z => hno ⟨tu, tv, o, z⟩
          · exact j3 u v hu hv (Or.inr ⟨z1, by omega⟩) tu tv o
      · exact Or.inr hJ
    show ∃ M' r' f', gs_iter X (gs_exec X (d + 4)) gT_X12_layEvents (F + q + 1 + 1) 57 _ [] M = _ ∧ _
    rw [eq_X12_layEvents_57, if_pos (show Int32.ofNat b < Int32.ofNat n from (gs_nlt (by omega) (by omega)).mpr (by omega)), gs_ns]
    by_cases eab : a = b
    · rw [if_pos (congrArg Int32.ofNat eab)]
      exact go r f M hW hc hr (skip (fun z => by rw [eab] at z; omega))
    · rw [if_neg (fun z => eab ((n_eq (by omega) (by omega)).mp z)), fl_116 hM, sh_116_58 hM, gs_nn_s, r_i151 hM (by omega), hc a ha]
      by_cases ta : trd kn D a
      · have hra := hra ta
        have ea : evI kn D r a = Int32.ofNat (r a) := by unfold evI; rw [if_pos ta]
        rw [ea, if_neg (gs_nneg (by omega)), fl_116 hM, gs_nn_s, r_i151 hM (by omega), hc b (by omega)]
        by_cases tb : trd kn D b
        · have hrb := hrb tb
          have eb : evI kn D r b = Int32.ofNat (r b) := by unfold evI; rw [if_pos tb]
          rw [eb, if_neg (gs_nneg (by omega)), fl_116 hM, gs_nn_s, r_i151 hM (by omega), hc a ha, fl_116 hM, gs_nn_s, r_i151 hM (by omega), hc b (by omega), ea, eb]
          by_cases hlt : r a < r b
          · obtain ⟨hs, -, -, -, g0, g1, -, -, g9, gt, -, -, gV⟩ := wr_ga hG hW
            rw [if_pos ((gs_nlt (by omega) (by omega)).mpr hlt), fl_116 hM, r_isOne (d := d) hX hM gV hn g0 g1 g9 gt ha (show b < n by omega), gs_bI_s, wd_oneA (wd_r hW)]
            by_cases o : f_oneA m turn a b = 0
            · rw [if_pos o]
              exact go r f M hW hc hr (skip (fun z => by have z3 := z.2.2.1; unfold oneP at z3; rw [o] at z3; exact absurd z3 (by decide)))
            · have o1 : oneP m turn a b := by
                rcases f_oneA01 (m := m) (turn := turn) (a := a) (b := b) with z | z
                · exact absurd z o
                · exact z
              rw [if_neg o, fl_116 hM, sh_116_58 hM, gs_nn_s, fl_116 hM, gs_nn_s, r_i151 hM (by omega), r_i151 hM (by omega), hc a ha, ea]
              refine go (r_up r b (r a)) 1 (gs_sI M 151 b (Int32.ofNat (r a))) (wr_sI hW (rs151 b)) (fun g hg => ?_) (root_up hr ha (by omega) ta tb o1 hlt) ?_
              · unfold evI r_up
                by_cases eg : g = b
                · subst eg
                  rw [gs_sIe, if_pos tb, if_pos rfl]
                · rw [gs_sIn (Or.inr eg), hc g hg, if_neg eg]
                  rfl
              · have hu := (nSm_up (r := r) (b := b) hlt n).2 (by omega)
                rcases hJ with ⟨j1, j2, j3⟩ | ⟨j1, j2⟩
                · exact Or.inr ⟨rfl, by omega⟩
                · exact Or.inr ⟨rfl, by omega⟩
          · rw [if_neg (fun z => hlt ((gs_nlt (by omega) (by omega)).mp z))]
            exact go r f M hW hc hr (skip (fun z => hlt z.2.2.2))
        · rw [evI_neg_t tb, if_pos (show (-1 : Int32) < 0 by decide)]
          exact go r f M hW hc hr (skip (fun z => tb z.2.1))
      · rw [evI_neg_t ta, if_pos (show (-1 : Int32) < 0 by decide)]
        exact go r f M hW hc hr (skip (fun z => ta z.1))
theorem r_evA (hX : gs_Fu X) (hG : gs_Ga m T n n0 n1 n2 turn) (hkn : kn ≤ n) {S : Nat} : ∀ (q a F f : Nat) (M : gs_M) (r : Nat → Nat), a + q = n → gs_Wr m M → (∀ g, g < n → M.2.1 151 g = evI kn D r g) → gs_root (oneP m turn) (trd kn D) n r → gs_J (oneP m turn) (trd kn D) n S r f a 0 →
    ∃ M' r' f', gs_iter X (gs_exec X (d + 4)) gT_X12_layEvents (F + q * (n + 2) + 1) 49 [(0, .inr (.inr 116)), (1, .inl (Int32.ofNat n)), (2, .inl (Int32.ofNat f)), (3, .inl (Int32.ofNat a))] [] M = gs_iter X (gs_exec X (d + 4)) gT_X12_layEvents F 41 [(0, .inr (.inr 116)), (1, .inl (Int32.ofNat n)), (2, .inl (Int32.ofNat f'))] [] M' ∧ gs_Wr m M' ∧ (∀ g, g < n → M'.2.1 151 g = evI kn D r' g) ∧ gs_root (oneP m turn) (trd kn D) n r' ∧ gs_J (oneP m turn) (trd kn D) n S r' f' n 0 := by
  have h := hG.1
  have hn := hG.2.2.2.1
  intro q
  induction q with
  | zero =>
    intro a F f M r ha hW hc hr hJ
    refine ⟨M, r, f, ?_, hW, hc, hr, ?_⟩
    · rw [Nat.zero_mul, Nat.add_zero, eq_X12_layEvents_49, if_neg (show ¬ Int32.ofNat a < Int32.ofNat n from fun z => by have := (gs_nlt (by omega) (by omega)).mp z; omega)]
    · have e : a = n := by omega
      rw [e] at hJ
      exact hJ
  | succ q ih =>
    intro a F f M r ha hW hc hr hJ
    obtain ⟨M1, r1, f1, e1, hW1, hc1, hr1, hJ1⟩ := r_evB (X := X) (d := d) hX hG hkn (show a < n by omega) n 0 (F + q * (n + 2) + 1) f M r (by omega) hW hc hr hJ
    have hJ2 : gs_J (oneP m turn) (trd kn D) n S r1 f1 (a + 1) 0 := by
      rcases hJ1 with ⟨j1, j2, j3⟩ | j
      · refine Or.inl ⟨j1, j2, fun u v hu hv hor tu tv o => ?_⟩
        rcases hor with z | ⟨z1, z2⟩
        · by_cases zz : u = a
          · exact j3 u v hu hv (Or.inr ⟨zz, hv⟩) tu tv o
          · exact j3 u v hu hv (Or.inl (by omega)) tu tv o
        · omega
      · exact Or.inr j
    obtain ⟨M2, r2, f2, e2, k⟩ := ih (a + 1) F f1 M1 r1 (by omega) hW1 hc1 hr1 hJ2
    refine ⟨M2, r2, f2, ?_, k⟩
    have eF : F + (q + 1) * (n + 2) + 1 = F + q * (n + 2) + 1 + n + 1 + 1 := by rw [Nat.succ_mul]; omega
    rw [eF, eq_X12_layEvents_49, if_pos (show Int32.ofNat a < Int32.ofNat n from (gs_nlt (by omega) (by omega)).mpr (by omega))]
    exact e1.trans e2
theorem r_evPass (hX : gs_Fu X) (hG : gs_Ga m T n n0 n1 n2 turn) (hkn : kn ≤ n) (G : Nat) (M : gs_M) (r : Nat → Nat) (hW : gs_Wr m M) (hc : ∀ g, g < n → M.2.1 151 g = evI kn D r g) (hr : gs_root (oneP m turn) (trd kn D) n r) :
    ∃ M' r' f', gs_iter X (gs_exec X (d + 4)) gT_X12_layEvents (G + n * (n + 2) + 1 + 1) 41 [(0, .inr (.inr 116)), (1, .inl (Int32.ofNat n)), (2, .inl (Int32.ofNat 1))] [] M = gs_iter X (gs_exec X (d + 4)) gT_X12_layEvents G 41 [(0, .inr (.inr 116)), (1, .inl (Int32.ofNat n)), (2, .inl (Int32.ofNat f'))] [] M' ∧ gs_Wr m M' ∧ (∀ g, g < n → M'.2.1 151 g = evI kn D r' g) ∧ gs_root (oneP m turn) (trd kn D) n r' ∧ gs_J (oneP m turn) (trd kn D) n (nSm r n) r' f' n 0 := by
  obtain ⟨M1, r1, f1, e1, k⟩ := r_evA (X := X) (d := d) (S := nSm r n) hX hG hkn n 0 G 0 M r (by omega) hW hc hr (Or.inl ⟨rfl, rfl, fun u v hu hv hor => by omega⟩)
  refine ⟨M1, r1, f1, ?_, k⟩
  rw [eq_X12_layEvents_41, if_neg (show ¬ Int32.ofNat 1 = 0 by decide)]
  exact e1
theorem r_evS (hX : gs_Fu X) (hG : gs_Ga m T n n0 n1 n2 turn) (hkn : kn ≤ n) : ∀ (S F : Nat) (M : gs_M) (r : Nat → Nat), nSm r n < S → S * 200 ≤ F → gs_Wr m M → (∀ g, g < n → M.2.1 151 g = evI kn D r g) → gs_root (oneP m turn) (trd kn D) n r →
    ∃ M' r', gs_iter X (gs_exec X (d + 4)) gT_X12_layEvents F 41 [(0, .inr (.inr 116)), (1, .inl (Int32.ofNat n)), (2, .inl (Int32.ofNat 1))] [] M = gs_rU M' ∧ gs_Wr m M' ∧ (∀ g, g < n → M'.2.1 151 g = evI kn D r' g) ∧ gs_Evs (oneP m turn) (trd kn D) n r' := by
  have pass := fun G M r hW hc hr => r_evPass (X := X) (d := d) (kn := kn) (D := D) hX hG hkn G M r hW hc hr
  have hnn : n * (n + 2) ≤ 168 := Nat.mul_le_mul hG.2.2.2.1 (show n + 2 ≤ 14 by have := hG.2.2.2.1; omega)
  generalize n * (n + 2) = z at pass hnn
  intro S
  induction S with
  | zero => intro F M r hS; omega
  | succ S ih =>
    intro F M r hS hF hW hc hr
    have hF1 : S * 200 + 200 ≤ F := by omega
    obtain ⟨G, hG1, hG2⟩ : ∃ G, F = G + 1 + z + 1 + 1 ∧ S * 200 ≤ G + 1 := ⟨F - z - 3, by omega, by omega⟩
    obtain ⟨M1, r1, f1, e1, hW1, hc1, hr1, hJ1⟩ := pass (G + 1) M r hW hc hr
    rw [← hG1] at e1
    rw [e1]
    rcases hJ1 with ⟨j1, j2, j3⟩ | ⟨j1, j2⟩
    · refine ⟨M1, r1, ?_, hW1, hc1, hr1, fun u v hu hv tu tv o => ?_⟩
      · rw [j1, eq_X12_layEvents_41, if_pos (show Int32.ofNat 0 = 0 from rfl)]
      · have a1 := j3 u v hu hv (Or.inl hu) tu tv o
        have a2 := j3 v u hv hu (Or.inl hv) tv tu (oneP_s _ _ o)
        exact Nat.le_antisymm (Nat.le_of_not_lt a2) (Nat.le_of_not_lt a1)
    · rw [j1]
      exact ih (G + 1) M1 r1 (Nat.lt_of_lt_of_le j2 (Nat.le_of_lt_succ hS)) hG2 hW1 hc1 hr1
theorem r_layEvents (hX : gs_Fu X) (hG : gs_Ga m T n n0 n1 n2 turn) (hK : gs_Kn m n kn D) : ∃ M r, gs_exec X (d + 5) 277 [.inr (.inr 116)] m = gs_rU M ∧ gs_Wr m M ∧ (∀ g, g < n → M.2.1 151 g = evI kn D r g) ∧ gs_Evs (oneP m turn) (trd kn D) n r := by
  have h := hG.1
  have e3 := hG.2.2.1
  have hn := hG.2.2.2.1
  obtain ⟨F, hF⟩ : ∃ z, X.1 = z + n + 1 := ⟨X.1 - (n + 1), by unfold gs_Fu at hX; omega⟩
  obtain ⟨M1, e1, hW1, hc1⟩ := r_evI_loop (X := X) (d := d + 2) h e3 hn hK n 0 F m (wr_refl m) (by omega) (fun g hg => by omega)
  have hS : nSm (fun g => g) n ≤ 144 := by
    rcases nSm_le (r := fun g => g) n (fun g _ => Nat.le_refl _) with z | z
    · omega
    · omega
  obtain ⟨M2, r2, e2, k1, k2, k3⟩ := r_evS (X := X) (d := d) (kn := kn) (D := D) hX hG hK.2.1 145 F M1 (fun g => g) (Nat.lt_succ_of_le hS) (by unfold gs_Fu at hX; omega) hW1 hc1 root_id
  refine ⟨M2, r2, ?_, k1, k2, k3⟩
  rw [eq_X12_layEvents, fl_116 h, sh_116_12 h, gs_nn_s, gs_ixe h.1 (show gs_ok 119 13 153 = true from rfl) (show gs_in 3 (gs_len 119) = true from rfl)]
  show gs_iter X (gs_exec X (d + 4)) gT_X12_layEvents X.1 9 [(0, .inr (.inr 116)), (1, .inl (m.2.1 119 3)), (2, .inl (Int32.ofNat 0))] [] m = _
  rw [e3, hF]
  exact e1.trans e2
end LAY
