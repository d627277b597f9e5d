/-! Pairs in the reference: the table of sets. -/
def rsB (x _i : Nat) : Prop := x = 149 ∨ x = 150
theorem tb_bit {set c : Nat} (hc : c < 32) : isBit (Int32.ofNat set) (Int32.ofNat c) ↔ set.testBit c = true := by
  rw [bit_iff _ hc, Int32.toBitVec_ofNat', BitVec.getLsbD_ofNat]
  simp [hc]
theorem shl_pow : ∀ c, c ≤ 12 → ((1 : Int32) <<< (Int32.ofNat c &&& 31)) = Int32.ofNat (2 ^ c) := by decide
theorem or_pow {set c : Nat} (hc : c ≤ 12) : Int32.ofNat set ||| ((1 : Int32) <<< (Int32.ofNat c &&& 31)) = Int32.ofNat (set ||| 2 ^ c) := by
  rw [shl_pow c hc]
  apply Int32.toBitVec_inj.mp
  rw [Int32.toBitVec_or, Int32.toBitVec_ofNat', Int32.toBitVec_ofNat', Int32.toBitVec_ofNat', BitVec.ofNat_or]
theorem pow_le10 : ∀ k, k ≤ 10 → 2 ^ k ≤ 1024 := by decide
def gs_Bp (m : gs_M) (T n k : Nat) (tl : Nat → Nat → Nat) : Prop := gs_Sh m T ∧ m.2.1 119 3 = Int32.ofNat n ∧ m.2.1 119 5 = Int32.ofNat k ∧ n ≤ 12 ∧ k ≤ 10 ∧ (∀ g c, c < k → g < n → m.2.1 148 (10 * g + c) = Int32.ofNat (tl g c)) ∧ (∀ g c, g < n → c < k → tl g c = 100000 ∨ tl g c ≤ 999)
theorem bsc_le {B : Nat → Nat} {t : Nat → Nat} {set N : Nat} (hB : ∀ s, B s ≤ N) : ∀ r c v, v ≤ N + 1000000 → bsc B t set r c v ≤ N + 1000000
  | 0, _, _, h => h
  | r + 1, c, v, h => by
    rw [bsc_s]
    split
    · exact bsc_le hB r (c + 1) v h
    · have := hB (set ||| 2 ^ c)
      exact bsc_le hB r (c + 1) _ (by omega)
theorem bst_le {t : Nat → Nat → Nat} {n k : Nat} : ∀ q set, bst t n k q set ≤ 1000000 * q
  | 0, _ => Nat.le_refl _
  | q + 1, set => by
    rw [bst_s]
    have := bsc_le (B := bst t n k q) (t := t (n - (q + 1))) (set := set) (N := 1000000 * q) (fun s => bst_le q s) k 0 (bst t n k q set) (by have := bst_le (t := t) (n := n) (k := k) q set; omega)
    omega
section RPR
variable {X : gs_E} {d : Nat} {m M : gs_M} {T n k g set : Nat} {tl : Nat → Nat → Nat}
theorem wb_bp (hB : gs_Bp m T n k tl) (hW : gs_Wx rsB m M) : gs_Bp M T n k tl := by
  obtain ⟨h, e3, e5, hn, hk, h8, hT⟩ := hB
  refine ⟨?_, by rw [hW.2.2 119 3 (fun q => by unfold rsB at q; omega)]; exact e3, by rw [hW.2.2 119 5 (fun q => by unfold rsB at q; omega)]; exact e5, hn, hk, fun g c hc hg => by rw [hW.2.2 148 _ (fun q => by unfold rsB at q; omega)]; exact h8 g c hc hg, hT⟩
  unfold gs_Sh at h ⊢
  rw [hW.1, hW.2.1]
  exact h
theorem r_i149 {M : gs_M} {a b : Nat} (h : gs_Sh M T) (hg : 1024 * a + b < 13312) {K : Nat → gs_O} : gs_ix M 149 13 (((1024 : Int32) * Int32.ofNat a) + Int32.ofNat b) K = K (1024 * a + b) := by
  show gs_ix M 149 13 (Int32.ofNat 1024 * Int32.ofNat a + Int32.ofNat b) K = _
  rw [n_mul, n_add]
  exact gs_ixn h.1 rfl hg
theorem r_i150 {M : gs_M} (h : gs_Sh M T) (hg : g < 12) {K : Nat → gs_O} : gs_ix M 150 13 (Int32.ofNat g) K = K g := gs_ixn h.1 rfl hg
theorem r_i119_5 {M : gs_M} (h : gs_Sh M T) {K : Nat → gs_O} : gs_ix M 119 13 5 K = K 5 := gs_ixe h.1 rfl rfl
theorem r_i119_3 {M : gs_M} (h : gs_Sh M T) {K : Nat → gs_O} : gs_ix M 119 13 3 K = K 3 := gs_ixe h.1 rfl rfl
theorem r_22 {N : Nat} (hB : gs_Bp m T n k tl) (hN : N ≤ 1024) : ∀ (q set F : Nat) (M : gs_M), set + q = N → gs_Wx rsB m M → (∀ s, s < set → M.2.1 149 (1024 * n + s) = Int32.ofNat 0) →
    ∃ M', gs_iter X (gs_exec X d) gT_X12_layPairs (F + q + 1) 22 [(0, .inr (.inr 116)), (1, .inl (Int32.ofNat n)), (2, .inl (Int32.ofNat N)), (3, .inl (Int32.ofNat set))] [] M = gs_iter X (gs_exec X d) gT_X12_layPairs F 50 [(0, .inr (.inr 116)), (1, .inl (Int32.ofNat n)), (2, .inl (Int32.ofNat N)), (3, .inl (Int32.ofNat n - 1))] [] M' ∧ gs_Wx rsB m M' ∧ (∀ s, s < N → M'.2.1 149 (1024 * n + s) = Int32.ofNat 0) := by
  have hn := hB.2.2.2.1
  intro q
  induction q with
  | zero =>
    intro set F M hs hW hc
    refine ⟨M, ?_, hW, fun s h => hc s (by omega)⟩
    show gs_iter X (gs_exec X d) gT_X12_layPairs (F + 1) 22 _ [] M = _
    rw [eq_X12_layPairs_22, if_neg (fun y => by have := (gs_nlt (by omega) (by omega)).mp y; omega)]
  | succ q ih =>
    intro set F M hs hW hc
    have hM := (wb_bp hB hW).1
    show ∃ M', gs_iter X (gs_exec X d) gT_X12_layPairs (F + q + 1 + 1) 22 _ [] M = _ ∧ _
    rw [eq_X12_layPairs_22, if_pos ((gs_nlt (by omega) (by omega)).mpr (by omega)), fl_116 hM, sh_116_56 hM, gs_nn_s, r_i149 hM (by omega), gs_ns]
    refine ih (set + 1) F _ (by omega) (wx_sI hW (Or.inl rfl)) (fun s h => ?_)
    by_cases e : s = set
    · rw [e, gs_sIe]
      rfl
    · rw [gs_sIn (Or.inr (by omega))]
      exact hc s (by omega)
theorem r_83 {B : Nat → Nat} {N : Nat} (hB : gs_Bp M T n k tl) (hg : g < n) (hset : set < 2 ^ k) (hB2 : ∀ s, B s ≤ 12000000) (hrow : ∀ s, s < 2 ^ k → M.2.1 149 (1024 * (g + 1) + s) = Int32.ofNat (B s)) : ∀ (r c v F : Nat), c + r = k → v ≤ 13000000 →
    gs_iter X (gs_exec X (d + 1)) gT_X12_layPairs (F + r + 1) 83 [(0, .inr (.inr 116)), (1, .inl (Int32.ofNat n)), (2, .inl (Int32.ofNat N)), (3, .inl (Int32.ofNat g)), (4, .inl (Int32.ofNat set)), (5, .inl (Int32.ofNat v)), (6, .inl (Int32.ofNat c))] [] M = gs_iter X (gs_exec X (d + 1)) gT_X12_layPairs F 57 [(0, .inr (.inr 116)), (1, .inl (Int32.ofNat n)), (2, .inl (Int32.ofNat N)), (3, .inl (Int32.ofNat g)), (4, .inl (Int32.ofNat (set + 1)))] [] (gs_sI M 149 (1024 * g + set) (Int32.ofNat (bsc B (tl g) set r c v))) := by
  obtain ⟨hM, e3, e5, hn, hk, h8, hT⟩ := hB
  have hpk := pow_le10 k hk
  intro r
  induction r with
  | zero =>
    intro c v F hc hv
    show gs_iter X (gs_exec X (d + 1)) gT_X12_layPairs (F + 1) 83 _ [] M = _
    rw [eq_X12_layPairs_83, fl_116 hM, sh_116_12 hM, gs_nn_s, r_i119_5 hM, e5, if_neg (fun y => by have := (gs_nlt (by omega) (by omega)).mp y; omega), fl_116 hM, sh_116_56 hM, gs_nn_s, r_i149 hM (by omega), gs_ns]
    rfl
  | succ r ih =>
    intro c v F hc hv
    have hck : c < k := by omega
    have e8 := h8 g c hck hg
    have hpc : 2 ^ c < 2 ^ k := Nat.pow_lt_pow_right (by decide) hck
    have hor : set ||| 2 ^ c < 2 ^ k := Nat.or_lt_two_pow hset hpc
    show gs_iter X (gs_exec X (d + 1)) gT_X12_layPairs (F + r + 1 + 1) 83 _ [] M = _
    rw [eq_X12_layPairs_83, fl_116 hM, sh_116_12 hM, gs_nn_s, r_i119_5 hM, e5, if_pos ((gs_nlt (by omega) (by omega)).mpr (by omega)), r_isOf, gs_bI_s, b2_if, gs_ns, bsc_s]
    have hbit := tb_bit (set := set) (c := c) (by omega)
    by_cases b : set.testBit c = true
    · rw [if_pos (hbit.mpr b), if_pos (Or.inl b)]
      exact ih (c + 1) v F (by omega) hv
    · rw [if_neg (fun y => b (hbit.mp y)), fl_116 hM, sh_116_55 hM, gs_nn_s, r_i148 hM (by omega) (by omega), e8]
      by_cases t : tl g c = 100000
      · rw [if_pos (show Int32.ofNat (tl g c) = 100000 by rw [t]; rfl), if_pos (Or.inr t)]
        exact ih (c + 1) v F (by omega) hv
      · have ht := (hT g c hg hck).resolve_left t
        have hw : 1000000 - tl g c + B (set ||| 2 ^ c) ≤ 13000000 := by have := hB2 (set ||| 2 ^ c); omega
        have es : (1000000 : Int32) - Int32.ofNat (tl g c) = Int32.ofNat (1000000 - tl g c) := n_sub (a := 1000000) (by omega)
        rw [if_neg (fun y => by have := (n_eq (a := tl g c) (b := 100000) (by omega) (by decide)).mp y; omega), if_neg (fun y => y.elim b t), fl_116 hM, gs_nn_s, r_i148 hM (by omega) (by omega), fl_116 hM, sh_116_56 hM, gs_nn_s, gs_ns, or_pow (by omega), r_i149 hM (by omega), hrow _ hor, e8, es, n_add]
        by_cases lt : v < 1000000 - tl g c + B (set ||| 2 ^ c)
        · rw [if_pos ((gs_nlt (by omega) (by omega)).mpr lt), Nat.max_eq_right (by omega)]
          exact ih (c + 1) _ F (by omega) hw
        · rw [if_neg (fun y => lt ((gs_nlt (by omega) (by omega)).mp y)), Nat.max_eq_left (by omega)]
          exact ih (c + 1) v F (by omega) hv
theorem r_57 {B : Nat → Nat} (hB : gs_Bp m T n k tl) (hg : g < n) (hB2 : ∀ s, B s ≤ 12000000) : ∀ (q set F : Nat) (M : gs_M), set + q = 2 ^ k → gs_Wx rsB m M → (∀ s, s < 2 ^ k → M.2.1 149 (1024 * (g + 1) + s) = Int32.ofNat (B s)) → (∀ s, s < set → M.2.1 149 (1024 * g + s) = Int32.ofNat (bsc B (tl g) s k 0 (B s))) →
    ∃ M', gs_iter X (gs_exec X (d + 1)) gT_X12_layPairs (F + q * (k + 2) + 1) 57 [(0, .inr (.inr 116)), (1, .inl (Int32.ofNat n)), (2, .inl (Int32.ofNat (2 ^ k))), (3, .inl (Int32.ofNat g)), (4, .inl (Int32.ofNat set))] [] M = gs_iter X (gs_exec X (d + 1)) gT_X12_layPairs F 50 [(0, .inr (.inr 116)), (1, .inl (Int32.ofNat n)), (2, .inl (Int32.ofNat (2 ^ k))), (3, .inl (Int32.ofNat g + -1))] [] M' ∧ gs_Wx rsB m M' ∧ (∀ s, s < 2 ^ k → M'.2.1 149 (1024 * g + s) = Int32.ofNat (bsc B (tl g) s k 0 (B s))) ∧ (∀ a s, a ≠ g → s < 1024 → M'.2.1 149 (1024 * a + s) = M.2.1 149 (1024 * a + s)) := by
  have hn := hB.2.2.2.1
  have hk := hB.2.2.2.2.1
  have hpk := pow_le10 k hk
  intro q
  induction q with
  | zero =>
    intro set F M hs hW h1 h2
    refine ⟨M, ?_, hW, fun s h => h2 s (by omega), fun a s _ _ => rfl⟩
    rw [Nat.zero_mul, Nat.add_zero, eq_X12_layPairs_57, if_neg (fun y => by have := (gs_nlt (by omega) (by omega)).mp y; omega)]
  | succ q ih =>
    intro set F M hs hW h1 h2
    have hBM := wb_bp hB hW
    have hM := hBM.1
    have l83 := r_83 (X := X) (d := d) (N := 2 ^ k) (set := set) hBM hg (by omega) hB2 h1 k 0 (B set) (F + q * (k + 2) + 1) (by omega) (by have := hB2 set; omega)
    obtain ⟨M', i1, i2, i3, i4⟩ := ih (set + 1) F (gs_sI M 149 (1024 * g + set) (Int32.ofNat (bsc B (tl g) set k 0 (B set)))) (by omega) (wx_sI hW (Or.inl rfl)) (fun s h => by
      rw [gs_sIn (Or.inr (by omega))]
      exact h1 s h) (fun s h => by
      by_cases e : s = set
      · rw [e, gs_sIe]
      · rw [gs_sIn (Or.inr (by omega))]
        exact h2 s (by omega))
    refine ⟨M', ?_, i2, i3, fun a s ha hs' => ?_⟩
    · rw [show F + (q + 1) * (k + 2) + 1 = F + q * (k + 2) + 1 + k + 1 + 1 by rw [Nat.succ_mul]; omega, eq_X12_layPairs_57, if_pos ((gs_nlt (by omega) (by omega)).mpr (by omega)), fl_116 hM, sh_116_56 hM, gs_nn_s, gs_ns, r_i149 hM (by omega), h1 set (by omega)]
      exact l83.trans i1
    · rw [i4 a s ha hs', gs_sIn (Or.inr (by omega))]
theorem r_50 (hB : gs_Bp m T n k tl) : ∀ (q F : Nat) (M : gs_M), q ≤ n → gs_Wx rsB m M → (∀ g s, q ≤ g → g ≤ n → s < 2 ^ k → M.2.1 149 (1024 * g + s) = Int32.ofNat (bst tl n k (n - g) s)) →
    ∃ M', gs_iter X (gs_exec X (d + 1)) gT_X12_layPairs (F + q * (2 ^ k * (k + 2) + 2) + 1) 50 [(0, .inr (.inr 116)), (1, .inl (Int32.ofNat n)), (2, .inl (Int32.ofNat (2 ^ k))), (3, .inl (Int32.ofNat q - 1))] [] M = gs_iter X (gs_exec X (d + 1)) gT_X12_layPairs F 218 [(0, .inr (.inr 116)), (1, .inl (Int32.ofNat n)), (3, .inl (Int32.ofNat 0)), (4, .inl (Int32.ofNat 0))] [] M' ∧ gs_Wx rsB m M' ∧ (∀ g s, g ≤ n → s < 2 ^ k → M'.2.1 149 (1024 * g + s) = Int32.ofNat (bst tl n k (n - g) s)) := by
  have hn := hB.2.2.2.1
  have hk := hB.2.2.2.2.1
  have hpk := pow_le10 k hk
  intro q
  induction q with
  | zero =>
    intro F M hq hW hr
    refine ⟨M, ?_, hW, fun g s a b => hr g s (by omega) a b⟩
    rw [Nat.zero_mul, Nat.add_zero, eq_X12_layPairs_50, if_pos (show Int32.ofNat 0 - (1 : Int32) < 0 by decide)]
    rfl
  | succ q ih =>
    intro F M hq hW hr
    have es : Int32.ofNat (q + 1) - (1 : Int32) = Int32.ofNat q := n_sub (a := q + 1) (b := 1) (by omega)
    have hnq : n - q = (n - (q + 1)) + 1 := by omega
    obtain ⟨M1, k1, k2, k3, k4⟩ := r_57 (X := X) (d := d) (B := bst tl n k (n - (q + 1))) hB (show q < n by omega) (fun s => by have := bst_le (t := tl) (n := n) (k := k) (n - (q + 1)) s; omega) (2 ^ k) 0 (F + q * (2 ^ k * (k + 2) + 2) + 1) M (by omega) hW (fun s h => hr (q + 1) s (Nat.le_refl _) hq h) (fun s h => by omega)
    obtain ⟨M', j1, j2, j3⟩ := ih F M1 (by omega) k2 (fun g s a b c => by
      by_cases e : g = q
      · rw [e, k3 s c, hnq, bst_s, show n - (n - (q + 1) + 1) = q by omega]
      · rw [k4 g s e (by omega)]
        exact hr g s (by omega) b c)
    refine ⟨M', ?_, j2, j3⟩
    rw [show F + (q + 1) * (2 ^ k * (k + 2) + 2) + 1 = F + q * (2 ^ k * (k + 2) + 2) + 1 + 2 ^ k * (k + 2) + 1 + 1 by rw [Nat.succ_mul]; omega, es, eq_X12_layPairs_50, if_neg (gs_nneg (by omega))]
    refine k1.trans ?_
    rw [← Int32.sub_eq_add_neg]
    exact j1
/-- which cloud a guest is given, as the rows have it -/
def pI (c : Nat) : Int32 := if c = 10 then -1 else Int32.ofNat c
theorem r_235f {c0 c F : Nat} (hB : gs_Bp M T n k tl) (hg : g < n) (hc0 : c0 < k) (h150 : M.2.1 150 g = Int32.ofNat c0) :
    gs_iter X (gs_exec X (d + 1)) gT_X12_layPairs (F + 1) 235 [(0, .inr (.inr 116)), (1, .inl (Int32.ofNat n)), (3, .inl (Int32.ofNat set)), (4, .inl (Int32.ofNat g)), (5, .inl (Int32.ofNat c))] [] M = gs_iter X (gs_exec X (d + 1)) gT_X12_layPairs F 218 [(0, .inr (.inr 116)), (1, .inl (Int32.ofNat n)), (3, .inl (Int32.ofNat (set ||| 2 ^ c0))), (4, .inl (Int32.ofNat (g + 1)))] [] M := by
  obtain ⟨hM, e3, e5, hn, hk, h8, hT⟩ := hB
  rw [eq_X12_layPairs_235, fl_116 hM, sh_116_12 hM, gs_nn_s, r_i119_5 hM]
  have ex : (gs_fld M 116 11 (gs_nn (M.2.2.2 116 57) (fun q22 => gs_ix M q22 13 (Int32.ofNat g) (fun k23 => if (M.2.1 q22 k23) < 0 then gs_iter X (gs_exec X (d + 1)) gT_X12_layPairs F 218 [(0, .inr (.inr 116)), (1, .inl (Int32.ofNat n)), (3, .inl (Int32.ofNat set ||| (0 : Int32))), (4, .inl (Int32.ofNat g + 1))] [] M else gs_fld M 116 11 (gs_nn (M.2.2.2 116 57) (fun q24 => gs_ix M q24 13 (Int32.ofNat g) (fun k25 => gs_iter X (gs_exec X (d + 1)) gT_X12_layPairs F 218 [(0, .inr (.inr 116)), (1, .inl (Int32.ofNat n)), (3, .inl (Int32.ofNat set ||| ((1 : Int32) <<< ((M.2.1 q24 k25) &&& 31)))), (4, .inl (Int32.ofNat g + 1))] [] M))))))) = gs_iter X (gs_exec X (d + 1)) gT_X12_layPairs F 218 [(0, .inr (.inr 116)), (1, .inl (Int32.ofNat n)), (3, .inl (Int32.ofNat (set ||| 2 ^ c0))), (4, .inl (Int32.ofNat (g + 1)))] [] M := by
    rw [fl_116 hM, sh_116_57 hM, gs_nn_s, r_i150 hM (by omega), h150, if_neg (gs_nneg (by omega)), fl_116 hM, gs_nn_s, r_i150 hM (by omega), h150, or_pow (by omega), gs_ns]
  rw [ex]
  by_cases z : Int32.ofNat c < M.2.1 119 5
  · rw [if_pos z, fl_116 hM, sh_116_57 hM, gs_nn_s, r_i150 hM (by omega), h150, if_neg (gs_nneg (by omega))]
  · rw [if_neg z]
theorem r_235 (hB : gs_Bp M T n k tl) (hg : g < n) (hset : set < 2 ^ k) (hrow : ∀ g s, g ≤ n → s < 2 ^ k → M.2.1 149 (1024 * g + s) = Int32.ofNat (bst tl n k (n - g) s)) (h150 : M.2.1 150 g = -1) : ∀ (r c F : Nat), c + r = k → r + 2 ≤ F →
    ∃ F', F ≤ F' + r + 2 ∧ gs_iter X (gs_exec X (d + 1)) gT_X12_layPairs F 235 [(0, .inr (.inr 116)), (1, .inl (Int32.ofNat n)), (3, .inl (Int32.ofNat set)), (4, .inl (Int32.ofNat g)), (5, .inl (Int32.ofNat c))] [] M = gs_iter X (gs_exec X (d + 1)) gT_X12_layPairs F' 218 [(0, .inr (.inr 116)), (1, .inl (Int32.ofNat n)), (3, .inl (Int32.ofNat (tak set (pck (bst tl n k (n - (g + 1))) (tl g) set (bst tl n k (n - g) set) r c)))), (4, .inl (Int32.ofNat (g + 1)))] [] (if pck (bst tl n k (n - (g + 1))) (tl g) set (bst tl n k (n - g) set) r c = 10 then M else gs_sI M 150 g (Int32.ofNat (pck (bst tl n k (n - (g + 1))) (tl g) set (bst tl n k (n - g) set) r c))) := by
  obtain ⟨hM, e3, e5, hn, hk, h8, hT⟩ := id hB
  have hpk := pow_le10 k hk
  intro r
  induction r with
  | zero =>
    intro c F hc hF
    obtain ⟨F, rfl⟩ : ∃ y, F = y + 1 := ⟨F - 1, by omega⟩
    refine ⟨F, by omega, ?_⟩
    have ep : pck (bst tl n k (n - (g + 1))) (tl g) set (bst tl n k (n - g) set) 0 c = 10 := rfl
    rw [ep, if_pos rfl]
    unfold tak
    rw [if_pos rfl, eq_X12_layPairs_235, fl_116 hM, sh_116_12 hM, gs_nn_s, r_i119_5 hM, e5, if_neg (fun y => by have := (gs_nlt (by omega) (by omega)).mp y; omega), fl_116 hM, sh_116_57 hM, gs_nn_s, r_i150 hM (by omega), h150, if_pos (show (-1 : Int32) < 0 by decide), gs_ns, show Int32.ofNat set ||| (0 : Int32) = Int32.ofNat set by simp]
  | succ r ih =>
    intro c F hc hF
    obtain ⟨F, rfl⟩ : ∃ y, F = y + 1 := ⟨F - 1, by omega⟩
    have hck : c < k := by omega
    have e8 := h8 g c hck hg
    have hpc : 2 ^ c < 2 ^ k := Nat.pow_lt_pow_right (by decide) hck
    have hor : set ||| 2 ^ c < 2 ^ k := Nat.or_lt_two_pow hset hpc
    have hbit := tb_bit (set := set) (c := c) (by omega)
    obtain ⟨F', f1, f2⟩ := ih (c + 1) F (by omega) (by omega)
    rw [pck_s]
    rw [eq_X12_layPairs_235, fl_116 hM, sh_116_12 hM, gs_nn_s, r_i119_5 hM, e5, if_pos ((gs_nlt (by omega) (by omega)).mpr (by omega)), fl_116 hM, sh_116_57 hM, gs_nn_s, r_i150 hM (by omega), h150, if_pos (show (-1 : Int32) < 0 by decide), r_isOf, gs_bI_s, b2_if, gs_ns]
    by_cases b : set.testBit c = true
    · rw [if_pos (hbit.mpr b), if_pos (Or.inl b)]
      exact ⟨F', by omega, f2⟩
    · rw [if_neg (fun y => b (hbit.mp y)), fl_116 hM, sh_116_55 hM, gs_nn_s, r_i148 hM (by omega) (by omega), e8]
      by_cases t : tl g c = 100000
      · rw [if_pos (show Int32.ofNat (tl g c) = 100000 by rw [t]; rfl), if_pos (Or.inr t)]
        exact ⟨F', by omega, f2⟩
      · have ht := (hT g c hg hck).resolve_left t
        have q1 := bst_le (t := tl) (n := n) (k := k) (n - (g + 1)) (set ||| 2 ^ c)
        have q2 := bst_le (t := tl) (n := n) (k := k) (n - g) set
        have es : (1000000 : Int32) - Int32.ofNat (tl g c) = Int32.ofNat (1000000 - tl g c) := n_sub (a := 1000000) (by omega)
        rw [if_neg (fun y => by have := (n_eq (a := tl g c) (b := 100000) (by omega) (by decide)).mp y; omega), if_neg (fun y => y.elim b t), fl_116 hM, gs_nn_s, r_i148 hM (by omega) (by omega), fl_116 hM, sh_116_56 hM, gs_nn_s, gs_ns, or_pow (by omega), r_i149 hM (by omega), fl_116 hM, gs_nn_s, r_i149 hM (by omega), hrow _ _ (by omega) hor, hrow _ _ (by omega) hset, e8, es, n_add]
        by_cases eq : 1000000 - tl g c + bst tl n k (n - (g + 1)) (set ||| 2 ^ c) = bst tl n k (n - g) set
        · rw [if_pos (congrArg Int32.ofNat eq), if_pos eq, fl_116 hM, sh_116_57 hM, gs_nn_s, r_i150 hM (by omega), if_neg (show ¬ c = 10 by omega)]
          obtain ⟨F2, rfl⟩ : ∃ y, F = y + 1 := ⟨F - 1, by omega⟩
          refine ⟨F2, by omega, ?_⟩
          unfold tak
          rw [if_neg (show ¬ c = 10 by omega)]
          exact r_235f (wb_bp hB (wx_sI (wx_refl M) (Or.inr rfl))) hg hck (gs_sIe _ _ _ _)
        · rw [if_neg (fun y => eq ((n_eq (by omega) (by omega)).mp y)), if_neg eq]
          exact ⟨F', by omega, f2⟩
theorem r_218 (hB : gs_Bp m T n k tl) : ∀ (q g set F : Nat) (M : gs_M), g + q = n → set < 2 ^ k → q * 14 + 1 ≤ F → gs_Wx rsB m M → (∀ g s, g ≤ n → s < 2 ^ k → M.2.1 149 (1024 * g + s) = Int32.ofNat (bst tl n k (n - g) s)) →
    ∃ M', gs_iter X (gs_exec X (d + 1)) gT_X12_layPairs F 218 [(0, .inr (.inr 116)), (1, .inl (Int32.ofNat n)), (3, .inl (Int32.ofNat set)), (4, .inl (Int32.ofNat g))] [] M = gs_rU M' ∧ gs_Wx rsB m M' ∧ (∀ g', g' < g → M'.2.1 150 g' = M.2.1 150 g') ∧ (∀ j, j < q → M'.2.1 150 (g + j) = pI ((grd tl n k q set).getD j 10)) := by
  have hn := hB.2.2.2.1
  have hk := hB.2.2.2.2.1
  intro q
  induction q with
  | zero =>
    intro g set F M hg hs hF hW hrow
    obtain ⟨F, rfl⟩ : ∃ y, F = y + 1 := ⟨F - 1, by omega⟩
    refine ⟨M, ?_, hW, fun _ _ => rfl, fun j hj => by omega⟩
    rw [eq_X12_layPairs_218, if_neg (fun y => by have := (gs_nlt (by omega) (by omega)).mp y; omega)]
  | succ q ih =>
    intro g set F M hg hs hF hW hrow
    obtain ⟨F, rfl⟩ : ∃ y, F = y + 1 := ⟨F - 1, by omega⟩
    have hM := (wb_bp hB hW).1
    have hW1 : gs_Wx rsB m (gs_sI M 150 g (-1)) := wx_sI hW (Or.inr rfl)
    have hrow1 : ∀ g' s, g' ≤ n → s < 2 ^ k → (gs_sI M 150 g (-1)).2.1 149 (1024 * g' + s) = Int32.ofNat (bst tl n k (n - g') s) := fun g' s a b => by
      rw [gs_sIn (Or.inl (by decide))]
      exact hrow g' s a b
    obtain ⟨F', f1, f2⟩ := r_235 (X := X) (d := d) (wb_bp hB hW1) (show g < n by omega) hs hrow1 (gs_sIe _ _ _ _) k 0 F (by omega) (by omega)
    have hp := pck10 (B := bst tl n k (n - (g + 1))) (t1 := tl g) (set := set) (tgt := bst tl n k (n - g) set) hk
    have eg : grd tl n k (q + 1) set = pck (bst tl n k (n - (g + 1))) (tl g) set (bst tl n k (n - g) set) k 0 :: grd tl n k q (tak set (pck (bst tl n k (n - (g + 1))) (tl g) set (bst tl n k (n - g) set) k 0)) := by
      have e1 : n - (q + 1) = g := by omega
      have e2 : n - (g + 1) = q := by omega
      have e3 : n - g = q + 1 := by omega
      rw [grd_s, e1, e2, e3]
    rw [eg]
    generalize pck (bst tl n k (n - (g + 1))) (tl g) set (bst tl n k (n - g) set) k 0 = c at *
    have hset2 : tak set c < 2 ^ k := by
      unfold tak
      rcases hp with e | ⟨e1, e2, -⟩
      · rw [if_pos e]; exact hs
      · rw [if_neg e2]
        exact Nat.or_lt_two_pow hs (Nat.pow_lt_pow_right (by decide) e1)
    have hW2 : gs_Wx rsB m (if c = 10 then gs_sI M 150 g (-1) else gs_sI (gs_sI M 150 g (-1)) 150 g (Int32.ofNat c)) := by
      split
      · exact hW1
      · exact wx_sI hW1 (Or.inr rfl)
    have c150 : (if c = 10 then gs_sI M 150 g (-1) else gs_sI (gs_sI M 150 g (-1)) 150 g (Int32.ofNat c)).2.1 150 g = pI c := by
      unfold pI
      by_cases e : c = 10
      · rw [if_pos e, if_pos e, gs_sIe]
      · rw [if_neg e, if_neg e, gs_sIe]
    have o150 : ∀ g', g' ≠ g → (if c = 10 then gs_sI M 150 g (-1) else gs_sI (gs_sI M 150 g (-1)) 150 g (Int32.ofNat c)).2.1 150 g' = M.2.1 150 g' := fun g' hne => by
      split
      · rw [gs_sIn (Or.inr hne)]
      · rw [gs_sIn (Or.inr hne), gs_sIn (Or.inr hne)]
    obtain ⟨M', j1, j2, j3, j4⟩ := ih (g + 1) (tak set c) F' _ (by omega) hset2 (by omega) hW2 (fun g' s a b => by
      rw [← hrow1 g' s a b]
      split
      · rfl
      · rw [gs_sIn (Or.inl (by decide))])
    refine ⟨M', ?_, j2, fun g' hg' => ?_, fun j hj => ?_⟩
    · rw [eq_X12_layPairs_218, if_pos ((gs_nlt (by omega) (by omega)).mpr (by omega)), fl_116 hM, sh_116_57 hM, gs_nn_s, r_i150 hM (by omega)]
      exact f2.trans j1
    · rw [j3 g' (by omega), o150 g' (by omega)]
    · cases j with
      | zero =>
        rw [Nat.add_zero, j3 g (by omega), c150]
        rfl
      | succ j =>
        rw [show g + (j + 1) = g + 1 + j by omega, j4 j (by omega)]
        rfl
end RPR
