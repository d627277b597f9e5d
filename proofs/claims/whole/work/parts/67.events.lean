/-! Events: the least guest of each. -/
def gs_resp (one : Nat → Nat → Prop) (tr : Nat → Prop) (n : Nat) (f : Nat → Nat) : Prop := ∀ a b, a < n → b < n → tr a → tr b → one a b → f a = f b
def gs_root (one : Nat → Nat → Prop) (tr : Nat → Prop) (n : Nat) (r : Nat → Nat) : Prop := ∀ g, g < n → tr g → r g ≤ g ∧ tr (r g) ∧ ∀ f, gs_resp one tr n f → f (r g) = f g
def gs_Evs (one : Nat → Nat → Prop) (tr : Nat → Prop) (n : Nat) (r : Nat → Nat) : Prop := gs_root one tr n r ∧ gs_resp one tr n r
theorem ev_uniq {one : Nat → Nat → Prop} {tr : Nat → Prop} {n : Nat} {r r' : Nat → Nat} (h1 : gs_Evs one tr n r) (h2 : gs_Evs one tr n r') {g : Nat} (hg : g < n) (ht : tr g) : r g = r' g := by
  obtain ⟨a1, a2, a3⟩ := h1.1 g hg ht
  obtain ⟨b1, b2, b3⟩ := h2.1 g hg ht
  have e1 : r (r' g) = r g := b3 r h1.2
  have e2 : r' (r g) = r' g := a3 r' h2.2
  have l1 := (h1.1 (r' g) (by omega) b2).1
  have l2 := (h2.1 (r g) (by omega) a2).1
  omega
def r_join (r : Nat → Nat) (a b : Nat) (g : Nat) : Nat := if r g = max a b then min a b else r g
theorem root_id {one : Nat → Nat → Prop} {tr : Nat → Prop} {n : Nat} : gs_root one tr n (fun g => g) := fun g _ ht => ⟨Nat.le_refl _, ht, fun _ _ => rfl⟩
theorem root_to {one : Nat → Nat → Prop} {tr : Nat → Prop} {n : Nat} {r : Nat → Nat} (hr : gs_root one tr n r) {x y g : Nat} (hx : x < n) (hy : y < n) (tx : tr x) (ty : tr y) (ho : one x y) (hg : g < n) (tg : tr g) (hle : r x ≤ r y) (e : r g = r y) : r x ≤ g ∧ tr (r x) ∧ ∀ f, gs_resp one tr n f → f (r x) = f g := by
  obtain ⟨a1, a2, a3⟩ := hr x hx tx
  obtain ⟨b1, b2, b3⟩ := hr y hy ty
  obtain ⟨c1, c2, c3⟩ := hr g hg tg
  refine ⟨by omega, a2, fun f hf => ?_⟩
  rw [a3 f hf, ← c3 f hf, e, b3 f hf]
  exact hf x y hx hy tx ty ho
theorem root_join {one : Nat → Nat → Prop} {tr : Nat → Prop} {n : Nat} {r : Nat → Nat} (hs : ∀ a b, one a b → one b a) (hr : gs_root one tr n r) {x y : Nat} (hx : x < n) (hy : y < n) (tx : tr x) (ty : tr y) (ho : one x y) : gs_root one tr n (r_join r (r x) (r y)) := by
  intro g hg tg
  unfold r_join
  by_cases e : r g = max (r x) (r y)
  · rw [if_pos e]
    rcases Nat.le_total (r x) (r y) with q | q
    · rw [Nat.min_eq_left q]
      exact root_to hr hx hy tx ty ho hg tg q (by omega)
    · rw [Nat.min_eq_right q]
      exact root_to hr hy hx ty tx (hs _ _ ho) hg tg q (by omega)
  · rw [if_neg e]
    exact hr g hg tg
theorem join_eq (r : Nat → Nat) (x y : Nat) : r_join r (r x) (r y) x = r_join r (r x) (r y) y := by
  unfold r_join
  split <;> split <;> omega
theorem join_keeps {r : Nat → Nat} {u v a b : Nat} (e : r u = r v) : r_join r a b u = r_join r a b v := by
  unfold r_join
  rw [e]
/-! areOne is the same both ways -/
theorem f_abs_neg (z : Int32) : f_abs (-z) = f_abs z := by
  have hl := z.le_toInt
  by_cases hz : z.toInt = -2147483648
  · have e : z = -2147483648 := i_eq.mpr hz
    rw [e]
    decide
  · have e := i_neg (a := z) (by omega)
    have e0 : (0 : Int32).toInt = 0 := rfl
    unfold f_abs
    by_cases h1 : z < 0
    · have h1' := i_lt.mp h1
      rw [if_pos h1, if_neg (fun q => by have := i_lt.mp q; omega)]
    · have h1' : ¬ z.toInt < (0 : Int32).toInt := fun q => h1 (i_lt.mpr q)
      rw [if_neg h1]
      by_cases h2 : -z < 0
      · rw [if_pos h2, Int32.neg_neg]
      · have h2' : ¬ (-z).toInt < (0 : Int32).toInt := fun q => h2 (i_lt.mpr q)
        rw [if_neg h2, i_eq]
        omega
theorem f_abs_sub (x y : Int32) : f_abs (x - y) = f_abs (y - x) := by
  rw [← f_abs_neg (x - y), Int32.neg_sub]
theorem f_around_s (x y : Int32) : f_around x y = f_around y x := by
  unfold f_around
  rw [f_abs_sub]
theorem f_apart_s (x y u v : Int32) : f_apart x y u v = f_apart u v x y := by
  unfold f_apart
  rw [f_around_s, f_abs_sub]
theorem f_oneA_s (m : gs_M) (turn a b : Nat) : f_oneA m turn a b = f_oneA m turn b a := by
  have e1 : f_nearI m turn a b = f_nearI m turn b a := by
    have eb : b2 (gd m a 2 = gd m b 2) = b2 (gd m b 2 = gd m a 2) := by
      unfold b2
      by_cases q : gd m a 2 = gd m b 2
      · rw [if_pos q, if_pos q.symm]
      · rw [if_neg q, if_neg (fun z => q z.symm)]
    unfold f_nearI
    rw [f_abs_sub (f_dayG m turn a), eb]
    by_cases u : f_dayG m turn a = -1
    · rw [if_pos u]
      by_cases v : f_dayG m turn b = -1
      · rw [if_pos v]
      · rw [if_neg v, if_pos u]
    · rw [if_neg u]
      by_cases v : f_dayG m turn b = -1
      · rw [if_pos v, if_pos v]
      · rw [if_neg v, if_neg v, if_neg u]
  have e2 : ∀ s, f_gates m a b s = f_gates m b a s := by
    intro s
    unfold f_gates
    rw [f_apart_s (f_px m a 0)]
    by_cases u : gd m a 4 = -1
    · rw [if_pos u]
      by_cases v : gd m b 4 = -1
      · rw [if_pos v]
      · rw [if_neg v, if_pos u]
    · rw [if_neg u]
      by_cases v : gd m b 4 = -1
      · rw [if_pos v, if_pos v]
      · rw [if_neg v, if_neg v, if_neg u]
  unfold f_oneA
  rw [e1, e2]
  by_cases u : gd m a 0 = -1
  · rw [if_pos u]
    by_cases v : gd m b 0 = -1
    · rw [if_pos v]
    · rw [if_neg v, if_pos u]
  · rw [if_neg u]
    by_cases v : gd m b 0 = -1
    · rw [if_pos v, if_pos v]
    · rw [if_neg v, if_neg v, if_neg u]
      by_cases w : gd m a 1 = gd m b 1
      · rw [if_pos w, if_pos w.symm]
      · rw [if_neg w, if_neg (fun z => w z.symm)]
abbrev oneP (m : gs_M) (turn : Nat) (a b : Nat) : Prop := f_oneA m turn a b = 1
theorem oneP_s {m : gs_M} {turn : Nat} : ∀ a b, oneP m turn a b → oneP m turn b a := fun a b h => (f_oneA_s m turn b a).trans h
/-- what stands for a guest -/
def evI (kn : Nat) (D : Int32) (r : Nat → Nat) (g : Nat) : Int32 := if trd kn D g then Int32.ofNat (r g) else -1
theorem n_max {a b : Nat} (ha : a < 2147483648) (hb : b < 2147483648) : (if Int32.ofNat a < Int32.ofNat b then Int32.ofNat b else Int32.ofNat a) = Int32.ofNat (max a b) := by
  by_cases h : a < b
  · rw [if_pos ((gs_nlt ha hb).mpr h), Nat.max_eq_right (by omega)]
  · rw [if_neg (fun q => h ((gs_nlt ha hb).mp q)), Nat.max_eq_left (by omega)]
section EVT
variable {X : gs_E} {d : Nat} {m : gs_M} {T n n0 n1 n2 turn kn : Nat} {D : Int32}
theorem rsE17 (i : Nat) : rsE 17 i := Or.inr (Or.inl rfl)
theorem x_i17 {M : gs_M} {g : Nat} (h : gs_Sh M T) (hg : g < 12) {K : Nat → gs_O} : gs_ix M 17 13 (Int32.ofNat g) K = K g := gs_ixn h.1 rfl hg
theorem x_join_loop {kept left : Nat} (h : gs_Sh m T) (hk : kept < 12) (hl : left < 12) : ∀ (q k F : Nat) (M : gs_M), gs_Wx rsE m M → k + q = 12 → q < F → (∀ g, g < k → M.2.1 17 g = if m.2.1 17 g = Int32.ofNat left then Int32.ofNat kept else m.2.1 17 g) → (∀ g, k ≤ g → M.2.1 17 g = m.2.1 17 g) →
    ∃ M', gs_iter X (gs_exec X d) gT_X1_join F 16 [(0, .inr (.inr 16)), (3, .inl (Int32.ofNat kept)), (4, .inl (Int32.ofNat left)), (5, .inl (Int32.ofNat k))] [] M = gs_rU M' ∧ gs_Wx rsE m M' ∧ ∀ g, g < 12 → M'.2.1 17 g = if m.2.1 17 g = Int32.ofNat left then Int32.ofNat kept else m.2.1 17 g := by
  intro q
  induction q with
  | zero =>
    intro k F M hW hk2 hF h1 h2
    obtain ⟨F, rfl⟩ : ∃ z, F = z + 1 := ⟨F - 1, by omega⟩
    refine ⟨M, ?_, hW, fun g hg => h1 g (by omega)⟩
    rw [eq_X1_join_16, if_neg (by show ¬ _ < Int32.ofNat 12; rw [gs_nlt (by omega) (by omega)]; omega)]
  | succ q ih =>
    intro k F M hW hk2 hF h1 h2
    obtain ⟨F, rfl⟩ : ∃ z, F = z + 1 := ⟨F - 1, by omega⟩
    have hM := wd_sh h (wd_e hW)
    rw [eq_X1_join_16, if_pos (by show _ < Int32.ofNat 12; rw [gs_nlt (by omega) (by omega)]; omega), fl_16 hM, sh_16_0 hM, gs_nn_s, x_i17 hM (by omega), h2 k (Nat.le_refl _)]
    by_cases e : m.2.1 17 k = Int32.ofNat left
    · rw [if_pos e, fl_16 hM, gs_nn_s, x_i17 hM (by omega), gs_ns]
      refine ih (k + 1) F _ (wx_sI hW (rsE17 k)) (by omega) (by omega) (fun g hg => ?_) (fun g hg => ?_)
      · by_cases eg : g = k
        · subst eg
          rw [gs_sIe, if_pos e]
        · rw [gs_sIn (Or.inr eg)]
          exact h1 g (by omega)
      · rw [gs_sIn (Or.inr (by omega))]
        exact h2 g (by omega)
    · rw [if_neg e, gs_ns]
      refine ih (k + 1) F _ hW (by omega) (by omega) (fun g hg => ?_) (fun g hg => h2 g (by omega))
      by_cases eg : g = k
      · subst eg
        rw [h2 g (Nat.le_refl _), if_neg e]
      · exact h1 g (by omega)
theorem x_join {a b : Nat} (hX : gs_Fu X) (h : gs_Sh m T) (ha : a < 12) (hb : b < 12) : ∃ M', gs_exec X (d + 2) 12 [.inr (.inr 16), .inl (Int32.ofNat a), .inl (Int32.ofNat b)] m = gs_rU M' ∧ gs_Wx rsE m M' ∧ ∀ g, g < 12 → M'.2.1 17 g = if m.2.1 17 g = Int32.ofNat (max a b) then Int32.ofNat (min a b) else m.2.1 17 g := by
  rw [eq_X1_join, x_min, gs_bI_s, x_max, gs_bI_s, n_min (by omega) (by omega), n_max (by omega) (by omega)]
  exact x_join_loop h (by omega) (by omega) 12 0 X.1 m (wx_refl m) rfl (by unfold gs_Fu at hX; omega) (fun g hg => by omega) (fun _ _ => rfl)
theorem x_evI_loop {t : Int32} (h : gs_Sh m T) (e8 : m.2.1 T 8 = Int32.ofNat n) (hn : n ≤ 12) (hkn : kn ≤ n) (ht : t = trv kn D) : ∀ (q k F : Nat) (M : gs_M), gs_Wx rsE m M → k + q = 12 → (∀ g, g < k → M.2.1 17 g = evI kn D (fun g => g) g) →
    ∃ M', gs_iter X (gs_exec X d) gT_X1_reckon (F + q + 1) 2 [(0, .inr (.inr 16)), (1, .inr (.inr T)), (2, .inl t), (3, .inl (Int32.ofNat k))] [] M = gs_iter X (gs_exec X d) gT_X1_reckon F 44 [(0, .inr (.inr 16)), (1, .inr (.inr T)), (3, .inl (Int32.ofNat 0))] [] M' ∧ gs_Wx rsE m M' ∧ ∀ g, g < 12 → M'.2.1 17 g = evI kn D (fun g => g) g := by
  intro q
  induction q with
  | zero =>
    intro k F M hW hk h1
    refine ⟨M, ?_, hW, fun g hg => h1 g (by omega)⟩
    show gs_iter X (gs_exec X d) gT_X1_reckon (F + 1) 2 _ [] M = _
    rw [eq_X1_reckon_2, if_neg (by show ¬ _ < Int32.ofNat 12; rw [gs_nlt (by omega) (by omega)]; omega)]
    rfl
  | succ q ih =>
    intro k F M hW hk h1
    have hM := wd_sh h (wd_e hW)
    have e8M : M.2.1 T 8 = Int32.ofNat n := by rw [show M.2.1 T = m.2.1 T from wd_t h (wd_e hW) 0 (by decide)]; exact e8
    have st : ∀ v : Int32, v = evI kn D (fun g => g) k → ∃ M', gs_iter X (gs_exec X d) gT_X1_reckon (F + q + 1) 2 [(0, .inr (.inr 16)), (1, .inr (.inr T)), (2, .inl t), (3, .inl (Int32.ofNat k + 1))] [] (gs_sI M 17 k v) = gs_iter X (gs_exec X d) gT_X1_reckon F 44 [(0, .inr (.inr 16)), (1, .inr (.inr T)), (3, .inl (Int32.ofNat 0))] [] M' ∧ gs_Wx rsE m M' ∧ ∀ g, g < 12 → M'.2.1 17 g = evI kn D (fun g => g) g := by
      intro v hv
      rw [gs_ns]
      refine ih (k + 1) F _ (wx_sI hW (rsE17 k)) (by omega) (fun g hg => ?_)
      by_cases eg : g = k
      · subst eg
        rw [gs_sIe, hv]
      · rw [gs_sIn (Or.inr eg)]
        exact h1 g (by omega)
    show ∃ M', gs_iter X (gs_exec X d) gT_X1_reckon (F + q + 1 + 1) 2 _ [] M = _ ∧ _
    rw [eq_X1_reckon_2, if_pos (by show _ < Int32.ofNat 12; rw [gs_nlt (by omega) (by omega)]; omega), fl_16 hM, sh_16_0 hM, gs_nn_s, fl_t0 hM, e8M]
    have hb := tr_bit (kn := kn) (k := k) (D := D) (by omega) (by omega)
    rw [← ht] at hb
    by_cases c1 : k < n
    · rw [if_pos ((gs_nlt (by omega) (by omega)).mpr c1)]
      by_cases c2 : isBit t (Int32.ofNat k)
      · rw [if_pos c2, x_i17 hM (by omega)]
        exact st _ (by unfold evI; rw [if_pos (hb.mp c2)])
      · rw [if_neg c2, x_i17 hM (by omega)]
        exact st _ (by unfold evI; rw [if_neg (fun z => c2 (hb.mpr z))])
    · rw [if_neg (fun z => c1 ((gs_nlt (by omega) (by omega)).mp z)), x_i17 hM (by omega)]
      exact st _ (by unfold evI; rw [if_neg (fun z => c1 (by have := z.1; omega))])
def respTo (one : Nat → Nat → Prop) (tr : Nat → Prop) (n : Nat) (r : Nat → Nat) (a b : Nat) : Prop := ∀ u v, u < v → v < n → (u < a ∨ (u = a ∧ v < b)) → tr u → tr v → one u v → r u = r v
theorem evI_join {r : Nat → Nat} {x y g : Nat} (hx : r x < 12) (hy : r y < 12) (hg : trd kn D g → r g < 12) : (if evI kn D r g = Int32.ofNat (max (r x) (r y)) then Int32.ofNat (min (r x) (r y)) else evI kn D r g) = evI kn D (r_join r (r x) (r y)) g := by
  unfold evI r_join
  by_cases t : trd kn D g
  · have := hg t
    rw [if_pos t, if_pos t]
    by_cases e : r g = max (r x) (r y)
    · rw [if_pos ((n_eq (by omega) (by omega)).mpr e), if_pos e]
    · rw [if_neg (fun z => e ((n_eq (by omega) (by omega)).mp z)), if_neg e]
  · rw [if_neg t, if_neg t, if_neg (fun z => gs_neg1 (by omega) z.symm)]
theorem evI_neg {r : Nat → Nat} {g : Nat} (hr : r g < 2147483648) : (evI kn D r g = -1) ↔ ¬ trd kn D g := by
  unfold evI
  by_cases t : trd kn D g
  · rw [if_pos t]
    exact ⟨fun z => absurd z (gs_neg1 hr), fun z => absurd t z⟩
  · rw [if_neg t]
    exact ⟨fun _ => t, fun _ => rfl⟩
theorem evI_neg_t {r : Nat → Nat} {g : Nat} (t : ¬ trd kn D g) : evI kn D r g = -1 := by
  unfold evI
  rw [if_neg t]
theorem x_evB (hX : gs_Fu X) (hG : gs_Ga m T n n0 n1 n2 turn) (hP : gs_RP m T n n1) (hkn : kn ≤ n) {a : Nat} (ha : a < n) : ∀ (q b F : Nat) (M : gs_M) (r : Nat → Nat), b + q = n → a < b → gs_Wx rsE m M → (∀ g, g < 12 → M.2.1 17 g = evI kn D r g) → gs_root (oneP m turn) (trd kn D) n r → respTo (oneP m turn) (trd kn D) n r a b →
    ∃ M' r', gs_iter X (gs_exec X (d + 4)) gT_X1_reckon (F + q + 1) 57 [(0, .inr (.inr 16)), (1, .inr (.inr T)), (3, .inl (Int32.ofNat a)), (4, .inl (Int32.ofNat b))] [] M = gs_iter X (gs_exec X (d + 4)) gT_X1_reckon F 44 [(0, .inr (.inr 16)), (1, .inr (.inr T)), (3, .inl (Int32.ofNat (a + 1)))] [] M' ∧ gs_Wx rsE m M' ∧ (∀ g, g < 12 → M'.2.1 17 g = evI kn D r' g) ∧ gs_root (oneP m turn) (trd kn D) n r' ∧ respTo (oneP m turn) (trd kn D) n r' a n := by
  have h := hG.1
  have e8 := hG.2.1
  have hn := hG.2.2.2.1
  intro q
  induction q with
  | zero =>
    intro b F M r hb hab hW hc hr ht
    have hM := wd_sh h (wd_e hW)
    have e8M : M.2.1 T 8 = Int32.ofNat n := by rw [show M.2.1 T = m.2.1 T from wd_t h (wd_e hW) 0 (by decide)]; exact e8
    refine ⟨M, r, ?_, hW, hc, hr, ?_⟩
    · show gs_iter X (gs_exec X (d + 4)) gT_X1_reckon (F + 1) 57 _ [] M = _
      rw [eq_X1_reckon_57, fl_t0 hM, e8M, if_neg (show ¬ Int32.ofNat b < Int32.ofNat n from fun z => by have := (gs_nlt (by omega) (by omega)).mp z; omega), gs_ns]
    · have e : b = n := by omega
      rw [e] at ht
      exact ht
  | succ q ih =>
    intro b F M r hb hab hW hc hr ht
    have hM := wd_sh h (wd_e hW)
    have e8M : M.2.1 T 8 = Int32.ofNat n := by rw [show M.2.1 T = m.2.1 T from wd_t h (wd_e hW) 0 (by decide)]; exact e8
    have hra : trd kn D a → r a < 12 := fun t => by have := (hr a ha t).1; omega
    have hrb : trd kn D b → r b < 12 := fun t => by have := (hr b (by omega) t).1; omega
    have go := fun (r' : Nat → Nat) (M' : gs_M) h1 h2 h3 h4 => ih (b + 1) F M' r' (by omega) (by omega) h1 h2 h3 h4
    have skip : (¬ (trd kn D a ∧ trd kn D b ∧ oneP m turn a b)) → respTo (oneP m turn) (trd kn D) n r a (b + 1) := fun hno u v huv hv hor tu tv o => by
      rcases hor with z | ⟨z1, z2⟩
      · exact ht u v huv hv (Or.inl z) tu tv o
      · by_cases zz : v = b
        · subst z1; subst zz
          exact absurd ⟨tu, tv, o⟩ hno
        · exact ht u v huv hv (Or.inr ⟨z1, by omega⟩) tu tv o
    show ∃ M' r', gs_iter X (gs_exec X (d + 4)) gT_X1_reckon (F + q + 1 + 1) 57 _ [] M = _ ∧ _
    rw [eq_X1_reckon_57, fl_t0 hM, e8M, if_pos (show Int32.ofNat b < Int32.ofNat n from (gs_nlt (by omega) (by omega)).mpr (by omega)), fl_16 hM, sh_16_0 hM, gs_nn_s, x_i17 hM (by omega), hc a (by omega), gs_ns]
    by_cases ta : trd kn D a
    · have hra := hra ta
      rw [if_neg (fun z => (evI_neg (by omega)).mp z ta), fl_16 hM, gs_nn_s, x_i17 hM (by omega), hc b (by omega)]
      by_cases tb : trd kn D b
      · have hrb := hrb tb
        rw [if_neg (fun z => (evI_neg (by omega)).mp z tb)]
        simp only [fl_t0 hM, sh_t0_6 hM, gs_nn_s, x_gx hM (show a < 12 by omega), sh_guest hM (show a < 12 by omega), x_gx hM (show b < 12 by omega), sh_guest hM (show b < 12 by omega), x_areOne (d := d) hX (wd_ga hG (wd_e hW)) (wd_rp h hn hP (wd_e hW)) ha (show b < n by omega), gs_bI_s, wd_oneA (wd_e hW)]
        by_cases o : f_oneA m turn a b = 0
        · rw [if_pos o]
          exact go r M hW hc hr (skip (fun z => by have z3 := z.2.2; unfold oneP at z3; rw [o] at z3; exact absurd z3 (by decide)))
        · have o1 : oneP m turn a b := by
            rcases f_oneA01 (m := m) (turn := turn) (a := a) (b := b) with z | z
            · exact absurd z o
            · exact z
          have ea : evI kn D r a = Int32.ofNat (r a) := by unfold evI; rw [if_pos ta]
          have eb : evI kn D r b = Int32.ofNat (r b) := by unfold evI; rw [if_pos tb]
          obtain ⟨M1, e1, hW1, hc1⟩ := x_join (X := X) (d := d + 2) hX hM hra hrb
          rw [if_neg o, fl_16 hM, sh_16_0 hM, gs_nn_s, x_i17 hM (show a < 12 by omega), fl_16 hM, gs_nn_s, x_i17 hM (show b < 12 by omega), fl_16 hM, hc a (by omega), hc b (by omega), ea, eb, e1, gs_bU_s]
          refine go (r_join r (r a) (r b)) M1 (wx_trans hW hW1) (fun g hg => ?_) (root_join oneP_s hr ha (by omega) ta tb o1) ?_
          · rw [hc1 g hg, hc g hg]
            refine evI_join hra hrb (fun t => ?_)
            have h1 := t.1
            have := (hr g (by omega) t).1
            omega
          · intro u v huv hv hor tu tv ouv
            rcases hor with z | ⟨z1, z2⟩
            · exact join_keeps (ht u v huv hv (Or.inl z) tu tv ouv)
            · by_cases zz : v = b
              · subst z1; subst zz
                exact join_eq r _ _
              · exact join_keeps (ht u v huv hv (Or.inr ⟨z1, by omega⟩) tu tv ouv)
      · rw [if_pos ((evI_neg_t tb))]
        exact go r M hW hc hr (skip (fun z => tb z.2.1))
    · rw [if_pos ((evI_neg_t ta))]
      exact go r M hW hc hr (skip (fun z => ta z.1))
end EVT
