/-! Pairing in the class: a look from a seat, lifts. -/
section LFT
variable {X : gs_E} {d : Nat} {m M : gs_M} {T n k K i cur nn : Nat} {tl : Nat → Nat → Nat} {r : Int32} {u v u1 v1 : Nat → Int} {sl sl2 : Nat → Option Int} {p w ord : Nat → Nat} {R R' : Nat → Prop} {δ : Int}
theorem Cg_in {g s : Nat} (hg : 1 ≤ g) (hgn : g ≤ n) (hs : inS K s) : Cg tl n k K g s = Cf tl k g s := by
  unfold Cg
  rw [if_pos ⟨hg, hgn, hs.1, hs.2⟩]
/-- slack and ways after a look -/
def sl1 (tl : Nat → Nat → Nat) (k K : Nat) (r : Int32) (u v : Nat → Int) (g : Nat) (sl : Nat → Option Int) (s : Nat) : Option Int := if ¬ Rb K r s then slN tl k u v g sl s else sl s
def w1 (tl : Nat → Nat → Nat) (k K : Nat) (r : Int32) (u v : Nat → Int) (g cur : Nat) (sl : Nat → Option Int) (w : Nat → Nat) (s : Nat) : Nat := if ¬ Rb K r s ∧ oltb (cand tl k u v g s) (sl s) = true then cur else w s
theorem h_look {g : Nat} (hg : 1 ≤ g) (hgn : g ≤ n) (hpc : p cur = g) (hR : ∀ s, Rb K r s ↔ (R s ∨ s = cur)) (hS : hSl (Cg tl n k K) K R p u v w sl) : hSl (Cg tl n k K) K (Rb K r) p u v (w1 tl k K r u v g cur sl w) (sl1 tl k K r u v g sl) := by
  have hcc : ∀ s, inS K s → cand tl k u v g s = (Cg tl n k K (p cur) s).map (fun c => c - u (p cur) - v s) := fun s hs => by
    rw [hpc, Cg_in hg hgn hs]
    rfl
  refine ⟨fun s hs hsR hx rr hr => ?_, fun s x hs hsR hx => ?_⟩
  · have hnR : ¬ R s := fun z => hsR ((hR s).mpr (Or.inl z))
    unfold sl1 at hx
    rw [if_pos hsR] at hx
    unfold slN at hx
    by_cases o : oltb (cand tl k u v g s) (sl s) = true
    · rw [if_pos o] at hx
      rw [hx] at o
      cases o
    · rw [if_neg o] at hx
      have cn : cand tl k u v g s = none := by
        cases hc : cand tl k u v g s with
        | none => rfl
        | some y => rw [hc, hx] at o; exact absurd rfl o
      rcases (hR rr).mp hr with z | z
      · exact hS.1 s hs hnR hx rr z
      · subst z
        rw [hcc s hs] at cn
        cases hC : Cg tl n k K (p rr) s with
        | none => rfl
        | some c => rw [hC] at cn; cases cn
  · have hnR : ¬ R s := fun z => hsR ((hR s).mpr (Or.inl z))
    unfold sl1 at hx
    rw [if_pos hsR] at hx
    unfold slN at hx
    unfold w1
    by_cases o : oltb (cand tl k u v g s) (sl s) = true
    · rw [if_pos o] at hx
      rw [if_pos ⟨hsR, o⟩]
      have cx := hx
      rw [hcc s hs] at cx
      cases hC : Cg tl n k K (p cur) s with
      | none => rw [hC] at cx; cases cx
      | some c =>
        rw [hC] at cx
        have cx : some (c - u (p cur) - v s) = some x := cx
        have ex := (Option.some.inj cx).symm
        refine ⟨(hR cur).mpr (Or.inr rfl), ⟨c, rfl, ex⟩, fun rr c' hr hc' => ?_⟩
        rcases (hR rr).mp hr with z | z
        · cases hsl : sl s with
          | none =>
            have := hS.1 s hs hnR hsl rr z
            rw [hc'] at this
            cases this
          | some y =>
            have b := (hS.2 s y hs hnR hsl).2.2 rr c' z hc'
            rw [hx, hsl] at o
            have o : decide (x < y) = true := o
            rw [decide_eq_true_iff] at o
            omega
        · subst z
          rw [hC] at hc'
          have := Option.some.inj hc'
          omega
    · rw [if_neg o] at hx
      rw [if_neg (fun z => o z.2)]
      obtain ⟨a1, a2, a3⟩ := hS.2 s x hs hnR hx
      refine ⟨(hR _).mpr (Or.inl a1), a2, fun rr c' hr hc' => ?_⟩
      rcases (hR rr).mp hr with z | z
      · exact a3 rr c' z hc'
      · subst z
        have cx : cand tl k u v g s = some (c' - u (p rr) - v s) := by
          rw [hcc s hs, hc']
          rfl
        rw [cx, hx] at o
        have o : ¬ decide (c' - u (p rr) - v s < x) = true := o
        rw [decide_eq_true_iff] at o
        omega
theorem x_reachFrom {g : Nat} (hX : gs_Fu X) (hB : gs_HB m T n k tl) (hK : K = k + n) (hRp : gs_Rp m n K u v sl p w) (hpc : p cur = g) (hg : 1 ≤ g) (hgn : g ≤ n) (hcur : cur ≤ K) (hu : -40000000000000000 ≤ u g ∧ u g ≤ 40000000000000000) (hv : ∀ s, inS K s → -40000000000000000 ≤ v s ∧ v s ≤ 0) (hcb : ∀ s c, inS K s → Cf tl k g s = some c → -40000000000000000 ≤ c ∧ c ≤ 10000000000000000) (hex : ∃ e x, inS K e ∧ ¬ Rb K r e ∧ sl1 tl k K r u v g sl e = some x) :
    ∃ z M' δ, gs_exec X (d + 3) 33 [.inr (.inr 6), .inl (Int32.ofNat cur), .inl r] m = gs_rI (Int32.ofNat z) M' ∧ gs_Wx rsH m M' ∧ gs_Rp M' n K u v (sl1 tl k K r u v g sl) p (w1 tl k K r u v g cur sl w) ∧ inS K z ∧ ¬ Rb K r z ∧ sl1 tl k K r u v g sl z = some δ ∧ ∀ s x, inS K s → ¬ Rb K r s → sl1 tl k K r u v g sl s = some x → δ ≤ x := by
  obtain ⟨h, e7, e8, e9, hn, hk, h7, hT⟩ := id hB
  have e0 : ∀ s, (if s < 1 ∧ ¬ Rb K r s then slN tl k u v g sl s else sl s) = (if inS K s then sl s else if s < 1 ∧ ¬ Rb K r s then slN tl k u v g sl s else sl s) := fun s => by
    by_cases c : inS K s
    · have := c.1
      rw [if_pos c, if_neg (fun y => by omega)]
    · rw [if_neg c]
  obtain ⟨z, M', l1, l2, l3, l4, l5, l6, l7, l8⟩ := x_reach_loop (X := X) (d := d) (r := r) (cur := cur) hB hK hRp hg hgn hcur hu hv hcb K 1 0 X.1 m (wx_refl m) (by omega) (by omega) (by unfold gs_Fu at hX; omega) rfl rfl rfl (fun s hs => by
    have := hs.1
    rw [if_neg (fun y => by omega)]
    exact hRp.2.2.1 s hs) (fun s hs => by
    have := hs.1
    rw [if_neg (fun y => by omega)]) (Or.inl ⟨rfl, fun s hs hlt => by have := hs.1; omega⟩)
  obtain ⟨e, x, he, hne, hex⟩ := hex
  rcases l8 with ⟨-, b⟩ | ⟨a, b, c⟩
  · exact absurd (b e he) hne
  · have sle : ∀ s, ¬ Rb K r s → sl1 tl k K r u v g sl s = slN tl k u v g sl s := fun s hs => by
      unfold sl1
      rw [if_pos hs]
    have ce := c e he hne
    rw [sle e hne] at hex
    rw [hex] at ce
    cases hδ : slN tl k u v g sl z with
    | none => rw [hδ] at ce; exact absurd rfl ce
    | some δ =>
      refine ⟨z, M', δ, ?_, l2, ⟨fun g' h1 h2 => by rw [l3]; exact hRp.1 g' h1 h2, fun s hs => by rw [l4]; exact hRp.2.1 s hs, l6, fun s hs => by rw [l5]; exact hRp.2.2.2.1 s hs, fun s hs hne' => ?_⟩, a, b, by rw [sle z b]; exact hδ, fun s y hs hsR hy => ?_⟩
      · rw [eq_X4_reachFrom, fl_6 h, sh_6_4 h, gs_nn_s, x_i11 h (by omega), hRp.2.2.2.1 cur hcur, hpc]
        exact l1
      · rw [l7 s hs]
        unfold w1
        by_cases o : ¬ Rb K r s ∧ oltb (cand tl k u v g s) (sl s) = true
        · rw [if_pos o, if_pos o]
        · rw [if_neg o, if_neg o]
          refine hRp.2.2.2.2 s hs (fun hz => hne' ?_)
          unfold sl1
          by_cases y : Rb K r s
          · rw [if_neg (fun q => q y)]
            exact hz
          · rw [if_pos y]
            unfold slN
            rw [if_neg (fun q => o ⟨y, q⟩)]
            exact hz
      · have := c s hs hsR
        rw [sle s hsR] at hy
        rw [hy, hδ] at this
        have this : ¬ decide (y < δ) = true := this
        rw [decide_eq_true_iff] at this
        omega
theorem x_lift_loop {δ64 : Int64} (hB : gs_HB m T n k tl) (hK : K = k + n) (hRp : gs_Rp m n K u v sl p w) (hδ : δ64.toInt = δ) (hδb : -100000000000000000 ≤ δ ∧ δ ≤ 100000000000000000) (h0 : Rb K r 0) (hpr : ∀ s, Rb K r s → 1 ≤ p s ∧ p s ≤ n) (hinj : ∀ s t, Rb K r s → Rb K r t → p s = p t → s = t) (hL : hLf K (Rb K r) p u v u1 v1 sl sl2 δ) (hsr : ∀ s, inS K s → Rb K r s → sl2 s = sl s) (hub : ∀ g, 1 ≤ g → g ≤ n → -40000000000000000 ≤ u1 g ∧ u1 g ≤ 40000000000000000) (hvb : ∀ s, inS K s → -40000000000000000 ≤ v1 s ∧ v1 s ≤ 0) (hsb : ∀ s x, inS K s → ¬ Rb K r s → sl2 s = some x → -100000000000000000 ≤ x ∧ x ≤ 100000000000000000) :
    ∀ (q j F : Nat) (M : gs_M), j + q = K + 1 → q < F → M.1 = m.1 → M.2.1 = m.2.1 → M.2.2.2 = m.2.2.2 → (∀ s, s < j → Rb K r s → (M.2.2.1 8 (p s)).toInt = u1 (p s)) → (∀ g, 1 ≤ g → g ≤ n → (∀ s, s < j → Rb K r s → p s ≠ g) → (M.2.2.1 8 g).toInt = u g) → (∀ s, inS K s → (M.2.2.1 9 s).toInt = if s < j then v1 s else v s) → (∀ s, inS K s → cR (M.2.2.1 10 s) (if s < j then sl2 s else sl s)) →
      ∃ M', gs_iter X (gs_exec X d) gT_X4_liftBy F 3 [(0, .inr (.inr 6)), (1, .inr (.inl δ64)), (3, .inl r), (4, .inl (Int32.ofNat j))] [] M = gs_rU M' ∧ M'.1 = m.1 ∧ M'.2.1 = m.2.1 ∧ M'.2.2.2 = m.2.2.2 ∧ gs_Rp M' n K u1 v1 sl2 p w := by
  obtain ⟨h, e7, e8, e9, hn, hk, h7, hT⟩ := id hB
  obtain ⟨l1, l2, l3, l4, l5⟩ := hL
  intro q
  induction q with
  | zero =>
    intro j F M hj hF a1 a2 a3 b1 b2 b3 b4
    obtain ⟨F, rfl⟩ : ∃ y, F = y + 1 := ⟨F - 1, by omega⟩
    have hM : gs_Sh M T := by
      unfold gs_Sh at h ⊢
      rw [a1, a3]
      exact h
    refine ⟨M, ?_, a1, a2, a3, fun g h1 h2 => ?_, fun s hs => ?_, fun s hs => ?_, fun s hs => by rw [a2]; exact hRp.2.2.2.1 s hs, fun s hs hne => ?_⟩
    · rw [eq_X4_liftBy_3, fl_6 hM, a2, e9, if_pos ((gs_nlt (by omega) (by omega)).mpr (by omega))]
    · by_cases ex : ∃ s, Rb K r s ∧ p s = g
      · obtain ⟨s, c1, c2⟩ := ex
        rw [← c2]
        exact b1 s (by have := c1.1; omega) c1
      · have no : ∀ s, Rb K r s → p s ≠ g := fun s c1 c2 => ex ⟨s, c1, c2⟩
        rw [l2 g no]
        exact b2 g h1 h2 (fun s _ c => no s c)
    · have := b3 s hs
      have := hs.2
      rw [if_pos (by omega)] at *
      assumption
    · have := b4 s hs
      have h2 := hs.2
      rw [if_pos (by omega)] at this
      exact this
    · rw [a2]
      refine hRp.2.2.2.2 s hs (fun hz => hne ?_)
      by_cases c : Rb K r s
      · rw [hsr s hs c]
        exact hz
      · rw [l5 s hs c, hz]
        rfl
  | succ q ih =>
    intro j F M hj hF a1 a2 a3 b1 b2 b3 b4
    obtain ⟨F, rfl⟩ : ∃ y, F = y + 1 := ⟨F - 1, by omega⟩
    have hM : gs_Sh M T := by
      unfold gs_Sh at h ⊢
      rw [a1, a3]
      exact h
    have pj : M.2.1 11 j = Int32.ofNat (p j) := by rw [a2]; exact hRp.2.2.2.1 j (by omega)
    rw [eq_X4_liftBy_3, fl_6 hM, a2, e9, if_neg (fun y => by have := (gs_nlt (by omega) (by omega)).mp y; omega), gs_ns]
    by_cases c : Rb K r j
    · obtain ⟨g1, g2⟩ := hpr j c
      have ug := b2 (p j) g1 g2 (fun s hs hc e => by have := hinj s j hc c e; omega)
      have lj := l1 j c
      have ub := hub (p j) g1 g2
      have s1 : (M.2.2.1 8 (p j) + δ64).toInt = u1 (p j) := by
        rw [L_add (by rw [ug, hδ]; omega) (by rw [ug, hδ]; omega), ug, hδ]
        omega
      have pj' : m.2.1 11 j = Int32.ofNat (p j) := hRp.2.2.2.1 j (by omega)
      rw [if_pos c.2, fl_6 hM, sh_6_1 hM, gs_nn_s, fl_6 hM, sh_6_4 hM, gs_nn_s, x_i11 hM (by omega), pj', x_i8 hM (by omega), x_i8 hM (by omega)]
      simp only [gs_fld_sJ, gs_ix_sJ, fl_6 hM, gs_sJ222, sh_6_2 hM, gs_nn_s, x_i9 hM (show j < 23 by omega)]
      refine ih (j + 1) F (gs_sJ (gs_sJ M 8 (p j) (M.2.2.1 8 (p j) + δ64)) 9 j ((gs_sJ M 8 (p j) (M.2.2.1 8 (p j) + δ64)).2.2.1 9 j - δ64)) (by omega) (by omega) a1 a2 a3 (fun s hs hc => ?_) (fun g h1 h2 hno => ?_) (fun s hs => ?_) (fun s hs => ?_)
      · rw [gs_sJg, if_neg (by decide)]
        by_cases e : s = j
        · rw [e, gs_sJe]
          exact s1
        · rw [gs_sJg, if_pos rfl, if_neg (fun e2 => e (hinj s j hc c e2))]
          exact b1 s (by omega) hc
      · have hgj : g ≠ p j := fun e => hno j (by omega) c e.symm
        rw [gs_sJg, if_neg (by decide), gs_sJg, if_pos rfl, if_neg hgj]
        exact b2 g h1 h2 (fun s hs hc => hno s (by omega) hc)
      · by_cases e : s = j
        · rw [e, gs_sJe, gs_sJg, if_neg (by decide), if_pos (by omega)]
          rw [e] at hs
          have vj := b3 j hs
          rw [if_neg (by omega)] at vj
          have lv := l3 j hs c
          have vb := hvb j hs
          rw [L_sub (by rw [vj, hδ]; omega) (by rw [vj, hδ]; omega), vj, hδ]
          omega
        · rw [gs_sJg, if_pos rfl, if_neg e, gs_sJg, if_neg (by decide)]
          have := b3 s hs
          by_cases y : s < j
          · rw [if_pos y] at this
            rw [if_pos (by omega)]
            exact this
          · rw [if_neg y] at this
            rw [if_neg (by omega)]
            exact this
      · rw [gs_sJg, if_neg (by decide), gs_sJg, if_neg (by decide)]
        have := b4 s hs
        by_cases e : s = j
        · rw [e, if_pos (by omega)]
          rw [e] at hs this
          rw [if_neg (by omega)] at this
          rw [hsr j hs c]
          exact this
        · by_cases y : s < j
          · rw [if_pos y] at this
            rw [if_pos (by omega)]
            exact this
          · rw [if_neg y] at this
            rw [if_neg (by omega)]
            exact this
    · have nb : ¬ isBit r (Int32.ofNat j) := fun y => c ⟨by omega, y⟩
      have hj0 : j ≠ 0 := fun e => c (by rw [e]; exact h0)
      have hjS : inS K j := ⟨by omega, by omega⟩
      have slj := b4 j hjS
      rw [if_neg (by omega)] at slj
      have l5j := l5 j hjS c
      have goOn : ∀ (M2 : gs_M), M2.1 = m.1 → M2.2.1 = m.2.1 → M2.2.2.2 = m.2.2.2 → M2.2.2.1 8 = M.2.2.1 8 → M2.2.2.1 9 = M.2.2.1 9 → (∀ s, s ≠ j → M2.2.2.1 10 s = M.2.2.1 10 s) → cR (M2.2.2.1 10 j) (sl2 j) → ∃ M', gs_iter X (gs_exec X d) gT_X4_liftBy F 3 [(0, .inr (.inr 6)), (1, .inr (.inl δ64)), (3, .inl r), (4, .inl (Int32.ofNat (j + 1)))] [] M2 = gs_rU M' ∧ M'.1 = m.1 ∧ M'.2.1 = m.2.1 ∧ M'.2.2.2 = m.2.2.2 ∧ gs_Rp M' n K u1 v1 sl2 p w := by
        intro M2 x1 x2 x3 x8 x9 x10 xj
        refine ih (j + 1) F M2 (by omega) (by omega) x1 x2 x3 (fun s hs hc => ?_) (fun g h1 h2 hno => ?_) (fun s hs => ?_) (fun s hs => ?_)
        · have : s ≠ j := fun e => c (by rw [← e]; exact hc)
          rw [x8]
          exact b1 s (by omega) hc
        · rw [x8]
          exact b2 g h1 h2 (fun s hs hc => hno s (by omega) hc)
        · rw [x9]
          have := b3 s hs
          by_cases e : s = j
          · rw [e, if_pos (by omega), l4 j hjS c]
            rw [e, if_neg (by omega)] at this
            exact this
          · by_cases y : s < j
            · rw [if_pos y] at this
              rw [if_pos (by omega)]
              exact this
            · rw [if_neg y] at this
              rw [if_neg (by omega)]
              exact this
        · by_cases e : s = j
          · rw [e, if_pos (by omega)]
            exact xj
          · rw [x10 s e]
            have := b4 s hs
            by_cases y : s < j
            · rw [if_pos y] at this
              rw [if_pos (by omega)]
              exact this
            · rw [if_neg y] at this
              rw [if_neg (by omega)]
              exact this
      rw [if_neg nb, fl_6 hM, sh_6_3 hM, gs_nn_s, x_i10 hM (by omega)]
      cases hz : sl j with
      | none =>
        rw [hz] at slj l5j
        rw [if_pos ((cR_far slj).mpr rfl)]
        refine goOn M a1 a2 a3 rfl rfl (fun _ _ => rfl) ?_
        rw [l5j]
        exact slj
      | some x =>
        rw [hz] at slj l5j
        have l5j : sl2 j = some (x - δ) := l5j
        obtain ⟨y1, y2⟩ := hsb j _ hjS c l5j
        rw [if_neg (fun y => by have := (cR_far slj).mp y; cases this), fl_6 hM, gs_nn_s, x_i10 hM (by omega), x_i10 hM (by omega)]
        refine goOn (gs_sJ M 10 j (M.2.2.1 10 j - δ64)) a1 a2 a3 ?_ ?_ (fun s hs => ?_) ?_
        · funext z
          rw [gs_sJg, if_neg (by decide)]
        · funext z
          rw [gs_sJg, if_neg (by decide)]
        · rw [gs_sJg, if_pos rfl, if_neg hs]
        · rw [gs_sJe, l5j]
          obtain ⟨z1, z2, z3⟩ := slj
          refine ⟨?_, y1, y2⟩
          rw [L_sub (by rw [z1, hδ]; omega) (by rw [z1, hδ]; omega), z1, hδ]
theorem x_liftBy {δ64 : Int64} (hX : gs_Fu X) (hB : gs_HB m T n k tl) (hK : K = k + n) (hRp : gs_Rp m n K u v sl p w) (hδ : δ64.toInt = δ) (hδb : -100000000000000000 ≤ δ ∧ δ ≤ 100000000000000000) (h0 : Rb K r 0) (hpr : ∀ s, Rb K r s → 1 ≤ p s ∧ p s ≤ n) (hinj : ∀ s t, Rb K r s → Rb K r t → p s = p t → s = t) (hL : hLf K (Rb K r) p u v u1 v1 sl sl2 δ) (hsr : ∀ s, inS K s → Rb K r s → sl2 s = sl s) (hub : ∀ g, 1 ≤ g → g ≤ n → -40000000000000000 ≤ u1 g ∧ u1 g ≤ 40000000000000000) (hvb : ∀ s, inS K s → -40000000000000000 ≤ v1 s ∧ v1 s ≤ 0) (hsb : ∀ s x, inS K s → ¬ Rb K r s → sl2 s = some x → -100000000000000000 ≤ x ∧ x ≤ 100000000000000000) :
    ∃ M', gs_exec X (d + 1) 34 [.inr (.inr 6), .inr (.inl δ64), .inl r] m = gs_rU M' ∧ M'.1 = m.1 ∧ M'.2.1 = m.2.1 ∧ M'.2.2.2 = m.2.2.2 ∧ gs_Rp M' n K u1 v1 sl2 p w := by
  have hn := hB.2.2.2.2.1
  have hk := hB.2.2.2.2.2.1
  rw [eq_X4_liftBy]
  exact x_lift_loop hB hK hRp hδ hδb h0 hpr hinj hL hsr hub hvb hsb (K + 1) 0 X.1 m (by omega) (by unfold gs_Fu at hX; omega) rfl rfl rfl (fun s hs => by omega) (fun g h1 h2 _ => hRp.1 g h1 h2) (fun s hs => by rw [if_neg (by omega)]; exact hRp.2.1 s hs) (fun s hs => by rw [if_neg (by omega)]; exact hRp.2.2.1 s hs)
end LFT
