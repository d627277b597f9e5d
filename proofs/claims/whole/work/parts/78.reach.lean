/-! Pairing in the class: the nearest seat, and lifts. -/
def oltb (a b : Option Int) : Bool := match a, b with
  | some x, some y => decide (x < y)
  | some _, none => true
  | none, _ => false
theorem far_v : (9223372036854775807 : Int64).toInt = 9223372036854775807 := rfl
theorem cR_lt {x y : Int64} {a b : Option Int} (ha : cR x a) (hb : cR y b) : lg_cmp x y < 0 ↔ oltb a b = true := by
  rw [j_cl]
  cases a with
  | none =>
    have ha : x = 9223372036854775807 := ha
    rw [ha, far_v]
    have hy := y.toInt_lt
    constructor
    · intro q; omega
    · intro q; cases q
  | some p =>
    cases b with
    | none =>
      have hb : y = 9223372036854775807 := hb
      obtain ⟨h1, h2, h3⟩ := ha
      rw [hb, far_v, h1]
      exact ⟨fun _ => rfl, fun _ => by omega⟩
    | some q =>
      obtain ⟨h1, h2, h3⟩ := ha
      obtain ⟨g1, g2, g3⟩ := hb
      rw [h1, g1]
      show p < q ↔ decide (p < q) = true
      rw [decide_eq_true_iff]
theorem cR_far {x : Int64} {a : Option Int} (ha : cR x a) : lg_cmp x 9223372036854775807 = 0 ↔ a = none := by
  rw [j_ce]
  cases a with
  | none => exact ⟨fun _ => rfl, fun _ => ha⟩
  | some p =>
    obtain ⟨h1, h2, h3⟩ := ha
    constructor
    · intro q
      rw [q, far_v] at h1
      omega
    · intro q; cases q
theorem oltb_trans {a b c : Option Int} (h1 : oltb a b = true) (h2 : oltb b c = true) : oltb a c = true := by
  cases a with
  | none => cases h1
  | some x =>
    cases c with
    | none => rfl
    | some z =>
      cases b with
      | none => cases h2
      | some y =>
        have h1 : decide (x < y) = true := h1
        have h2 : decide (y < z) = true := h2
        rw [decide_eq_true_iff] at h1 h2
        show decide (x < z) = true
        rw [decide_eq_true_iff]
        omega
/-- bits of seats -/
abbrev Rb (K : Nat) (r : Int32) (s : Nat) : Prop := s ≤ K ∧ isBit r (Int32.ofNat s)
theorem bit_shl : ∀ c, c < 23 → ∀ s, s < 23 → ((1 : Int32) <<< (Int32.ofNat c &&& 31)).toBitVec.getLsbD s = decide (c = s) := by decide +kernel
theorem bit_or {r : Int32} {c s : Nat} (hc : c < 23) (hs : s < 23) : isBit (r ||| ((1 : Int32) <<< (Int32.ofNat c &&& 31))) (Int32.ofNat s) ↔ (isBit r (Int32.ofNat s) ∨ s = c) := by
  rw [bit_iff _ (show s < 32 by omega), bit_iff _ (show s < 32 by omega), Int32.toBitVec_or, BitVec.getLsbD_or, bit_shl c hc s hs, Bool.or_eq_true, decide_eq_true_iff]
  constructor
  · intro h
    rcases h with h | h
    · exact Or.inl h
    · exact Or.inr h.symm
  · intro h
    rcases h with h | h
    · exact Or.inl h
    · exact Or.inr h.symm
theorem Rb_or {K : Nat} {r : Int32} {c s : Nat} (hK : K < 23) (hc : c ≤ K) : Rb K (r ||| ((1 : Int32) <<< (Int32.ofNat c &&& 31))) s ↔ (Rb K r s ∨ s = c) := by
  constructor
  · intro ⟨h1, h2⟩
    rcases (bit_or (by omega) (by omega)).mp h2 with h | h
    · exact Or.inl ⟨h1, h⟩
    · exact Or.inr h
  · intro h
    rcases h with ⟨h1, h2⟩ | h
    · exact ⟨h1, (bit_or (by omega) (by omega)).mpr (Or.inl h2)⟩
    · subst h
      exact ⟨hc, (bit_or (by omega) (by omega)).mpr (Or.inr rfl)⟩
def rsH (x _i : Nat) : Prop := x = 11 ∨ x = 12
/-- what the class holds of lifts, slack, seats, ways -/
def gs_Rp (m : gs_M) (n K : Nat) (u v : Nat → Int) (sl : Nat → Option Int) (p w : Nat → Nat) : Prop := (∀ g, 1 ≤ g → g ≤ n → (m.2.2.1 8 g).toInt = u g) ∧ (∀ s, inS K s → (m.2.2.1 9 s).toInt = v s) ∧ (∀ s, inS K s → cR (m.2.2.1 10 s) (sl s)) ∧ (∀ s, s ≤ K → m.2.1 11 s = Int32.ofNat (p s)) ∧ (∀ s, inS K s → sl s ≠ none → m.2.1 12 s = Int32.ofNat (w s))
section RCH
variable {X : gs_E} {d : Nat} {m M : gs_M} {T n k : Nat} {tl : Nat → Nat → Nat}
theorem wh_hb (hB : gs_HB m T n k tl) (hW : gs_Wx rsH m M) : gs_HB M T n k tl := by
  obtain ⟨h, e7, e8, e9, hn, hk, h7, hT⟩ := hB
  have c6 : ∀ i, M.2.1 6 i = m.2.1 6 i := fun i => hW.2.2 6 i (fun q => by unfold rsH at q; omega)
  refine ⟨?_, by rw [c6]; exact e7, by rw [c6]; exact e8, by rw [c6]; exact e9, hn, hk, fun g c hg hc => ?_, hT⟩
  · unfold gs_Sh at h ⊢
    rw [hW.1, hW.2.1]
    exact h
  · rw [hW.2.2 7 _ (fun q => by unfold rsH at q; omega)]
    exact h7 g c hg hc
theorem x_i8 {g : Nat} (h : gs_Sh m T) (hg : g < 13) {K : Nat → gs_O} : gs_ix m 8 14 (Int32.ofNat g) K = K g := gs_ixn h.1 rfl hg
theorem x_i9 {g : Nat} (h : gs_Sh m T) (hg : g < 23) {K : Nat → gs_O} : gs_ix m 9 14 (Int32.ofNat g) K = K g := gs_ixn h.1 rfl hg
theorem x_i10 {g : Nat} (h : gs_Sh m T) (hg : g < 23) {K : Nat → gs_O} : gs_ix m 10 14 (Int32.ofNat g) K = K g := gs_ixn h.1 rfl hg
theorem x_i11 {g : Nat} (h : gs_Sh m T) (hg : g < 23) {K : Nat → gs_O} : gs_ix m 11 13 (Int32.ofNat g) K = K g := gs_ixn h.1 rfl hg
theorem x_i12 {g : Nat} (h : gs_Sh m T) (hg : g < 23) {K : Nat → gs_O} : gs_ix m 12 13 (Int32.ofNat g) K = K g := gs_ixn h.1 rfl hg
theorem x_reach_tail {s z : Nat} {a b : Option Int} {K1 K2 : gs_O} (h : gs_Sh m T) (hs : s < 23) (hz : z < 23) (ha : cR (m.2.2.1 10 s) a) (hb : z ≠ 0 → cR (m.2.2.1 10 z) b) :
    (if Int32.ofNat z = 0 then K1 else gs_fld m 6 4 (gs_nn (m.2.2.2 6 3) (fun q3 => gs_ix m q3 14 (Int32.ofNat s) (fun k4 => gs_fld m 6 4 (gs_nn (m.2.2.2 6 3) (fun q5 => gs_ix m q5 14 (Int32.ofNat z) (fun k6 => if (lg_cmp (m.2.2.1 q3 k4) (m.2.2.1 q5 k6)) < 0 then K1 else K2))))))) = if z = 0 ∨ oltb a b = true then K1 else K2 := by
  by_cases e : z = 0
  · rw [if_pos (show Int32.ofNat z = 0 by rw [e]; rfl), if_pos (Or.inl e)]
  · rw [if_neg (n_nz (by omega) (by omega)), fl_6 h, sh_6_3 h, gs_nn_s, x_i10 h hs, fl_6 h, gs_nn_s, x_i10 h hz]
    have q := cR_lt ha (hb e)
    by_cases c : lg_cmp (m.2.2.1 10 s) (m.2.2.1 10 z) < 0
    · rw [if_pos c, if_pos (Or.inr (q.mp c))]
    · rw [if_neg c, if_neg (fun y => y.elim e (fun y => c (q.mpr y)))]
/-- slack after a look from guest g -/
def cand (tl : Nat → Nat → Nat) (k : Nat) (u v : Nat → Int) (g s : Nat) : Option Int := (Cf tl k g s).map (fun c => c - u g - v s)
def slN (tl : Nat → Nat → Nat) (k : Nat) (u v : Nat → Int) (g : Nat) (sl : Nat → Option Int) (s : Nat) : Option Int := if oltb (cand tl k u v g s) (sl s) = true then cand tl k u v g s else sl s
theorem x_reach_loop {K cur g : Nat} {r : Int32} {u v : Nat → Int} {sl : Nat → Option Int} {p w : Nat → Nat} (hB : gs_HB m T n k tl) (hK : K = k + n) (hR : gs_Rp m n K u v sl p w) (hg : 1 ≤ g) (hgn : g ≤ n) (hcur : cur ≤ K) (hu : -40000000000000000 ≤ u g ∧ u g ≤ 40000000000000000) (hv : ∀ s, inS K s → -40000000000000000 ≤ v s ∧ v s ≤ 0) (hcb : ∀ s c, inS K s → Cf tl k g s = some c → -40000000000000000 ≤ c ∧ c ≤ 10000000000000000) :
    ∀ (q j z F : Nat) (M : gs_M), gs_Wx rsH m M → j + q = K + 1 → 1 ≤ j → q < F → M.2.2.1 8 = m.2.2.1 8 → M.2.2.1 9 = m.2.2.1 9 → M.2.1 11 = m.2.1 11 → (∀ s, inS K s → cR (M.2.2.1 10 s) (if s < j ∧ ¬ Rb K r s then slN tl k u v g sl s else sl s)) → (∀ s, inS K s → M.2.1 12 s = if s < j ∧ ¬ Rb K r s ∧ oltb (cand tl k u v g s) (sl s) = true then Int32.ofNat cur else m.2.1 12 s) →
      ((z = 0 ∧ ∀ s, inS K s → s < j → Rb K r s) ∨ (inS K z ∧ z < j ∧ ¬ Rb K r z ∧ ∀ s, inS K s → s < j → ¬ Rb K r s → ¬ oltb (slN tl k u v g sl s) (slN tl k u v g sl z) = true)) →
      ∃ z' M', gs_iter X (gs_exec X (d + 2)) gT_X4_reachFrom F 13 [(0, .inr (.inr 6)), (1, .inl (Int32.ofNat cur)), (2, .inl r), (3, .inl (Int32.ofNat g)), (4, .inl (Int32.ofNat z)), (5, .inl (Int32.ofNat j))] [] M = gs_rI (Int32.ofNat z') M' ∧ gs_Wx rsH m M' ∧ M'.2.2.1 8 = m.2.2.1 8 ∧ M'.2.2.1 9 = m.2.2.1 9 ∧ M'.2.1 11 = m.2.1 11 ∧ (∀ s, inS K s → cR (M'.2.2.1 10 s) (if ¬ Rb K r s then slN tl k u v g sl s else sl s)) ∧ (∀ s, inS K s → M'.2.1 12 s = if ¬ Rb K r s ∧ oltb (cand tl k u v g s) (sl s) = true then Int32.ofNat cur else m.2.1 12 s) ∧
        ((z' = 0 ∧ ∀ s, inS K s → Rb K r s) ∨ (inS K z' ∧ ¬ Rb K r z' ∧ ∀ s, inS K s → ¬ Rb K r s → ¬ oltb (slN tl k u v g sl s) (slN tl k u v g sl z') = true)) := by
  obtain ⟨h, e7, e8, e9, hn, hk, h7, hT⟩ := id hB
  intro q
  induction q with
  | zero =>
    intro j z F M hW hj hj1 hF m8 m9 m11 hsl hw hz
    obtain ⟨F, rfl⟩ : ∃ y, F = y + 1 := ⟨F - 1, by omega⟩
    have hBM := wh_hb hB hW
    have e9M := hBM.2.2.2.1
    refine ⟨z, M, ?_, hW, m8, m9, m11, fun s hs => ?_, fun s hs => ?_, ?_⟩
    · rw [eq_X4_reachFrom_13, fl_6 hBM.1, e9M, if_pos ((gs_nlt (by omega) (by omega)).mpr (by omega))]
    · have := hsl s hs
      have hs2 := hs.2
      by_cases c : Rb K r s
      · rw [if_neg (fun y => y c)]
        rw [if_neg (fun y => y.2 c)] at this
        exact this
      · rw [if_pos c]
        rw [if_pos ⟨by omega, c⟩] at this
        exact this
    · have := hw s hs
      have hs2 := hs.2
      by_cases c : ¬ Rb K r s ∧ oltb (cand tl k u v g s) (sl s) = true
      · rw [if_pos c]
        rw [if_pos ⟨by omega, c⟩] at this
        exact this
      · rw [if_neg c]
        rw [if_neg (fun y => c y.2)] at this
        exact this
    · rcases hz with ⟨a, b⟩ | ⟨a, b, c, e⟩
      · exact Or.inl ⟨a, fun s hs => b s hs (by have := hs.2; omega)⟩
      · exact Or.inr ⟨a, c, fun s hs => e s hs (by have := hs.2; omega)⟩
  | succ q ih =>
    intro j z F M hW hj hj1 hF m8 m9 m11 hsl hw hz
    obtain ⟨F, rfl⟩ : ∃ y, F = y + 1 := ⟨F - 1, by omega⟩
    have hBM := wh_hb hB hW
    have hM := hBM.1
    have e9M := hBM.2.2.2.1
    have hjS : inS K j := ⟨hj1, by omega⟩
    have hzK : z ≤ K := by
      rcases hz with ⟨a, -⟩ | ⟨a, -⟩
      · omega
      · exact a.2
    rw [eq_X4_reachFrom_13, fl_6 hM, e9M, if_neg (fun y => by have := (gs_nlt (by omega) (by omega)).mp y; omega), gs_ns]
    by_cases cR' : Rb K r j
    · rw [if_pos cR'.2]
      refine ih (j + 1) z F M hW (by omega) (by omega) (by omega) m8 m9 m11 (fun s hs => ?_) (fun s hs => ?_) ?_
      · have := hsl s hs
        by_cases c : s < j ∧ ¬ Rb K r s
        · rw [if_pos ⟨by omega, c.2⟩]
          rw [if_pos c] at this
          exact this
        · rw [if_neg (fun y => c ⟨by
            have : s ≠ j := fun e => y.2 (by rw [e]; exact cR')
            omega, y.2⟩)]
          rw [if_neg c] at this
          exact this
      · have := hw s hs
        by_cases c : s < j ∧ ¬ Rb K r s ∧ oltb (cand tl k u v g s) (sl s) = true
        · rw [if_pos ⟨by omega, c.2⟩]
          rw [if_pos c] at this
          exact this
        · rw [if_neg (fun y => c ⟨by
            have : s ≠ j := fun e => y.2.1 (by rw [e]; exact cR')
            omega, y.2⟩)]
          rw [if_neg c] at this
          exact this
      · rcases hz with ⟨a, b⟩ | ⟨a, b, c, e⟩
        · refine Or.inl ⟨a, fun s hs hlt => ?_⟩
          by_cases es : s = j
          · rw [es]; exact cR'
          · exact b s hs (by omega)
        · refine Or.inr ⟨a, by omega, c, fun s hs hlt hn => ?_⟩
          by_cases es : s = j
          · exact absurd (by rw [es]; exact cR') hn
          · exact e s hs (by omega) hn
    · have nb : ¬ isBit r (Int32.ofNat j) := fun y => cR' ⟨by omega, y⟩
      obtain ⟨x, ex, hx⟩ := x_costOf (X := X) (d := d) hBM hg hgn hj1 (show j ≤ k + n by omega)
      have slj : cR (M.2.2.1 10 j) (sl j) := by
        have := hsl j hjS
        rw [if_neg (fun y => by omega)] at this
        exact this
      -- the tail, once the slack of seat j stands
      have fin : ∀ (M1 : gs_M), gs_Wx rsH m M1 → M1.2.2.1 8 = m.2.2.1 8 → M1.2.2.1 9 = m.2.2.1 9 → M1.2.1 11 = m.2.1 11 → (∀ s, inS K s → cR (M1.2.2.1 10 s) (if s < j + 1 ∧ ¬ Rb K r s then slN tl k u v g sl s else sl s)) → (∀ s, inS K s → M1.2.1 12 s = if s < j + 1 ∧ ¬ Rb K r s ∧ oltb (cand tl k u v g s) (sl s) = true then Int32.ofNat cur else m.2.1 12 s) → ∃ z' M', (if Int32.ofNat z = 0 then gs_iter X (gs_exec X (d + 2)) gT_X4_reachFrom F 13 [(0, .inr (.inr 6)), (1, .inl (Int32.ofNat cur)), (2, .inl r), (3, .inl (Int32.ofNat g)), (4, .inl (Int32.ofNat j)), (5, .inl (Int32.ofNat (j + 1)))] [] M1 else gs_fld M1 6 4 (gs_nn (M1.2.2.2 6 3) (fun q3 => gs_ix M1 q3 14 (Int32.ofNat j) (fun k4 => gs_fld M1 6 4 (gs_nn (M1.2.2.2 6 3) (fun q5 => gs_ix M1 q5 14 (Int32.ofNat z) (fun k6 => if (lg_cmp (M1.2.2.1 q3 k4) (M1.2.2.1 q5 k6)) < 0 then gs_iter X (gs_exec X (d + 2)) gT_X4_reachFrom F 13 [(0, .inr (.inr 6)), (1, .inl (Int32.ofNat cur)), (2, .inl r), (3, .inl (Int32.ofNat g)), (4, .inl (Int32.ofNat j)), (5, .inl (Int32.ofNat (j + 1)))] [] M1 else gs_iter X (gs_exec X (d + 2)) gT_X4_reachFrom F 13 [(0, .inr (.inr 6)), (1, .inl (Int32.ofNat cur)), (2, .inl r), (3, .inl (Int32.ofNat g)), (4, .inl (Int32.ofNat z)), (5, .inl (Int32.ofNat (j + 1)))] [] M1))))))) = gs_rI (Int32.ofNat z') M' ∧ gs_Wx rsH m M' ∧ M'.2.2.1 8 = m.2.2.1 8 ∧ M'.2.2.1 9 = m.2.2.1 9 ∧ M'.2.1 11 = m.2.1 11 ∧ (∀ s, inS K s → cR (M'.2.2.1 10 s) (if ¬ Rb K r s then slN tl k u v g sl s else sl s)) ∧ (∀ s, inS K s → M'.2.1 12 s = if ¬ Rb K r s ∧ oltb (cand tl k u v g s) (sl s) = true then Int32.ofNat cur else m.2.1 12 s) ∧
          ((z' = 0 ∧ ∀ s, inS K s → Rb K r s) ∨ (inS K z' ∧ ¬ Rb K r z' ∧ ∀ s, inS K s → ¬ Rb K r s → ¬ oltb (slN tl k u v g sl s) (slN tl k u v g sl z') = true)) := by
        intro M1 hW1 a8 a9 a11 hsl1 hw1
        have hM1 := (wh_hb hB hW1).1
        have aj : cR (M1.2.2.1 10 j) (slN tl k u v g sl j) := by
          have := hsl1 j hjS
          rw [if_pos ⟨by omega, cR'⟩] at this
          exact this
        have az : z ≠ 0 → cR (M1.2.2.1 10 z) (slN tl k u v g sl z) := fun hz0 => by
          rcases hz with ⟨a, -⟩ | ⟨a, b, c, e⟩
          · exact absurd a hz0
          · have := hsl1 z a
            rw [if_pos ⟨by omega, c⟩] at this
            exact this
        rw [x_reach_tail hM1 (by omega) (by omega) aj az]
        by_cases c : z = 0 ∨ oltb (slN tl k u v g sl j) (slN tl k u v g sl z) = true
        · rw [if_pos c]
          refine ih (j + 1) j F M1 hW1 (by omega) (by omega) (by omega) a8 a9 a11 hsl1 hw1 (Or.inr ⟨hjS, by omega, cR', fun s hs hlt hn => ?_⟩)
          by_cases es : s = j
          · rw [es]
            intro y
            cases hq : slN tl k u v g sl j with
            | none => rw [hq] at y; cases y
            | some a =>
              rw [hq] at y
              have y : decide (a < a) = true := y
              rw [decide_eq_true_iff] at y
              omega
          · rcases hz with ⟨a, b⟩ | ⟨a, b, c', e⟩
            · exact absurd (b s hs (by omega)) hn
            · rcases c with c | c
              · have := a.1
                omega
              · exact fun y => e s hs (by omega) hn (oltb_trans y c)
        · rw [if_neg c]
          have hz0 : z ≠ 0 := fun e => c (Or.inl e)
          rcases hz with ⟨a, b⟩ | ⟨a, b, c', e⟩
          · exact absurd a hz0
          · refine ih (j + 1) z F M1 hW1 (by omega) (by omega) (by omega) a8 a9 a11 hsl1 hw1 (Or.inr ⟨a, by omega, c', fun s hs hlt hn => ?_⟩)
            by_cases es : s = j
            · rw [es]
              exact fun y => c (Or.inr y)
            · exact e s hs (by omega) hn
      -- slack of seat j left as it is
      have keep : ¬ oltb (cand tl k u v g j) (sl j) = true → (∀ s, inS K s → cR (M.2.2.1 10 s) (if s < j + 1 ∧ ¬ Rb K r s then slN tl k u v g sl s else sl s)) ∧ (∀ s, inS K s → M.2.1 12 s = if s < j + 1 ∧ ¬ Rb K r s ∧ oltb (cand tl k u v g s) (sl s) = true then Int32.ofNat cur else m.2.1 12 s) := by
        intro no
        refine ⟨fun s hs => ?_, fun s hs => ?_⟩
        · by_cases es : s = j
          · rw [es, if_pos ⟨by omega, cR'⟩]
            unfold slN
            rw [if_neg no]
            exact slj
          · have := hsl s hs
            by_cases c : s < j ∧ ¬ Rb K r s
            · rw [if_pos ⟨by omega, c.2⟩]
              rw [if_pos c] at this
              exact this
            · rw [if_neg (fun y => c ⟨by omega, y.2⟩)]
              rw [if_neg c] at this
              exact this
        · by_cases es : s = j
          · rw [es, if_neg (fun y => no y.2.2)]
            have := hw j hjS
            rw [if_neg (fun y => by omega)] at this
            exact this
          · have := hw s hs
            by_cases c : s < j ∧ ¬ Rb K r s ∧ oltb (cand tl k u v g s) (sl s) = true
            · rw [if_pos ⟨by omega, c.2⟩]
              rw [if_pos c] at this
              exact this
            · rw [if_neg (fun y => c ⟨by omega, y.2⟩)]
              rw [if_neg c] at this
              exact this
      rw [if_neg nb, fl_6 hM, ex, gs_bJ_s]
      cases hC : Cf tl k g j with
      | none =>
        rw [hC] at hx
        rw [if_pos ((cR_far hx).mpr rfl)]
        have hcn : cand tl k u v g j = none := by
          unfold cand
          rw [hC]
          rfl
        obtain ⟨k1, k2⟩ := keep (by rw [hcn]; intro y; cases y)
        exact fin M hW m8 m9 m11 k1 k2
      | some c =>
        have hcn : cand tl k u v g j = some (c - u g - v j) := by
          unfold cand
          rw [hC]
          rfl
        rw [hC] at hx
        have ug : (M.2.2.1 8 g).toInt = u g := by rw [m8]; exact hR.1 g hg hgn
        have vj : (M.2.2.1 9 j).toInt = v j := by rw [m9]; exact hR.2.1 j hjS
        obtain ⟨c1, c2⟩ := hcb j c hjS hC
        obtain ⟨v1, v2⟩ := hv j hjS
        have s1 : (x - M.2.2.1 8 g).toInt = c - u g := by
          rw [L_sub (by rw [hx.1, ug]; omega) (by rw [hx.1, ug]; omega), hx.1, ug]
        have s2 : ((x - M.2.2.1 8 g) - M.2.2.1 9 j).toInt = c - u g - v j := by
          rw [L_sub (by rw [s1, vj]; omega) (by rw [s1, vj]; omega), s1, vj]
        have hval : cR ((x - M.2.2.1 8 g) - M.2.2.1 9 j) (cand tl k u v g j) := by
          rw [hcn]
          exact ⟨s2, by omega, by omega⟩
        rw [if_neg (fun y => by have := (cR_far hx).mp y; cases this), fl_6 hM, sh_6_1 hM, gs_nn_s, x_i8 hM (by omega), fl_6 hM, sh_6_2 hM, gs_nn_s, x_i9 hM (by omega), fl_6 hM, sh_6_3 hM, gs_nn_s, x_i10 hM (by omega)]
        have hlt := cR_lt hval slj
        by_cases up : lg_cmp ((x - M.2.2.1 8 g) - M.2.2.1 9 j) (M.2.2.1 10 j) < 0
        · have upb := hlt.mp up
          rw [if_pos up, fl_6 hM, gs_nn_s, fl_6 hM, gs_nn_s, x_i8 hM (by omega), fl_6 hM, gs_nn_s, x_i9 hM (by omega), x_i10 hM (by omega)]
          have hM2 : gs_Sh (gs_sJ M 10 j ((x - M.2.2.1 8 g) - M.2.2.1 9 j)) T := hM
          have hM3 : gs_Sh (gs_sI (gs_sJ M 10 j ((x - M.2.2.1 8 g) - M.2.2.1 9 j)) 12 j (Int32.ofNat cur)) T := hM
          simp only [gs_fld_sJ, gs_ix_sJ, fl_6 hM, gs_sJ222, sh_6_5 hM, gs_nn_s, x_i12 hM (show j < 23 by omega)]
          refine fin (gs_sI (gs_sJ M 10 j ((x - M.2.2.1 8 g) - M.2.2.1 9 j)) 12 j (Int32.ofNat cur)) (wx_sI (wx_sJ hW) (Or.inr rfl)) ?_ ?_ ?_ (fun s hs => ?_) (fun s hs => ?_)
          · rw [← m8]
            funext i
            show (gs_sJ M 10 j _).2.2.1 8 i = _
            rw [gs_sJg, if_neg (by decide)]
          · rw [← m9]
            funext i
            show (gs_sJ M 10 j _).2.2.1 9 i = _
            rw [gs_sJg, if_neg (by decide)]
          · rw [← m11]
            funext i
            rw [gs_sIn (Or.inl (by decide))]
            rfl
          · show cR ((gs_sJ M 10 j _).2.2.1 10 s) _
            by_cases es : s = j
            · rw [es, gs_sJe, if_pos ⟨by omega, cR'⟩]
              unfold slN
              rw [if_pos upb]
              exact hval
            · rw [gs_sJg, if_pos rfl, if_neg es]
              have := hsl s hs
              by_cases c : s < j ∧ ¬ Rb K r s
              · rw [if_pos ⟨by omega, c.2⟩]
                rw [if_pos c] at this
                exact this
              · rw [if_neg (fun y => c ⟨by omega, y.2⟩)]
                rw [if_neg c] at this
                exact this
          · by_cases es : s = j
            · rw [es, gs_sIe, if_pos ⟨by omega, cR', upb⟩]
            · rw [gs_sIn (Or.inr es)]
              have : M.2.1 12 s = _ := hw s hs
              by_cases c : s < j ∧ ¬ Rb K r s ∧ oltb (cand tl k u v g s) (sl s) = true
              · rw [if_pos ⟨by omega, c.2⟩]
                rw [if_pos c] at this
                exact this
              · rw [if_neg (fun y => c ⟨by omega, y.2⟩)]
                rw [if_neg c] at this
                exact this
        · rw [if_neg up]
          obtain ⟨k1, k2⟩ := keep (fun y => up (hlt.mpr y))
          have f := fin M hW m8 m9 m11 k1 k2
          rw [sh_6_3 hM] at f
          exact f
end RCH
