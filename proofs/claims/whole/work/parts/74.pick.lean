/-! Pairings of guests and clouds: the best by count, then toll, then the clouds in order. -/
abbrev skp (t : Nat → Nat) (set c : Nat) : Prop := set.testBit c = true ∨ t c = 100000
def bsc (B : Nat → Nat) (t : Nat → Nat) (set : Nat) : Nat → Nat → Nat → Nat
  | 0, _, v => v
  | r + 1, c, v => if skp t set c then bsc B t set r (c + 1) v else bsc B t set r (c + 1) (max v (1000000 - t c + B (set ||| 2 ^ c)))
theorem bsc_s (B : Nat → Nat) (t : Nat → Nat) (set r c v : Nat) : bsc B t set (r + 1) c v = if skp t set c then bsc B t set r (c + 1) v else bsc B t set r (c + 1) (max v (1000000 - t c + B (set ||| 2 ^ c))) := rfl
/-- the best value of the last q of n guests, the clouds of set being taken -/
def bst (t : Nat → Nat → Nat) (n k : Nat) : Nat → Nat → Nat
  | 0, _ => 0
  | q + 1, set => bsc (bst t n k q) (t (n - (q + 1))) set k 0 (bst t n k q set)
theorem bst_s (t : Nat → Nat → Nat) (n k q set : Nat) : bst t n k (q + 1) set = bsc (bst t n k q) (t (n - (q + 1))) set k 0 (bst t n k q set) := rfl
def pck (B : Nat → Nat) (t : Nat → Nat) (set tgt : Nat) : Nat → Nat → Nat
  | 0, _ => 10
  | r + 1, c => if skp t set c then pck B t set tgt r (c + 1) else if 1000000 - t c + B (set ||| 2 ^ c) = tgt then c else pck B t set tgt r (c + 1)
theorem pck_s (B : Nat → Nat) (t : Nat → Nat) (set tgt r c : Nat) : pck B t set tgt (r + 1) c = if skp t set c then pck B t set tgt r (c + 1) else if 1000000 - t c + B (set ||| 2 ^ c) = tgt then c else pck B t set tgt r (c + 1) := rfl
abbrev tak (set c : Nat) : Nat := if c = 10 then set else set ||| 2 ^ c
def grd (t : Nat → Nat → Nat) (n k : Nat) : Nat → Nat → List Nat
  | 0, _ => []
  | q + 1, set => pck (bst t n k q) (t (n - (q + 1))) set (bst t n k (q + 1) set) k 0 :: grd t n k q (tak set (pck (bst t n k q) (t (n - (q + 1))) set (bst t n k (q + 1) set) k 0))
theorem grd_s (t : Nat → Nat → Nat) (n k q set : Nat) : grd t n k (q + 1) set = pck (bst t n k q) (t (n - (q + 1))) set (bst t n k (q + 1) set) k 0 :: grd t n k q (tak set (pck (bst t n k q) (t (n - (q + 1))) set (bst t n k (q + 1) set) k 0)) := rfl
def vld (t : Nat → Nat → Nat) (n k : Nat) : Nat → Nat → List Nat → Prop
  | 0, _, s => s = []
  | _ + 1, _, [] => False
  | q + 1, set, c :: s => (c = 10 ∨ (c < k ∧ ¬ skp (t (n - (q + 1))) set c)) ∧ vld t n k q (tak set c) s
abbrev wv1 (t : Nat → Nat → Nat) (n q c : Nat) : Nat := if c = 10 then 0 else 1000000 - t (n - (q + 1)) c
def wv (t : Nat → Nat → Nat) (n : Nat) : Nat → List Nat → Nat
  | q + 1, c :: s => wv1 t n q c + wv t n q s
  | _, _ => 0
def cC : List Nat → Nat
  | [] => 0
  | c :: s => (if c = 10 then 0 else 1) + cC s
def cT (t : Nat → Nat → Nat) (n : Nat) : Nat → List Nat → Nat
  | q + 1, c :: s => (if c = 10 then 0 else t (n - (q + 1)) c) + cT t n q s
  | _, _ => 0
def cN (e : Nat) : Nat → List Nat → Nat
  | q + 1, c :: s => c * 11 ^ (e + q) + cN e q s
  | _, _ => 0
theorem bsc_v {B : Nat → Nat} {t : Nat → Nat} {set : Nat} : ∀ r c v, v ≤ bsc B t set r c v
  | 0, _, _ => Nat.le_refl _
  | r + 1, c, v => by
    rw [bsc_s]
    split
    · exact bsc_v r (c + 1) v
    · exact Nat.le_trans (Nat.le_max_left _ _) (bsc_v r (c + 1) _)
theorem bsc_c {B : Nat → Nat} {t : Nat → Nat} {set : Nat} : ∀ r c v i, c ≤ i → i < c + r → ¬ skp t set i → 1000000 - t i + B (set ||| 2 ^ i) ≤ bsc B t set r c v
  | 0, c, v, i, h1, h2, _ => by omega
  | r + 1, c, v, i, h1, h2, hs => by
    rw [bsc_s]
    by_cases e : i = c
    · subst e
      rw [if_neg hs]
      exact Nat.le_trans (Nat.le_max_right _ _) (bsc_v r (i + 1) _)
    · split
      · exact bsc_c r (c + 1) v i (by omega) (by omega) hs
      · exact bsc_c r (c + 1) _ i (by omega) (by omega) hs
theorem bsc_e {B : Nat → Nat} {t : Nat → Nat} {set : Nat} : ∀ r c v, bsc B t set r c v = v ∨ ∃ i, c ≤ i ∧ i < c + r ∧ ¬ skp t set i ∧ 1000000 - t i + B (set ||| 2 ^ i) = bsc B t set r c v
  | 0, _, _ => Or.inl rfl
  | r + 1, c, v => by
    rw [bsc_s]
    by_cases hs : skp t set c
    · rw [if_pos hs]
      rcases bsc_e r (c + 1) v with h | ⟨i, h1, h2, h3, h4⟩
      · exact Or.inl h
      · exact Or.inr ⟨i, by omega, by omega, h3, h4⟩
    · rw [if_neg hs]
      rcases bsc_e r (c + 1) (max v (1000000 - t c + B (set ||| 2 ^ c))) with h | ⟨i, h1, h2, h3, h4⟩
      · rw [h]
        rcases Nat.le_total v (1000000 - t c + B (set ||| 2 ^ c)) with q | q
        · rw [Nat.max_eq_right q]
          exact Or.inr ⟨c, Nat.le_refl _, by omega, hs, rfl⟩
        · rw [Nat.max_eq_left q]
          exact Or.inl rfl
      · exact Or.inr ⟨i, by omega, by omega, h3, h4⟩
theorem pck_p {B : Nat → Nat} {t : Nat → Nat} {set tgt : Nat} : ∀ r c, (pck B t set tgt r c = 10 ∧ ∀ i, c ≤ i → i < c + r → ¬ skp t set i → ¬ 1000000 - t i + B (set ||| 2 ^ i) = tgt) ∨ (c ≤ pck B t set tgt r c ∧ pck B t set tgt r c < c + r ∧ ¬ skp t set (pck B t set tgt r c) ∧ 1000000 - t (pck B t set tgt r c) + B (set ||| 2 ^ (pck B t set tgt r c)) = tgt ∧ ∀ i, c ≤ i → i < pck B t set tgt r c → ¬ skp t set i → ¬ 1000000 - t i + B (set ||| 2 ^ i) = tgt)
  | 0, c => Or.inl ⟨rfl, fun i h1 h2 => by omega⟩
  | r + 1, c => by
    rw [pck_s]
    have step : (∀ i, i = c → ¬ skp t set i → ¬ 1000000 - t i + B (set ||| 2 ^ i) = tgt) → (pck B t set tgt r (c + 1) = 10 ∧ ∀ i, c ≤ i → i < c + (r + 1) → ¬ skp t set i → ¬ 1000000 - t i + B (set ||| 2 ^ i) = tgt) ∨ (c ≤ pck B t set tgt r (c + 1) ∧ pck B t set tgt r (c + 1) < c + (r + 1) ∧ ¬ skp t set (pck B t set tgt r (c + 1)) ∧ 1000000 - t (pck B t set tgt r (c + 1)) + B (set ||| 2 ^ (pck B t set tgt r (c + 1))) = tgt ∧ ∀ i, c ≤ i → i < pck B t set tgt r (c + 1) → ¬ skp t set i → ¬ 1000000 - t i + B (set ||| 2 ^ i) = tgt) := by
      intro h0
      rcases pck_p (B := B) (t := t) (set := set) (tgt := tgt) r (c + 1) with ⟨a1, a2⟩ | ⟨a1, a2, a3, a4, a5⟩
      · refine Or.inl ⟨a1, fun i h1 h2 hs => ?_⟩
        by_cases e : i = c
        · exact h0 i e hs
        · exact a2 i (by omega) (by omega) hs
      · refine Or.inr ⟨by omega, by omega, a3, a4, fun i h1 h2 hs => ?_⟩
        by_cases e : i = c
        · exact h0 i e hs
        · exact a5 i (by omega) h2 hs
    by_cases hs : skp t set c
    · rw [if_pos hs]
      exact step (fun i e h => absurd (by rw [e]; exact hs) h)
    · rw [if_neg hs]
      by_cases ht : 1000000 - t c + B (set ||| 2 ^ c) = tgt
      · rw [if_pos ht]
        exact Or.inr ⟨Nat.le_refl _, by omega, hs, ht, fun i h1 h2 => by omega⟩
      · rw [if_neg ht]
        exact step (fun i e _ => by rw [e]; exact ht)
section PCK
variable {t : Nat → Nat → Nat} {n k : Nat}
theorem vld_len : ∀ q set s, vld t n k q set s → s.length = q
  | 0, _, s, h => by rw [show s = [] from h]; rfl
  | q + 1, set, [], h => h.elim
  | q + 1, set, c :: s, h => congrArg (· + 1) (vld_len q _ s h.2)
theorem wv_le : ∀ q set s, vld t n k q set s → wv t n q s ≤ bst t n k q set
  | 0, _, s, h => by rw [show s = [] from h]; exact Nat.le_refl _
  | q + 1, set, [], h => h.elim
  | q + 1, set, c :: s, h => by
    have ih := wv_le q (tak set c) s h.2
    show wv1 t n q c + wv t n q s ≤ bst t n k (q + 1) set
    rw [bst_s]
    rcases h.1 with e | ⟨hc, hs⟩
    · subst e
      have := bsc_v (B := bst t n k q) (t := t (n - (q + 1))) (set := set) k 0 (bst t n k q set)
      unfold wv1
      rw [if_pos rfl]
      unfold tak at ih
      rw [if_pos rfl] at ih
      omega
    · have := bsc_c (B := bst t n k q) (t := t (n - (q + 1))) (set := set) k 0 (bst t n k q set) c (by omega) (by omega) hs
      by_cases e : c = 10
      · have v := bsc_v (B := bst t n k q) (t := t (n - (q + 1))) (set := set) k 0 (bst t n k q set)
        unfold wv1
        rw [if_pos e]
        unfold tak at ih
        rw [if_pos e] at ih
        omega
      · unfold wv1
        rw [if_neg e]
        unfold tak at ih
        rw [if_neg e] at ih
        omega
theorem pck10 (hk : k ≤ 10) {B : Nat → Nat} {t1 : Nat → Nat} {set tgt : Nat} : pck B t1 set tgt k 0 = 10 ∨ (pck B t1 set tgt k 0 < k ∧ pck B t1 set tgt k 0 ≠ 10 ∧ ¬ skp t1 set (pck B t1 set tgt k 0) ∧ 1000000 - t1 (pck B t1 set tgt k 0) + B (set ||| 2 ^ (pck B t1 set tgt k 0)) = tgt) := by
  rcases pck_p (B := B) (t := t1) (set := set) (tgt := tgt) k 0 with ⟨a1, -⟩ | ⟨-, a2, a3, a4, -⟩
  · exact Or.inl a1
  · exact Or.inr ⟨by omega, by omega, a3, a4⟩
theorem grd_v (hk : k ≤ 10) : ∀ q set, vld t n k q set (grd t n k q set) ∧ wv t n q (grd t n k q set) = bst t n k q set
  | 0, _ => ⟨rfl, rfl⟩
  | q + 1, set => by
    rw [grd_s]
    have ih := fun z => grd_v hk q z
    have hp := pck_p (B := bst t n k q) (t := t (n - (q + 1))) (set := set) (tgt := bst t n k (q + 1) set) k 0
    have he := bsc_e (B := bst t n k q) (t := t (n - (q + 1))) (set := set) k 0 (bst t n k q set)
    rw [← bst_s] at he
    generalize pck (bst t n k q) (t (n - (q + 1))) set (bst t n k (q + 1) set) k 0 = c at hp
    obtain ⟨i1, i2⟩ := ih (tak set c)
    rcases hp with ⟨a1, a2⟩ | ⟨a1, a2, a3, a4, a5⟩
    · refine ⟨⟨Or.inl a1, i1⟩, ?_⟩
      show wv1 t n q c + wv t n q _ = _
      rw [i2]
      unfold wv1 tak
      rw [if_pos a1, if_pos a1]
      rcases he with e | ⟨i, b1, b2, b3, b4⟩
      · rw [e, Nat.zero_add]
      · exact absurd b4 (a2 i b1 b2 b3)
    · have hc : c ≠ 10 := by omega
      refine ⟨⟨Or.inr ⟨by omega, a3⟩, i1⟩, ?_⟩
      show wv1 t n q c + wv t n q _ = _
      rw [i2]
      unfold wv1 tak
      rw [if_neg hc, if_neg hc]
      exact a4
theorem cN_lt {e : Nat} : ∀ q set s, k ≤ 10 → vld t n k q set s → cN e q s < 11 ^ (e + q)
  | 0, _, s, _, h => by
    rw [show s = [] from h]
    exact Nat.pow_pos (by decide)
  | q + 1, set, [], _, h => h.elim
  | q + 1, set, c :: s, hk, h => by
    have ih := cN_lt (e := e) q (tak set c) s hk h.2
    have hc : c ≤ 10 := by rcases h.1 with e | ⟨hc, -⟩ <;> omega
    show c * 11 ^ (e + q) + cN e q s < 11 ^ (e + q + 1)
    rw [Nat.pow_succ]
    have := Nat.mul_le_mul hc (Nat.le_refl (11 ^ (e + q)))
    omega
theorem grd_lex {e : Nat} (hk : k ≤ 10) : ∀ q set s, vld t n k q set s → wv t n q s = bst t n k q set → cN e q (grd t n k q set) ≤ cN e q s
  | 0, _, s, h, _ => by rw [show s = [] from h]; exact Nat.le_refl _
  | q + 1, set, [], h, _ => h.elim
  | q + 1, set, c :: s, h, hw => by
    have hv := (grd_v (t := t) (n := n) hk (q + 1) set).1
    rw [grd_s] at hv ⊢
    have hp := pck_p (B := bst t n k q) (t := t (n - (q + 1))) (set := set) (tgt := bst t n k (q + 1) set) k 0
    have hb := bsc_v (B := bst t n k q) (t := t (n - (q + 1))) (set := set) k 0 (bst t n k q set)
    have hcc := fun i => bsc_c (B := bst t n k q) (t := t (n - (q + 1))) (set := set) k 0 (bst t n k q set) i
    rw [← bst_s] at hb hcc
    generalize pck (bst t n k q) (t (n - (q + 1))) set (bst t n k (q + 1) set) k 0 = c0 at hp hv ⊢
    have hwl := wv_le q (tak set c) s h.2
    have hw : wv1 t n q c + wv t n q s = bst t n k (q + 1) set := hw
    have hlt := cN_lt (e := e) q (tak set c0) _ hk hv.2
    -- c is a choice that reaches the best
    have opt : wv t n q s = bst t n k q (tak set c) ∧ c0 ≤ c := by
      rcases h.1 with e1 | ⟨hc, hs⟩
      · unfold wv1 at hw
        unfold tak at hwl ⊢
        rw [if_pos e1] at hw hwl ⊢
        refine ⟨by omega, ?_⟩
        rcases hp with ⟨a1, -⟩ | ⟨-, a2, -⟩ <;> omega
      · have hc10 : c ≠ 10 := by omega
        have hcm := hcc c (by omega) (by omega) hs
        unfold wv1 at hw
        unfold tak at hwl ⊢
        rw [if_neg hc10] at hw hwl ⊢
        refine ⟨by omega, ?_⟩
        rcases hp with ⟨a1, a2⟩ | ⟨-, -, -, -, a5⟩
        · exact absurd (by omega) (a2 c (by omega) (by omega) hs)
        · rcases Nat.lt_or_ge c c0 with z | z
          · exact absurd (by omega) (a5 c (by omega) z hs)
          · exact z
    show c0 * 11 ^ (e + q) + cN e q _ ≤ c * 11 ^ (e + q) + cN e q s
    rcases Nat.lt_or_ge c0 c with z | z
    · have := Nat.mul_le_mul (show c0 + 1 ≤ c from z) (Nat.le_refl (11 ^ (e + q)))
      rw [Nat.succ_mul] at this
      omega
    · have ec : c0 = c := by omega
      subst ec
      have := grd_lex (e := e) hk q (tak set c0) s h.2 opt.1
      omega
theorem cN_inj {e : Nat} : ∀ q set set' s s', k ≤ 10 → vld t n k q set s → vld t n k q set' s' → cN e q s = cN e q s' → s = s'
  | 0, _, _, s, s', _, h, h', _ => by rw [show s = [] from h, show s' = [] from h']
  | q + 1, _, _, [], _, _, h, _, _ => h.elim
  | q + 1, _, _, _ :: _, [], _, _, h', _ => h'.elim
  | q + 1, set, set', c :: s, c' :: s', hk, h, h', he => by
    have l1 := cN_lt (e := e) q _ s hk h.2
    have l2 := cN_lt (e := e) q _ s' hk h'.2
    have he : c * 11 ^ (e + q) + cN e q s = c' * 11 ^ (e + q) + cN e q s' := he
    have ec : c = c' := by
      rcases Nat.lt_trichotomy c c' with z | z | z
      · have := Nat.mul_le_mul (show c + 1 ≤ c' from z) (Nat.le_refl (11 ^ (e + q)))
        rw [Nat.succ_mul] at this
        omega
      · exact z
      · have := Nat.mul_le_mul (show c' + 1 ≤ c from z) (Nat.le_refl (11 ^ (e + q)))
        rw [Nat.succ_mul] at this
        omega
    subst ec
    rw [cN_inj (e := e) q _ _ s s' hk h.2 h'.2 (by omega)]
theorem wv_ct (hT : ∀ g c, g < n → c < k → t g c = 100000 ∨ t g c ≤ 999) : ∀ q set s, q ≤ n → k ≤ 10 → vld t n k q set s → wv t n q s + cT t n q s = 1000000 * cC s ∧ cT t n q s ≤ 999 * cC s
  | 0, _, s, _, _, h => by rw [show s = [] from h]; exact ⟨rfl, Nat.le_refl _⟩
  | q + 1, set, [], _, _, h => h.elim
  | q + 1, set, c :: s, hq, hk, h => by
    obtain ⟨i1, i2⟩ := wv_ct hT q (tak set c) s (by omega) hk h.2
    show wv1 t n q c + wv t n q s + ((if c = 10 then 0 else t (n - (q + 1)) c) + cT t n q s) = 1000000 * ((if c = 10 then 0 else 1) + cC s) ∧ (if c = 10 then 0 else t (n - (q + 1)) c) + cT t n q s ≤ 999 * ((if c = 10 then 0 else 1) + cC s)
    unfold wv1
    by_cases e : c = 10
    · rw [if_pos e, if_pos e, if_pos e]
      omega
    · rw [if_neg e, if_neg e, if_neg e]
      rcases h.1 with e1 | ⟨hc, hs⟩
      · exact absurd e1 e
      · have := (hT (n - (q + 1)) c (by omega) hc).resolve_left (fun z => hs (Or.inr z))
        omega
/-- how many clouds below k are taken -/
def pcn (set : Nat) : Nat → Nat
  | 0 => 0
  | c + 1 => pcn set c + (if set.testBit c = true then 1 else 0)
theorem pcn_le (set : Nat) : ∀ k, pcn set k ≤ k
  | 0 => Nat.le_refl _
  | k + 1 => by
    have := pcn_le set k
    show pcn set k + _ ≤ _
    split <;> omega
theorem pcn_or {set c : Nat} (hs : set.testBit c = false) : ∀ k, pcn (set ||| 2 ^ c) k = pcn set k + (if c < k then 1 else 0)
  | 0 => by rw [if_neg (by omega)]; rfl
  | k + 1 => by
    show pcn (set ||| 2 ^ c) k + (if (set ||| 2 ^ c).testBit k = true then 1 else 0) = pcn set k + (if set.testBit k = true then 1 else 0) + _
    rw [pcn_or hs k, Nat.testBit_or, Nat.testBit_two_pow]
    by_cases e : c = k
    · subst e
      rw [hs, if_neg (show ¬ c < c by omega), if_pos (show c < c + 1 by omega)]
      simp
    · have e2 : decide (c = k) = false := decide_eq_false e
      rw [e2, Bool.or_false]
      by_cases z : c < k
      · rw [if_pos z, if_pos (show c < k + 1 by omega)]
        omega
      · rw [if_neg z, if_neg (show ¬ c < k + 1 by omega)]
        omega
theorem cC_pc : ∀ q set s, k ≤ 10 → vld t n k q set s → cC s + pcn set k ≤ k
  | 0, set, s, _, h => by
    rw [show s = [] from h]
    have := pcn_le set k
    show 0 + _ ≤ _
    omega
  | q + 1, set, [], _, h => h.elim
  | q + 1, set, c :: s, hk, h => by
    have ih := cC_pc q (tak set c) s hk h.2
    show (if c = 10 then 0 else 1) + cC s + pcn set k ≤ k
    unfold tak at ih
    by_cases e : c = 10
    · rw [if_pos e] at ih ⊢
      omega
    · rw [if_neg e] at ih ⊢
      rcases h.1 with e1 | ⟨hc, hs⟩
      · exact absurd e1 e
      · have hb : set.testBit c = false := by
          cases hz : set.testBit c
          · rfl
          · exact absurd (Or.inl hz) hs
        rw [pcn_or hb, if_pos hc] at ih
        omega
/-- what a pairing costs -/
def cst (t : Nat → Nat → Nat) (n : Nat) (s : List Nat) : Int := (cT t n n s : Int) * 3138428376721 + (cN (12 - n) n s : Int) - (cC s : Int) * 31384283767210000
theorem grd_uniq (hT : ∀ g c, g < n → c < k → t g c = 100000 ∨ t g c ≤ 999) (hn : n ≤ 12) (hk : k ≤ 10) {s : List Nat} (hs : vld t n k n 0 s) (hc : cst t n s ≤ cst t n (grd t n k n 0)) : s = grd t n k n 0 := by
  obtain ⟨g1, g2⟩ := grd_v (t := t) (n := n) hk n 0
  have hw := wv_le n 0 s hs
  obtain ⟨a1, a2⟩ := wv_ct hT n 0 s (Nat.le_refl _) hk hs
  obtain ⟨b1, b2⟩ := wv_ct hT n 0 _ (Nat.le_refl _) hk g1
  have p1 := cC_pc n 0 s hk hs
  have p2 := cC_pc n 0 _ hk g1
  have n1 := cN_lt (e := 12 - n) n 0 s hk hs
  have n2 := cN_lt (e := 12 - n) n 0 _ hk g1
  rw [show 12 - n + n = 12 by omega, show (11 : Nat) ^ 12 = 3138428376721 from rfl] at n1 n2
  have hlex := grd_lex (e := 12 - n) hk n 0 s hs
  unfold cst at hc
  rw [g2] at b1
  have key : wv t n n s = bst t n k n 0 := by
    generalize cN (12 - n) n s = N1 at *
    generalize cN (12 - n) n (grd t n k n 0) = N2 at *
    generalize cT t n n s = T1 at *
    generalize cT t n n (grd t n k n 0) = T2 at *
    generalize cC s = C1 at *
    generalize cC (grd t n k n 0) = C2 at *
    generalize wv t n n s = W1 at *
    generalize bst t n k n 0 = W2 at *
    clear hlex hs g1 g2 hT
    omega
  have hl := hlex key
  refine cN_inj (e := 12 - n) n 0 0 s _ hk hs g1 ?_
  generalize cN (12 - n) n s = N1 at *
  generalize cN (12 - n) n (grd t n k n 0) = N2 at *
  generalize cT t n n s = T1 at *
  generalize cT t n n (grd t n k n 0) = T2 at *
  generalize cC s = C1 at *
  generalize cC (grd t n k n 0) = C2 at *
  generalize wv t n n s = W1 at *
  generalize bst t n k n 0 = W2 at *
  clear hlex hs g1 g2 hT
  omega
end PCK
