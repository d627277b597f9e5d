/-! The Hungarian way, as numbers: lifts, slack, one step, one chain of moves. -/
theorem php : ∀ (m n : Nat) (f : Nat → Nat), m < n → (∀ x, x < n → f x < m) → ∃ x y, x < y ∧ y < n ∧ f x = f y := by
  intro m
  induction m with
  | zero =>
    intro n f h hf
    have := hf 0 h
    omega
  | succ m ih =>
    intro n f h hf
    obtain ⟨l, rfl⟩ : ∃ l, n = l + 1 := ⟨n - 1, by omega⟩
    by_cases ex : ∃ x, x < l ∧ f x = f l
    · obtain ⟨x, h1, h2⟩ := ex
      exact ⟨x, l, h1, by omega, h2⟩
    · have ne : ∀ x, x < l → f x ≠ f l := fun x hx e => ex ⟨x, hx, e⟩
      obtain ⟨x, y, h1, h2, h3⟩ := ih l (fun x => if f x = m then f l else f x) (by omega) (fun x hx => by
        have a := hf x (by omega)
        have b := hf l (by omega)
        have c := ne x hx
        by_cases e : f x = m
        · show (if f x = m then f l else f x) < m
          rw [if_pos e]
          omega
        · show (if f x = m then f l else f x) < m
          rw [if_neg e]
          omega)
      have h3 : (if f x = m then f l else f x) = (if f y = m then f l else f y) := h3
      refine ⟨x, y, h1, by omega, ?_⟩
      by_cases e1 : f x = m
      · rw [if_pos e1] at h3
        by_cases e2 : f y = m
        · rw [e1, e2]
        · rw [if_neg e2] at h3
          exact absurd h3.symm (ne y h2)
      · rw [if_neg e1] at h3
        by_cases e2 : f y = m
        · rw [if_pos e2] at h3
          exact absurd h3 (ne x (by omega))
        · rw [if_neg e2] at h3
          exact h3
abbrev inS (K s : Nat) : Prop := 1 ≤ s ∧ s ≤ K
/-- guests below i are seated, each once -/
def hMt (K i : Nat) (p : Nat → Nat) : Prop := (∀ s, inS K s → p s < i) ∧ (∀ s t, inS K s → inS K t → p s ≠ 0 → p s = p t → s = t) ∧ ∀ g, 1 ≤ g → g < i → ∃ s, inS K s ∧ p s = g
/-- no move of the guests of G costs less than the lifts; those seated cost just that -/
def hFe (C : Nat → Nat → Option Int) (K : Nat) (G : Nat → Prop) (p : Nat → Nat) (u v : Nat → Int) : Prop := (∀ g s c, G g → inS K s → C g s = some c → u g + v s ≤ c) ∧ (∀ s, inS K s → p s ≠ 0 → ∃ c, C (p s) s = some c ∧ u (p s) + v s = c) ∧ (∀ s, inS K s → v s ≤ 0 ∧ (p s = 0 → v s = 0)) ∧ (∀ g, G g → -31384283767210000 ≤ u g)
def hCo (C : Nat → Nat → Option Int) (n k K : Nat) : Prop := (∀ g s, 1 ≤ g → g ≤ n → k < s → s ≤ K → ∃ c, C g s = some c ∧ 0 ≤ c ∧ c ≤ 3000000000000) ∧ (∀ g s c, C g s = some c → -31384283767210000 ≤ c ∧ c ≤ 3200000000000000)
def hSl (C : Nat → Nat → Option Int) (K : Nat) (R : Nat → Prop) (p : Nat → Nat) (u v : Nat → Int) (w : Nat → Nat) (sl : Nat → Option Int) : Prop := (∀ s, inS K s → ¬ R s → sl s = none → ∀ r, R r → C (p r) s = none) ∧ ∀ s x, inS K s → ¬ R s → sl s = some x → R (w s) ∧ (∃ c, C (p (w s)) s = some c ∧ x = c - u (p (w s)) - v s) ∧ ∀ r c, R r → C (p r) s = some c → x ≤ c - u (p r) - v s
def hLk (C : Nat → Nat → Option Int) (R : Nat → Prop) (p : Nat → Nat) (u v : Nat → Int) (w ord : Nat → Nat) : Prop := ∀ s, R s → s ≠ 0 → R (w s) ∧ ord (w s) < ord s ∧ ∃ c, C (p (w s)) s = some c ∧ u (p (w s)) + v s = c
section HNG
variable {C : Nat → Nat → Option Int} {n k K i cur nn : Nat} {R R' : Nat → Prop} {p w ord : Nat → Nat} {u v u1 v1 : Nat → Int} {sl sl2 : Nat → Option Int} {δ : Int}
/-- a seat without a cloud is free -/
theorem h_free (hK : K = k + n) (hM : hMt K i p) (hi : i ≤ n) (h1 : 1 ≤ i) : ∃ e, k < e ∧ e ≤ K ∧ p e = 0 := by
  apply Classical.byContradiction
  intro hno
  have hp : ∀ e, k < e → e ≤ K → p e ≠ 0 := fun e a b c => hno ⟨e, a, b, c⟩
  obtain ⟨x, y, h2, h3, h4⟩ := php (i - 1) n (fun x => p (k + 1 + x) - 1) (by omega) (fun x hx => by
    have a := hp (k + 1 + x) (by omega) (by omega)
    have b := hM.1 (k + 1 + x) ⟨by omega, by omega⟩
    show p (k + 1 + x) - 1 < i - 1
    omega)
  have h4 : p (k + 1 + x) - 1 = p (k + 1 + y) - 1 := h4
  have a := hp (k + 1 + x) (by omega) (by omega)
  have b := hp (k + 1 + y) (by omega) (by omega)
  have := hM.2.1 (k + 1 + x) (k + 1 + y) ⟨by omega, by omega⟩ ⟨by omega, by omega⟩ a (by omega)
  omega
/-- the lifts are bounded -/
theorem h_u {G : Nat → Prop} {e g : Nat} (hC : hCo C n k K) (hF : hFe C K G p u v) (he1 : k < e) (he2 : e ≤ K) (he : p e = 0) (hg : G g) (g1 : 1 ≤ g) (gn : g ≤ n) : u g ≤ 3000000000000 := by
  obtain ⟨c, ec, -, hc⟩ := hC.1 g e g1 gn he1 he2
  have a := hF.1 g e c hg ⟨by omega, he2⟩ ec
  have b := (hF.2.2.1 e ⟨by omega, he2⟩).2 he
  omega
theorem h_v {G : Nat → Prop} {e s : Nat} (hC : hCo C n k K) (hF : hFe C K G p u v) (he1 : k < e) (he2 : e ≤ K) (he : p e = 0) (hG : ∀ g, 1 ≤ g → g < i → G g) (hM : hMt K i p) (hi : i ≤ n + 1) (hs : inS K s) : -31384283767210000 - 3000000000000 ≤ v s ∧ v s ≤ 0 := by
  obtain ⟨a1, a2⟩ := hF.2.2.1 s hs
  by_cases hp : p s = 0
  · have := a2 hp
    omega
  · obtain ⟨c, ec, hc⟩ := hF.2.1 s hs hp
    have b := hM.1 s hs
    have q := h_u hC hF he1 he2 he (hG (p s) (by omega) b) (by omega) (by omega)
    have := hC.2 _ _ _ ec
    omega
/-- what holds as a step begins -/
def hHd (C : Nat → Nat → Option Int) (n k K i : Nat) (R R' : Nat → Prop) (p w ord : Nat → Nat) (u v : Nat → Int) (cur : Nat) : Prop := p 0 = i ∧ hMt K i p ∧ (∀ s, R' s ↔ (R s ∨ s = cur)) ∧ R' 0 ∧ (R 0 ∨ ((∀ s, ¬ R s) ∧ cur = 0)) ∧ (∀ s, R' s → s = 0 ∨ (inS K s ∧ p s ≠ 0)) ∧ hFe C K (fun g => 1 ≤ g ∧ (g < i ∨ (g = i ∧ R 0))) p u v ∧ (¬ R 0 → u i = 0) ∧ hLk C R' p u v w ord
theorem h_inj (h : hHd C n k K i R R' p w ord u v cur) {r r' : Nat} (hr : R' r) (hr' : R' r') (e : p r = p r') : r = r' := by
  obtain ⟨p0, hM, -, -, -, hRp, -⟩ := h
  rcases hRp r hr with a | ⟨a, b⟩
  · rcases hRp r' hr' with a' | ⟨a', b'⟩
    · omega
    · have := hM.1 r' a'
      rw [a, p0] at e
      omega
  · rcases hRp r' hr' with a' | ⟨a', b'⟩
    · have := hM.1 r a
      rw [a', p0] at e
      omega
    · exact hM.2.1 r r' a a' b e
theorem h_pr (h : hHd C n k K i R R' p w ord u v cur) (h1 : 1 ≤ i) {r : Nat} (hr : R' r) : 1 ≤ p r ∧ p r ≤ i := by
  obtain ⟨p0, hM, -, -, -, hRp, -⟩ := h
  rcases hRp r hr with a | ⟨a, b⟩
  · rw [a, p0]
    omega
  · have := hM.1 r a
    omega
/-- a seat that isn't reached has a slack -/
theorem h_some (hK : K = k + n) (hC : hCo C n k K) (hi : i ≤ n) (h1 : 1 ≤ i) (h : hHd C n k K i R R' p w ord u v cur) (hS : hSl C K R' p u v w sl) : ∃ e x, k < e ∧ e ≤ K ∧ p e = 0 ∧ ¬ R' e ∧ sl e = some x := by
  obtain ⟨e, e1, e2, e3⟩ := h_free hK h.2.1 hi h1
  have hR : ¬ R' e := fun z => by
    rcases h.2.2.2.2.2.1 e z with a | ⟨-, b⟩
    · omega
    · exact b e3
  cases hx : sl e with
  | some x => exact ⟨e, x, e1, e2, e3, hR, hx⟩
  | none =>
    have a := hS.1 e ⟨by omega, e2⟩ hR hx 0 h.2.2.2.1
    obtain ⟨b1, b2⟩ := h_pr h h1 h.2.2.2.1
    obtain ⟨c, ec, -⟩ := hC.1 (p 0) e b1 (by omega) e1 e2
    rw [ec] at a
    cases a
theorem lt_or {a b : Nat} {q : Prop} (h : a ≤ b) (hq : q) : a < b ∨ (a = b ∧ q) := by
  by_cases e : a < b
  · exact Or.inl e
  · exact Or.inr ⟨by omega, hq⟩
/-- lifts by δ -/
def hLf (K : Nat) (R' : Nat → Prop) (p : Nat → Nat) (u v u1 v1 : Nat → Int) (sl sl2 : Nat → Option Int) (δ : Int) : Prop := (∀ r, R' r → u1 (p r) = u (p r) + δ) ∧ (∀ g, (∀ r, R' r → p r ≠ g) → u1 g = u g) ∧ (∀ s, inS K s → R' s → v1 s = v s - δ) ∧ (∀ s, inS K s → ¬ R' s → v1 s = v s) ∧ (∀ s, inS K s → ¬ R' s → sl2 s = (sl s).map (fun x => x - δ))
theorem h_step (hC : hCo C n k K) (hi : i ≤ n) (h1 : 1 ≤ i) (h : hHd C n k K i R R' p w ord u v cur) (hS : hSl C K R' p u v w sl) (hn : inS K nn) (hnR : ¬ R' nn) (hx : sl nn = some δ) (hmin : ∀ s x, inS K s → ¬ R' s → sl s = some x → δ ≤ x) (hL : hLf K R' p u v u1 v1 sl sl2 δ) :
    hFe C K (fun g => 1 ≤ g ∧ g ≤ i) p u1 v1 ∧ hSl C K R' p u1 v1 w sl2 ∧ hLk C R' p u1 v1 w ord ∧ R' (w nn) ∧ ∃ c, C (p (w nn)) nn = some c ∧ u1 (p (w nn)) + v1 nn = c := by
  have hh := h
  obtain ⟨p0, hM, hR', hR0', hR0, hRp, hF, hui, hLk0⟩ := h
  obtain ⟨l1, l2, l3, l4, l5⟩ := hL
  obtain ⟨n1, ⟨cn, n2, n3⟩, n4⟩ := hS.2 nn δ hn hnR hx
  have tree : ∀ g, (∃ r, R' r ∧ p r = g) ∨ (∀ r, R' r → p r ≠ g) := fun g => by
    by_cases e : ∃ r, R' r ∧ p r = g
    · exact Or.inl e
    · exact Or.inr (fun r hr eq => e ⟨r, hr, eq⟩)
  have one : ¬ R 0 → ∀ s, R' s → s = 0 := fun hz s hs => by
    rcases hR0 with a | ⟨a, b⟩
    · exact absurd a hz
    · rcases (hR' s).mp hs with c | c
      · exact absurd c (a s)
      · omega
  have hδ : R 0 → 0 ≤ δ := fun hz => by
    obtain ⟨a, b⟩ := h_pr hh h1 n1
    have := hF.1 (p (w nn)) nn cn ⟨a, lt_or b hz⟩ hn n2
    omega
  have hOld : ∀ g, 1 ≤ g → g ≤ i → R 0 → (1 ≤ g ∧ (g < i ∨ (g = i ∧ R 0))) := fun g a b c => ⟨a, lt_or b c⟩
  have npr : ∀ s, inS K s → ¬ R' s → p s ≠ 0 → ∀ r, R' r → p r ≠ p s := fun s hs hsR hps r hr e => by
    rcases hRp r hr with a | ⟨a, b⟩
    · have := hM.1 s hs
      rw [a, p0] at e
      omega
    · have := hM.2.1 r s a hs b e
      subst this
      exact hsR hr
  refine ⟨⟨?_, ?_, ?_, ?_⟩, ⟨?_, ?_⟩, ?_, n1, cn, n2, ?_⟩
  · intro g s c hg hs hc
    rcases tree g with ⟨r, hr, er⟩ | hnt
    · have e1 := l1 r hr
      rw [er] at e1
      by_cases hsR : R' s
      · have hz : R 0 := Classical.byContradiction fun z => by
          have := one z s hsR
          have := hs.1
          omega
        have := hF.1 g s c (hOld g hg.1 hg.2 hz) hs hc
        have := l3 s hs hsR
        omega
      · have e2 := l4 s hs hsR
        cases hsl : sl s with
        | none =>
          have := hS.1 s hs hsR hsl r hr
          rw [er, hc] at this
          cases this
        | some x =>
          have a := hmin s x hs hsR hsl
          have b := (hS.2 s x hs hsR hsl).2.2 r c hr (by rw [er]; exact hc)
          rw [er] at b
          omega
    · have e1 := l2 g hnt
      have hgi : g < i := by
        have := hnt 0 hR0'
        have := hg.2
        omega
      have f := hF.1 g s c ⟨hg.1, Or.inl hgi⟩ hs hc
      by_cases hsR : R' s
      · have hz : R 0 := Classical.byContradiction fun z => by
          have := one z s hsR
          have := hs.1
          omega
        have := hδ hz
        have := l3 s hs hsR
        omega
      · have := l4 s hs hsR
        omega
  · intro s hs hps
    obtain ⟨c, ec, e⟩ := hF.2.1 s hs hps
    refine ⟨c, ec, ?_⟩
    by_cases hsR : R' s
    · have := l1 s hsR
      have := l3 s hs hsR
      omega
    · have := l2 (p s) (npr s hs hsR hps)
      have := l4 s hs hsR
      omega
  · intro s hs
    obtain ⟨a, b⟩ := hF.2.2.1 s hs
    by_cases hsR : R' s
    · have hz : R 0 := Classical.byContradiction fun z => by
        have := one z s hsR
        have := hs.1
        omega
      have := hδ hz
      have := l3 s hs hsR
      refine ⟨by omega, fun z => ?_⟩
      rcases hRp s hsR with q | ⟨-, q⟩
      · have := hs.1
        omega
      · exact absurd z q
    · rw [l4 s hs hsR]
      exact ⟨a, b⟩
  · intro g hg
    rcases tree g with ⟨r, hr, er⟩ | hnt
    · have e1 := l1 r hr
      rw [er] at e1
      by_cases hz : R 0
      · have := hF.2.2.2 g (hOld g hg.1 hg.2 hz)
        have := hδ hz
        omega
      · have r0 := one hz r hr
        have w0 := one hz (w nn) n1
        rw [r0, p0] at er
        rw [w0, p0, hui hz] at n3
        rw [← er, hui hz] at e1
        have a := (hF.2.2.1 nn hn).1
        have b := (hC.2 _ _ _ n2).1
        rw [er] at e1
        omega
    · have e1 := l2 g hnt
      have hgi : g < i := by
        have := hnt 0 hR0'
        have := hg.2
        omega
      have := hF.2.2.2 g ⟨hg.1, Or.inl hgi⟩
      omega
  · intro s hs hsR hsl r hr
    rw [l5 s hs hsR] at hsl
    cases hsl2 : sl s with
    | none => exact hS.1 s hs hsR hsl2 r hr
    | some x => rw [hsl2] at hsl; cases hsl
  · intro s x hs hsR hsl
    rw [l5 s hs hsR] at hsl
    cases hsl2 : sl s with
    | none => rw [hsl2] at hsl; cases hsl
    | some y =>
      rw [hsl2] at hsl
      have hsl : some (y - δ) = some x := hsl
      obtain ⟨b1, ⟨c, b2, b3⟩, b4⟩ := hS.2 s y hs hsR hsl2
      have ey : x = y - δ := (Option.some.inj hsl).symm
      have e4 := l4 s hs hsR
      refine ⟨b1, ⟨c, b2, ?_⟩, fun r c' hr hc' => ?_⟩
      · have := l1 _ b1
        omega
      · have := l1 r hr
        have := b4 r c' hr hc'
        omega
  · intro s hs hs0
    obtain ⟨a1, a2, c, a3, a4⟩ := hLk0 s hs hs0
    refine ⟨a1, a2, c, a3, ?_⟩
    have hin : inS K s := by
      rcases hRp s hs with q | ⟨q, -⟩
      · exact absurd q hs0
      · exact q
    have := l1 _ a1
    have := l3 s hin hs
    omega
  · have := l1 _ n1
    have := l4 nn hn hnR
    omega
/-! the chain of moves -/
def hAu (C : Nat → Nat → Option Int) (K i : Nat) (R' : Nat → Prop) (p q : Nat → Nat) (u v : Nat → Int) (ord : Nat → Nat) (h : Nat) : Prop := (∀ s, s ≤ K → s ≠ h → q s ≤ i) ∧ (∀ s t, s ≤ K → t ≤ K → s ≠ h → t ≠ h → q s ≠ 0 → q s = q t → s = t) ∧ (∀ g, 1 ≤ g → g ≤ i → ∃ s, s ≤ K ∧ s ≠ h ∧ q s = g) ∧ (∀ s, inS K s → s ≠ h → q s ≠ 0 → ∃ c, C (q s) s = some c ∧ u (q s) + v s = c) ∧ (∀ s, R' s → ord s < ord h → q s = p s) ∧ (∀ s, inS K s → s ≠ h → q s = 0 → v s = 0)
theorem h_aug {q : Nat → Nat} {hh : Nat} (hR : ∀ s, R' s → s ≤ K ∧ p s ≠ 0) (hA : hAu C K i R' p q u v ord hh) (hw : R' (w hh)) (ho : ord (w hh) < ord hh) (ht : ∃ c, C (p (w hh)) hh = some c ∧ u (p (w hh)) + v hh = c) (hK : hh ≤ K) : hAu C K i R' p (fun s => if s = hh then q (w hh) else q s) u v ord (w hh) := by
  obtain ⟨a1, a2, a3, a4, a5, a6⟩ := hA
  have eq := a5 (w hh) hw ho
  obtain ⟨wK, wp⟩ := hR (w hh) hw
  have ne : w hh ≠ hh := fun z => by rw [z] at ho; omega
  refine ⟨fun s hs hn => ?_, fun s t hs ht' hsn htn hz he => ?_, fun g g1 g2 => ?_, fun s hs hsn hz => ?_, fun s hs hlt => ?_, fun s hs hsn hz => ?_⟩
  · show (if s = hh then q (w hh) else q s) ≤ i
    by_cases e : s = hh
    · rw [if_pos e]; exact a1 _ wK ne
    · rw [if_neg e]; exact a1 s hs e
  · have hz : (if s = hh then q (w hh) else q s) ≠ 0 := hz
    have he : (if s = hh then q (w hh) else q s) = (if t = hh then q (w hh) else q t) := he
    by_cases e : s = hh
    · rw [if_pos e] at he hz
      by_cases e2 : t = hh
      · omega
      · rw [if_neg e2] at he
        exact absurd (a2 (w hh) t wK ht' ne e2 hz he).symm htn
    · rw [if_neg e] at he hz
      by_cases e2 : t = hh
      · rw [if_pos e2] at he
        exact absurd (a2 s (w hh) hs wK e ne hz he) hsn
      · rw [if_neg e2] at he
        exact a2 s t hs ht' e e2 hz he
  · obtain ⟨s, b1, b2, b3⟩ := a3 g g1 g2
    by_cases e : s = w hh
    · refine ⟨hh, hK, fun z => ne z.symm, ?_⟩
      show (if hh = hh then q (w hh) else q hh) = g
      rw [if_pos rfl, ← e]
      exact b3
    · refine ⟨s, b1, e, ?_⟩
      show (if s = hh then q (w hh) else q s) = g
      rw [if_neg b2]
      exact b3
  · have hz : (if s = hh then q (w hh) else q s) ≠ 0 := hz
    show ∃ c, C (if s = hh then q (w hh) else q s) s = some c ∧ u (if s = hh then q (w hh) else q s) + v s = c
    by_cases e : s = hh
    · rw [if_pos e, eq, e]
      exact ht
    · rw [if_neg e] at hz ⊢
      exact a4 s hs e hz
  · show (if s = hh then q (w hh) else q s) = p s
    rw [if_neg (fun z => by rw [z] at hlt; omega)]
    exact a5 s hs (by omega)
  · have hz : (if s = hh then q (w hh) else q s) = 0 := hz
    by_cases e : s = hh
    · rw [if_pos e, eq] at hz
      exact absurd hz wp
    · rw [if_neg e] at hz
      exact a6 s hs e hz
theorem h_end {q : Nat → Nat} (hA : hAu C K i R' p q u v ord 0) (hF : hFe C K (fun g => 1 ≤ g ∧ g ≤ i) p u v) : hMt K (i + 1) q ∧ hFe C K (fun g => 1 ≤ g ∧ (g < i + 1)) q u v := by
  obtain ⟨a1, a2, a3, a4, a5, a6⟩ := hA
  refine ⟨⟨fun s hs => ?_, fun s t hs ht hz he => ?_, fun g g1 g2 => ?_⟩, fun g s c hg hs hc => ?_, fun s hs hz => ?_, fun s hs => ⟨(hF.2.2.1 s hs).1, fun hz => a6 s hs (by have := hs.1; omega) hz⟩, fun g hg => hF.2.2.2 g ⟨hg.1, by omega⟩⟩
  · have := a1 s hs.2 (by have := hs.1; omega)
    omega
  · exact a2 s t hs.2 ht.2 (by have := hs.1; omega) (by have := ht.1; omega) hz he
  · obtain ⟨s, b1, b2, b3⟩ := a3 g g1 (by omega)
    exact ⟨s, ⟨by omega, b1⟩, b3⟩
  · exact hF.1 g s c ⟨hg.1, by omega⟩ hs hc
  · exact a4 s hs (by have := hs.1; omega) hz
end HNG
