/-! Guests that find clouds by chains of moves: one search. -/
abbrev tB (t c : Nat) : Prop := t.testBit c = true
def kJ (own : Nat → Nat) (t k : Nat) : Prop := ∀ c c', c < k → c' < k → ¬ tB t c → ¬ tB t c' → own c = own c' → own c ≠ 0 → c = c'
def kA (own : Nat → Nat) (n k : Nat) (dr : Nat → Nat) : Prop := ∀ c, c < k → own c ≤ n ∧ ∀ h, own c = h + 1 → tB (dr h) c
def kN (own : Nat → Nat) (t k g : Nat) : Prop := ∀ c, c < k → ¬ tB t c → own c ≠ g + 1
def kH (own : Nat → Nat) (t k h : Nat) : Prop := ∃ c, c < k ∧ ¬ tB t c ∧ own c = h + 1
/-- the search found a cloud -/
def kS (own own' : Nat → Nat) (t k g : Nat) : Prop := (∀ c, c < k → tB t c → own' c = own c) ∧ (∀ h, kH own' t k h ↔ (h = g ∨ kH own t k h)) ∧ kJ own' t k
/-- it found none: t' was tried -/
def kF (own : Nat → Nat) (t t' k : Nat) (dr : Nat → Nat) (g : Nat) : Prop := (∀ c, c < k → tB t c → tB t' c) ∧ (∀ c, c < k → tB t' c → ¬ tB t c → own c ≠ 0) ∧ (∀ c, c < k → tB (dr g) c → tB t' c) ∧ (∀ c c' h, c < k → c' < k → tB t' c → ¬ tB t c → own c = h + 1 → tB (dr h) c' → tB t' c')
/-- the search goes on with cloud i -/
def kL (own : Nat → Nat) (t t' k : Nat) (dr : Nat → Nat) (g i : Nat) : Prop := (∀ c, c < k → tB t c → tB t' c) ∧ (∀ c, c < k → tB t' c → ¬ tB t c → own c ≠ 0) ∧ (∀ c, c < i → tB (dr g) c → tB t' c) ∧ (∀ c c' h, c < k → c' < k → tB t' c → ¬ tB t c → own c = h + 1 → tB (dr h) c' → tB t' c')
abbrev uN (f : Nat → Nat) (c v : Nat) : Nat → Nat := fun i => if i = c then v else f i
theorem uN_e (f : Nat → Nat) (c v : Nat) : uN f c v c = v := if_pos rfl
theorem uN_n {f : Nat → Nat} {c v i : Nat} (h : i ≠ c) : uN f c v i = f i := if_neg h
section KU
variable {own own' own1 dr : Nat → Nat} {t t' t1 n k g h i c : Nat}
theorem kL_0 : kL own t t k dr g 0 := ⟨fun _ _ q => q, fun _ _ a b => absurd a b, fun _ q => by omega, fun _ _ _ _ _ a b => absurd a b⟩
theorem kL_k (hL : kL own t t' k dr g k) : kF own t t' k dr g := hL
theorem kL_skip (hL : kL own t t' k dr g i) (hs : tB (dr g) i → tB t' i) : kL own t t' k dr g (i + 1) := by
  obtain ⟨a, b, c, e⟩ := hL
  refine ⟨a, b, fun j hj q => ?_, e⟩
  by_cases z : j = i
  · rw [z] at q ⊢
    exact hs q
  · exact c j (by omega) q
theorem kL_fail (hL : kL own t t' k dr g i) (hi : i < k) (ho : own i = h + 1) (hF : kF own (t' ||| 2 ^ i) t1 k dr h) : kL own t t1 k dr g (i + 1) := by
  obtain ⟨a1, a2, a3, a4⟩ := hL
  obtain ⟨b1, b2, b3, b4⟩ := hF
  have s : ∀ c, c < k → tB t' c → tB t1 c := fun c hc q => b1 c hc (tb_or.mpr (Or.inl q))
  have si : tB t1 i := b1 i hi (tb_or.mpr (Or.inr rfl))
  refine ⟨fun c hc q => s c hc (a1 c hc q), fun c hc q1 q2 => ?_, fun j hj q => ?_, fun c c' y hc hc' q1 q2 q3 q4 => ?_⟩
  · by_cases z : tB (t' ||| 2 ^ i) c
    · rcases tb_or.mp z with z | z
      · exact a2 c hc z q2
      · rw [← z, ho]
        omega
    · exact b2 c hc q1 z
  · by_cases z : j = i
    · rw [z]
      exact si
    · exact s j (by omega) (a3 j (by omega) q)
  · by_cases z : tB (t' ||| 2 ^ i) c
    · rcases tb_or.mp z with z | z
      · exact s c' hc' (a4 c c' y hc hc' z q2 q3 q4)
      · rw [← z, ho] at q3
        have e : h = y := by omega
        rw [← e] at q4
        exact b3 c' hc' q4
    · exact b4 c c' y hc hc' q1 z q3 q4
theorem kS_free (hJ : kJ own t k) (hN : kN own t k g) (hc : c < k) (ht : ¬ tB t c) (ho : own c = 0) : kS own (uN own c (g + 1)) t k g := by
  refine ⟨fun j hj q => uN_n (fun e => ht (e ▸ q)), fun y => ⟨?_, ?_⟩, fun i j hi hj qi qj e z => ?_⟩
  · rintro ⟨j, hj, q, e⟩
    by_cases z : j = c
    · rw [z, uN_e] at e
      exact Or.inl (by omega)
    · rw [uN_n z] at e
      exact Or.inr ⟨j, hj, q, e⟩
  · rintro (e | ⟨j, hj, q, e⟩)
    · exact ⟨c, hc, ht, by rw [uN_e, e]⟩
    · refine ⟨j, hj, q, ?_⟩
      rw [uN_n (fun z => by rw [z, ho] at e; omega), e]
  · by_cases zi : i = c
    · by_cases zj : j = c
      · rw [zi, zj]
      · rw [zi, uN_e, uN_n zj] at e
        exact absurd e.symm (hN j hj qj)
    · rw [uN_n zi] at e z
      by_cases zj : j = c
      · rw [zj, uN_e] at e
        exact absurd e (hN i hi qi)
      · rw [uN_n zj] at e
        exact hJ i j hi hj qi qj e z
theorem kJ_sub (hJ : kJ own t k) (hs : ∀ c, c < k → tB t c → tB t' c) : kJ own t' k := fun c c' hc hc' q q' => hJ c c' hc hc' (fun z => q (hs c hc z)) (fun z => q' (hs c' hc' z))
theorem kN_sub (hN : kN own t k g) (hs : ∀ c, c < k → tB t c → tB t' c) : kN own t' k g := fun c hc q => hN c hc (fun z => q (hs c hc z))
theorem kN_own (hJ : kJ own t k) (hc : c < k) (ht : ¬ tB t c) (ho : own c = h + 1) : kN own (t ||| 2 ^ c) k h := by
  intro j hj q e
  have q2 : ¬ tB t j ∧ c ≠ j := ⟨fun z => q (tb_or.mpr (Or.inl z)), fun z => q (tb_or.mpr (Or.inr z))⟩
  exact q2.2 (hJ c j hc hj ht q2.1 (by omega) (by omega))
theorem kS_chain (hJ : kJ own t k) (hN : kN own t k g) (hc : c < k) (ht : ¬ tB t c) (ho : own c = h + 1) (hS : kS own own1 (t ||| 2 ^ c) k h) : kS own (uN own1 c (g + 1)) t k g := by
  obtain ⟨s1, s2, s3⟩ := hS
  have nb : ∀ j, ¬ tB t j → j ≠ c → ¬ tB (t ||| 2 ^ c) j := fun j q z y => by
    rcases tb_or.mp y with y | y
    · exact q y
    · exact z y.symm
  have bn : ∀ j, ¬ tB (t ||| 2 ^ c) j → ¬ tB t j ∧ j ≠ c := fun j q => ⟨fun z => q (tb_or.mpr (Or.inl z)), fun z => q (tb_or.mpr (Or.inr z.symm))⟩
  refine ⟨fun j hj q => ?_, fun y => ⟨?_, ?_⟩, fun i j hi hj qi qj e z => ?_⟩
  · rw [uN_n (fun e : j = c => ht (e ▸ q))]
    exact s1 j hj (tb_or.mpr (Or.inl q))
  · rintro ⟨j, hj, q, e⟩
    by_cases z : j = c
    · rw [z, uN_e] at e
      exact Or.inl (by omega)
    · rw [uN_n z] at e
      rcases (s2 y).mp ⟨j, hj, nb j q z, e⟩ with e2 | ⟨j2, hj2, q2, e2⟩
      · exact Or.inr ⟨c, hc, ht, by rw [ho, e2]⟩
      · exact Or.inr ⟨j2, hj2, (bn j2 q2).1, e2⟩
  · rintro (e | ⟨j, hj, q, e⟩)
    · exact ⟨c, hc, ht, by rw [uN_e, e]⟩
    · have w : kH own1 (t ||| 2 ^ c) k y := by
        by_cases z : j = c
        · rw [z, ho] at e
          exact (s2 y).mpr (Or.inl (by omega))
        · exact (s2 y).mpr (Or.inr ⟨j, hj, nb j q z, e⟩)
      obtain ⟨j2, hj2, q2, e2⟩ := w
      exact ⟨j2, hj2, (bn j2 q2).1, by rw [uN_n (bn j2 q2).2]; exact e2⟩
  · have key : ∀ j, j < k → ¬ tB t j → j ≠ c → own1 j ≠ g + 1 := fun j hj q z e => by
      rcases (s2 g).mp ⟨j, hj, nb j q z, e⟩ with e2 | ⟨j2, hj2, q2, e2⟩
      · exact hN c hc ht (by rw [ho, e2])
      · exact hN j2 hj2 (bn j2 q2).1 e2
    by_cases zi : i = c
    · by_cases zj : j = c
      · rw [zi, zj]
      · rw [zi, uN_e, uN_n zj] at e
        exact absurd e.symm (key j hj qj zj)
    · rw [uN_n zi] at e z
      by_cases zj : j = c
      · rw [zj, uN_e] at e
        exact absurd e (key i hi qi zi)
      · rw [uN_n zj] at e
        exact s3 i j hi hj (nb i qi zi) (nb j qj zj) e z
theorem kS_weak (hJ : kJ own t k) (hN : kN own t k g) (hs : ∀ c, c < k → tB t c → tB t' c) (hS : kS own own' t' k g) : kS own own' t k g := by
  obtain ⟨s1, s2, s3⟩ := hS
  have mix : ∀ i j, i < k → j < k → ¬ tB t' i → tB t' j → ¬ tB t j → own' i = own' j → own' i ≠ 0 → False := fun i j hi hj qi qj qj2 e z => by
    rw [s1 j hj qj] at e
    obtain ⟨y, hy⟩ : ∃ y, own' i = y + 1 := ⟨own' i - 1, by omega⟩
    rcases (s2 y).mp ⟨i, hi, qi, hy⟩ with e2 | ⟨j2, hj2, q2, e2⟩
    · exact hN j hj qj2 (by omega)
    · have := hJ j2 j hj2 hj (fun w => q2 (hs j2 hj2 w)) qj2 (by omega) (by omega)
      rw [this] at q2
      exact q2 qj
  refine ⟨fun c hc q => s1 c hc (hs c hc q), fun y => ⟨?_, ?_⟩, fun i j hi hj qi qj e z => ?_⟩
  · rintro ⟨j, hj, q, e⟩
    by_cases z : tB t' j
    · rw [s1 j hj z] at e
      exact Or.inr ⟨j, hj, q, e⟩
    · rcases (s2 y).mp ⟨j, hj, z, e⟩ with e2 | ⟨j2, hj2, q2, e2⟩
      · exact Or.inl e2
      · exact Or.inr ⟨j2, hj2, fun w => q2 (hs j2 hj2 w), e2⟩
  · rintro (e | ⟨j, hj, q, e⟩)
    · obtain ⟨j2, hj2, q2, e2⟩ := (s2 y).mpr (Or.inl e)
      exact ⟨j2, hj2, fun w => q2 (hs j2 hj2 w), e2⟩
    · by_cases z : tB t' j
      · exact ⟨j, hj, q, by rw [s1 j hj z]; exact e⟩
      · obtain ⟨j2, hj2, q2, e2⟩ := (s2 y).mpr (Or.inr ⟨j, hj, z, e⟩)
        exact ⟨j2, hj2, fun w => q2 (hs j2 hj2 w), e2⟩
  · by_cases zi : tB t' i
    · by_cases zj : tB t' j
      · rw [s1 i hi zi, s1 j hj zj] at e
        rw [s1 i hi zi] at z
        exact hJ i j hi hj qi qj e z
      · exact absurd (mix j i hj hi zj zi qi e.symm (by omega)) id
    · by_cases zj : tB t' j
      · exact absurd (mix i j hi hj zi zj qj e z) id
      · exact s3 i j hi hj zi zj e z
theorem kA_upd (hA : kA own n k dr) (hg : g < n) (hd : tB (dr g) c) : kA (uN own c (g + 1)) n k dr := by
  intro j hj
  by_cases z : j = c
  · rw [z, uN_e]
    exact ⟨by omega, fun y e => by rw [show y = g by omega]; exact hd⟩
  · rw [uN_n z]
    exact hA j hj
theorem cb_le (x : Nat) : ∀ k, cb x k ≤ k
  | 0 => Nat.le_refl _
  | k + 1 => by
    have := cb_le x k
    show cb x k + (if x.testBit k = true then 1 else 0) ≤ k + 1
    split <;> omega
theorem cb_lt {x : Nat} : ∀ k, c < k → ¬ tB x c → cb x k < k
  | 0, h, _ => by omega
  | k + 1, h, q => by
    show cb x k + (if x.testBit k = true then 1 else 0) < k + 1
    by_cases z : c = k
    · rw [if_neg (z ▸ q)]
      have := cb_le x k
      omega
    · have := cb_lt k (show c < k by omega) q
      split <;> omega
theorem cb_out {x : Nat} : ∀ k, k ≤ c → cb (x ||| 2 ^ c) k = cb x k
  | 0, _ => rfl
  | k + 1, h => by
    show cb (x ||| 2 ^ c) k + (if (x ||| 2 ^ c).testBit k = true then 1 else 0) = cb x k + (if x.testBit k = true then 1 else 0)
    rw [cb_out k (by omega)]
    by_cases z : x.testBit k = true
    · rw [if_pos z, if_pos (tb_or.mpr (Or.inl z))]
    · rw [if_neg z, if_neg (fun y => by rcases tb_or.mp y with y | y; exact z y; omega)]
theorem cb_or {x : Nat} : ∀ k, c < k → ¬ tB x c → cb (x ||| 2 ^ c) k = cb x k + 1
  | 0, h, _ => by omega
  | k + 1, h, q => by
    show cb (x ||| 2 ^ c) k + (if (x ||| 2 ^ c).testBit k = true then 1 else 0) = cb x k + (if x.testBit k = true then 1 else 0) + 1
    by_cases z : c = k
    · rw [cb_out k (by omega), if_pos (tb_or.mpr (Or.inr z)), if_neg (z ▸ q)]
    · rw [cb_or k (by omega) q]
      by_cases y : x.testBit k = true
      · rw [if_pos y, if_pos (tb_or.mpr (Or.inl y))]
      · rw [if_neg y, if_neg (fun w => by rcases tb_or.mp w with w | w; exact y w; exact z w)]
theorem cb_mono {x y : Nat} : ∀ k, (∀ c, c < k → tB x c → tB y c) → cb x k ≤ cb y k
  | 0, _ => Nat.le_refl _
  | k + 1, h => by
    have i := cb_mono k (fun c hc q => h c (by omega) q)
    show cb x k + (if x.testBit k = true then 1 else 0) ≤ cb y k + (if y.testBit k = true then 1 else 0)
    by_cases z : x.testBit k = true
    · rw [if_pos z, if_pos (h k (by omega) z)]
      omega
    · rw [if_neg z]
      omega
end KU
