/-! The words of the language, letter by letter, and as numbers. -/
def gs_wo : List Nat := [0, 6, 11, 16, 21, 27, 32, 35, 40, 46, 53, 59, 65, 70, 76, 82, 87, 92, 97, 103, 108, 114, 120, 125, 131, 137, 142, 147, 150, 154, 158, 165]
def gs_wl : List Nat := [5, 4, 4, 4, 5, 4, 2, 4, 5, 6, 5, 5, 4, 5, 5, 4, 4, 4, 5, 4, 5, 5, 4, 5, 5, 4, 4, 2, 3, 3, 6, 5]
abbrev wof (k : Nat) : Nat := gs_wo.getD k 0
abbrev wln (k : Nat) : Nat := gs_wl.getD k 0
def dct (j : Nat) : Nat := (gs_words.getD j 0).toInt.toNat
theorem lng_pk : ∀ k, k < 32 → lng k = pkV dct (wof k) (wln k) * 32 ^ (6 - wln k) := by decide +kernel
theorem wln_b : ∀ k, k < 32 → 1 ≤ wln k ∧ wln k ≤ 6 ∧ wof k + wln k < 171 := by decide +kernel
theorem dct_s : ∀ k, k < 32 → ∀ j, j < 6 → j < wln k → isSm (dct (wof k + j)) := by decide +kernel
theorem dct_e : ∀ k, k < 32 → dct (wof k + wln k) = 32 := by decide +kernel
theorem wof_s : ∀ k, k < 31 → wof (k + 1) = wof k + (wln k + 1) := by decide +kernel
theorem dct_n : ∀ j, j < 171 → gs_words.getD j 0 = Int32.ofNat (dct j) ∧ dct j < 128 := by decide +kernel
theorem pkV_inj {f g : Nat → Nat} {a b : Nat} : ∀ c, (∀ j, j < c → isSm (f (a + j))) → (∀ j, j < c → isSm (g (b + j))) → pkV f a c = pkV g b c → ∀ j, j < c → f (a + j) = g (b + j)
  | 0, _, _, _, j, hj => by omega
  | c + 1, hf, hg, e, j, hj => by
    rw [pkV_s, pkV_s] at e
    have h1 := hf c (by omega)
    have h2 := hg c (by omega)
    have e1 : f (a + c) = g (b + c) := by omega
    have e2 : pkV f a c = pkV g b c := by omega
    by_cases z : j = c
    · rw [z]
      exact e1
    · exact pkV_inj c (fun j hj => hf j (by omega)) (fun j hj => hg j (by omega)) e2 j (by omega)
theorem pkV_congr {f g : Nat → Nat} {a b : Nat} : ∀ c, (∀ j, j < c → f (a + j) = g (b + j)) → pkV f a c = pkV g b c
  | 0, _ => rfl
  | c + 1, h => by
    rw [pkV_s, pkV_s, pkV_congr c (fun j hj => h j (by omega)), h c (by omega)]
theorem pk_len {f g : Nat → Nat} {a b c1 c2 : Nat} (h : c1 < c2) (h2 : c2 ≤ 6) (hg : ∀ j, j < c2 → isSm (g (b + j))) : pkV f a c1 * 32 ^ (6 - c1) ≠ pkV g b c2 * 32 ^ (6 - c2) := by
  intro e
  have ep : 32 ^ (6 - c1) = 32 ^ (c2 - c1 - 1) * 32 * 32 ^ (6 - c2) := by
    rw [← Nat.pow_succ, ← Nat.pow_add, show (c2 - c1 - 1).succ + (6 - c2) = 6 - c1 by omega]
  rw [ep, ← Nat.mul_assoc, ← Nat.mul_assoc] at e
  have e2 := Nat.eq_of_mul_eq_mul_right (Nat.pow_pos (by decide)) e
  obtain ⟨c, hc⟩ : ∃ c, c2 = c + 1 := ⟨c2 - 1, by omega⟩
  subst hc
  have s := hg c (by omega)
  rw [pkV_s] at e2
  generalize pkV f a c1 * 32 ^ (c + 1 - c1 - 1) = A at e2
  omega
/-- word k of the language is the text's word -/
def isWd (by_ : Nat → Nat) (a len k : Nat) : Prop := wln k = len ∧ ∀ j, j < len → dct (wof k + j) = by_ (a + j)
theorem isWd_pk {by_ : Nat → Nat} {a len k : Nat} (hk : k < 32) (hl : len ≤ 6) (hs : ∀ j, j < len → isSm (by_ (a + j))) : isWd by_ a len k ↔ lng k = pkV by_ a len * 32 ^ (6 - len) := by
  obtain ⟨b1, b2, b3⟩ := wln_b k hk
  have ds : ∀ j, j < wln k → isSm (dct (wof k + j)) := fun j hj => dct_s k hk j (by omega) hj
  rw [lng_pk k hk]
  constructor
  · rintro ⟨e1, e2⟩
    rw [e1, pkV_congr len e2]
  · intro e
    rcases Nat.lt_trichotomy (wln k) len with z | z | z
    · exact absurd e (pk_len z hl hs)
    · rw [z] at e ds
      have e2 := Nat.eq_of_mul_eq_mul_right (Nat.pow_pos (by decide)) e
      exact ⟨z, pkV_inj len ds hs e2⟩
    · exact absurd e.symm (pk_len z b2 ds)
theorem lng_inj : ∀ k, k < 32 → ∀ i, i < 32 → lng k = lng i → k = i := by decide +kernel
/-- the first word that is the text's, from k on -/
theorem kWd_at {v k : Nat} (hk : k < 32) (e : lng k = v) : ∀ i, k < i → i ≤ 32 → kWd v i = k
  | 0, h, _ => by omega
  | i + 1, h, hi => by
    show (if lng i = v then i else kWd v i) = k
    by_cases z : lng i = v
    · rw [if_pos z]
      exact (lng_inj k hk i (by omega) (e.trans z.symm)).symm
    · rw [if_neg z]
      have : k ≠ i := fun y => z (y ▸ e)
      exact kWd_at hk e i (by omega) (by omega)
theorem kWd_no {v : Nat} : ∀ i, (∀ k, k < i → lng k ≠ v) → kWd v i = 32
  | 0, _ => rfl
  | i + 1, h => by
    show (if lng i = v then i else kWd v i) = 32
    rw [if_neg (h i (by omega))]
    exact kWd_no i (fun k hk => h k (by omega))
