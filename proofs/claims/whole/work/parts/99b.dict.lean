/-! The words of the language, letter by letter, and as numbers, in the order of the reference. -/
def gs_dl : List Nat := [114, 101, 105, 103, 110, 32, 103, 97, 116, 101, 32, 98, 111, 111, 107, 32, 103, 117, 101, 115, 116, 32, 114, 111, 99, 107, 32, 99, 108, 111, 117, 100, 32, 115, 111, 114, 116, 32, 119, 97, 116, 99, 104, 32, 116, 117, 114, 110, 32, 112, 114, 105, 99, 101, 32, 108, 105, 109, 105, 116, 32, 98, 108, 117, 114, 32, 102, 114, 111, 109, 32, 105, 110, 32, 110, 101, 97, 114, 32, 119, 111, 114, 116, 104, 32, 112, 108, 97, 116, 101, 32, 115, 108, 111, 119, 32, 116, 105, 99, 107, 32, 110, 111, 114, 116, 104, 32, 115, 111, 117, 116, 104, 32, 101, 97, 115, 116, 32, 119, 101, 115, 116, 32, 97, 110, 100, 32, 111, 114, 32, 110, 111, 116, 32, 108, 97, 115, 116, 115, 32, 98, 114, 105, 103, 104, 116, 32, 109, 111, 118, 101, 115, 32, 116, 97, 105, 108, 32, 105, 110, 99, 104, 101, 115, 32, 109, 111, 110, 116, 104, 32]
def gs_lnr : List Nat := [609525184, 236590080, 83340288, 257085056, 619817984, 113759360, 653873152, 773459200, 693712896, 556043424, 412526208, 80398336, 220705792, 316669952, 475056128, 788091136, 549507232, 650632192, 680635392, 486101248, 653971712, 169463808, 777637888, 48365568, 522190848, 486146048, 404345440, 86285588, 452662880, 672444416, 316776627, 452415744]
abbrev lnr (k : Nat) : Nat := gs_lnr.getD k 0
/-- the last of the first i words (of the reference) that is v, or 32 -/
def kWr (v : Nat) : Nat → Nat
  | 0 => 32
  | k + 1 => if lnr k = v then k else kWr v k
/-- where the class's word k stands in the order of the reference -/
def gs_wpm : List Nat := [0, 1, 2, 12, 3, 4, 13, 14, 26, 27, 28, 15, 29, 5, 16, 17, 18, 6, 7, 8, 9, 10, 11, 19, 20, 21, 22, 24, 23, 25, 30, 31]
abbrev pmo (k : Nat) : Nat := gs_wpm.getD k 32
def gs_wo : List Nat := [0, 6, 11, 16, 22, 27, 33, 38, 44, 49, 55, 61, 66, 71, 74, 79, 85, 91, 96, 101, 107, 113, 118, 123, 127, 130, 134, 140, 147, 153, 158, 165]
def gs_wl : List Nat := [5, 4, 4, 5, 4, 5, 4, 5, 4, 5, 5, 4, 4, 2, 4, 5, 5, 4, 4, 5, 5, 4, 4, 3, 2, 3, 5, 6, 5, 4, 6, 5]
abbrev wof (k : Nat) : Nat := gs_wo.getD k 0
abbrev wln (k : Nat) : Nat := gs_wl.getD k 0
def dct (j : Nat) : Nat := gs_dl.getD j 0
theorem lnr_pk : ∀ k, k < 32 → lnr k = pkV dct (wof k) (wln k) * 32 ^ (6 - wln k) := by decide +kernel
theorem wln_b : ∀ k, k < 32 → 1 ≤ wln k ∧ wln k ≤ 6 ∧ wof k + wln k < 171 := by decide +kernel
theorem dct_s : ∀ k, k < 32 → ∀ j, j < 6 → j < wln k → isSm (dct (wof k + j)) := by decide +kernel
theorem dct_e : ∀ k, k < 32 → dct (wof k + wln k) = 32 := by decide +kernel
theorem wof_s : ∀ k, k < 31 → wof (k + 1) = wof k + (wln k + 1) := by decide +kernel
theorem dct_n : ∀ j, j < 171 → True ∧ dct j < 128 := by decide +kernel
theorem pkV_inj {f g : Nat → Nat} {a b : Nat} : ∀ c, (∀ j, j < c → isSm (f (a + j))) → (∀ j, j < c → isSm (g (b + j))) → pkV f a c = pkV g b c → ∀ j, j < c → f (a + j) = g (b + j)
  | 0, _, _, _, j, hj => by omega
  | c + 1, hf, hg, e, j, hj => by
    rw [pkV_s, pkV_s] at e
    have h1 := hf c (by omega)
    have h2 := hg c (by omega)
    have e1 : f (a + c) = g (b + c) := by omega
    have e2 : pkV f a c = pkV g b c := by omega
    by_cases z : j = c
    · rw [z]
      exact e1
    · exact pkV_inj c (fun j hj => hf j (by omega)) (fun j hj => hg j (by omega)) e2 j (by omega)
theorem pkV_congr {f g : Nat → Nat} {a b : Nat} : ∀ c, (∀ j, j < c → f (a + j) = g (b + j)) → pkV f a c = pkV g b c
  | 0, _ => rfl
  | c + 1, h => by
    rw [pkV_s, pkV_s, pkV_congr c (fun j hj => h j (by omega)), h c (by omega)]
theorem pk_len {f g : Nat → Nat} {a b c1 c2 : Nat} (h : c1 < c2) (h2 : c2 ≤ 6) (hg : ∀ j, j < c2 → isSm (g (b + j))) : pkV f a c1 * 32 ^ (6 - c1) ≠ pkV g b c2 * 32 ^ (6 - c2) := by
  intro e
  have ep : 32 ^ (6 - c1) = 32 ^ (c2 - c1 - 1) * 32 * 32 ^ (6 - c2) := by
    rw [← Nat.pow_succ, ← Nat.pow_add, show (c2 - c1 - 1).succ + (6 - c2) = 6 - c1 by omega]
  rw [ep, ← Nat.mul_assoc, ← Nat.mul_assoc] at e
  have e2 := Nat.eq_of_mul_eq_mul_right (Nat.pow_pos (by decide)) e
  obtain ⟨c, hc⟩ : ∃ c, c2 = c + 1 := ⟨c2 - 1, by omega⟩
  subst hc
  have s := hg c (by omega)
  rw [pkV_s] at e2
  generalize pkV f a c1 * 32 ^ (c + 1 - c1 - 1) = A at e2
  omega
/-- word k of the language is the text's word -/
def isWd (by_ : Nat → Nat) (a len k : Nat) : Prop := wln k = len ∧ ∀ j, j < len → dct (wof k + j) = by_ (a + j)
theorem isWd_pk {by_ : Nat → Nat} {a len k : Nat} (hk : k < 32) (hl : len ≤ 6) (hs : ∀ j, j < len → isSm (by_ (a + j))) : isWd by_ a len k ↔ lnr k = pkV by_ a len * 32 ^ (6 - len) := by
  obtain ⟨b1, b2, b3⟩ := wln_b k hk
  have ds : ∀ j, j < wln k → isSm (dct (wof k + j)) := fun j hj => dct_s k hk j (by omega) hj
  rw [lnr_pk k hk]
  constructor
  · rintro ⟨e1, e2⟩
    rw [e1, pkV_congr len e2]
  · intro e
    rcases Nat.lt_trichotomy (wln k) len with z | z | z
    · exact absurd e (pk_len z hl hs)
    · rw [z] at e ds
      have e2 := Nat.eq_of_mul_eq_mul_right (Nat.pow_pos (by decide)) e
      exact ⟨z, pkV_inj len ds hs e2⟩
    · exact absurd e.symm (pk_len z b2 ds)
theorem lnr_inj : ∀ k, k < 32 → ∀ i, i < 32 → lnr k = lnr i → k = i := by decide +kernel
/-- the first word that is the text's, from k on -/
theorem kWr_at {v k : Nat} (hk : k < 32) (e : lnr k = v) : ∀ i, k < i → i ≤ 32 → kWr v i = k
  | 0, h, _ => by omega
  | i + 1, h, hi => by
    show (if lnr i = v then i else kWr v i) = k
    by_cases z : lnr i = v
    · rw [if_pos z]
      exact (lnr_inj k hk i (by omega) (e.trans z.symm)).symm
    · rw [if_neg z]
      have : k ≠ i := fun y => z (y ▸ e)
      exact kWr_at hk e i (by omega) (by omega)
theorem kWr_no {v : Nat} : ∀ i, (∀ k, k < i → lnr k ≠ v) → kWr v i = 32
  | 0, _ => rfl
  | i + 1, h => by
    show (if lnr i = v then i else kWr v i) = 32
    rw [if_neg (h i (by omega))]
    exact kWr_no i (fun k hk => h k (by omega))
theorem kWd_no {v : Nat} : ∀ i, (∀ k, k < i → lng k ≠ v) → kWd v i = 32
  | 0, _ => rfl
  | i + 1, h => by
    show (if lng i = v then i else kWd v i) = 32
    rw [if_neg (h i (by omega))]
    exact kWd_no i (fun k hk => h k (by omega))
theorem pm_lt : ∀ k, k < 32 → pmo k < 32 := by decide +kernel
theorem pm_ln : ∀ k, k < 32 → lnr (pmo k) = lng k := by decide +kernel
theorem pm_su : ∀ k, k < 32 → ∃ i, i < 32 ∧ pmo i = k := by decide +kernel
theorem kWd_is {v : Nat} : ∀ i, i ≤ 32 → kWd v i < 32 → lng (kWd v i) = v
  | 0, _, h => absurd (show (32 : Nat) < 32 from h) (Nat.lt_irrefl _)
  | i + 1, hi, h => by
    have e : kWd v (i + 1) = if lng i = v then i else kWd v i := rfl
    rw [e] at h ⊢
    by_cases z : lng i = v
    · rw [if_pos z]
      exact z
    · rw [if_neg z] at h ⊢
      exact kWd_is i (by omega) h
theorem kWd_non {v : Nat} : ∀ i, i ≤ 32 → ¬ kWd v i < 32 → ∀ k, k < i → lng k ≠ v
  | 0, _, _, k, hk => absurd hk (Nat.not_lt_zero _)
  | i + 1, hi, h, k, hk => by
    have e : kWd v (i + 1) = if lng i = v then i else kWd v i := rfl
    rw [e] at h
    by_cases z : lng i = v
    · rw [if_pos z] at h
      omega
    · rw [if_neg z] at h
      by_cases y : k = i
      · rw [y]
        exact z
      · exact kWd_non i (by omega) h k (by omega)
/-- the reference's word is the class's, in its own order -/
theorem kWr_pm {v : Nat} : kWr v 32 = pmo (kWd v 32) := by
  by_cases z : kWd v 32 < 32
  · have e := kWd_is 32 (Nat.le_refl _) z
    exact kWr_at (pm_lt _ z) ((pm_ln _ z).trans e) 32 (pm_lt _ z) (Nat.le_refl _)
  · have no := kWd_non (v := v) 32 (Nat.le_refl _) z
    have n2 : ∀ k, k < 32 → lnr k ≠ v := fun k hk e => by
      obtain ⟨i, hi, ei⟩ := pm_su k hk
      exact no i hi (by rw [← pm_ln i hi, ei]; exact e)
    rw [kWr_no 32 n2]
    have e32 : kWd v 32 = 32 := kWd_no 32 no
    rw [e32]
    rfl
