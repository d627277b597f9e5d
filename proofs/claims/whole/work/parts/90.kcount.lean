/-! The chains of moves find as many pairs as there can be. -/
def vK (σ dr : Nat → Nat) (k i : Nat) : Prop := (∀ g, g < i → σ g = 10 ∨ (σ g < k ∧ tB (dr g) (σ g))) ∧ (∀ g h, g < h → h < i → σ g ≠ 10 → σ g ≠ σ h)
/-- the cloud that a guest owns -/
def nu (own : Nat → Nat) (k g : Nat) : Nat := if gN own (g + 1) k = 0 then 10 else gN own (g + 1) k - 1
theorem gN_in {σ : Nat → Nat} {c : Nat} : ∀ n, gN σ c n ≠ 0 → gN σ c n - 1 < n ∧ σ (gN σ c n - 1) = c
  | 0, h => absurd rfl h
  | n + 1, h => by
    have e : gN σ c (n + 1) = if σ n = c then n + 1 else gN σ c n := rfl
    by_cases z : σ n = c
    · rw [if_pos z] at e
      rw [e]
      exact ⟨by omega, z⟩
    · rw [if_neg z] at e
      rw [e] at h ⊢
      have := gN_in n h
      exact ⟨by omega, this.2⟩
section KC
variable {own own' dr σ ν σ' : Nat → Nat} {t T k g h i c f n : Nat} {tl : Nat → Nat → Nat}
theorem nb0 (c : Nat) : ¬ tB 0 c := by
  unfold tB
  simp
theorem nu_in (hk : k ≤ 10) (h : nu own k g ≠ 10) : nu own k g < k ∧ own (nu own k g) = g + 1 := by
  unfold nu at h ⊢
  by_cases z : gN own (g + 1) k = 0
  · rw [if_pos z] at h
    exact absurd rfl h
  · rw [if_neg z]
    exact gN_in k z
theorem nu_lt (hk : k ≤ 10) : nu own k g < k ↔ nu own k g ≠ 10 := ⟨fun h => by omega, fun h => (nu_in hk h).1⟩
theorem nu_at (hk : k ≤ 10) (hJ : kJ own 0 k) (hc : c < k) (ho : own c = g + 1) : nu own k g = c := by
  have z : gN own (g + 1) k = c + 1 := gN_one ho k hc (fun j h1 h2 e => by
    have := hJ c j hc h2 (nb0 c) (nb0 j) e (by omega)
    omega)
  unfold nu
  rw [z, if_neg (by omega)]
  rfl
theorem nu_H (hk : k ≤ 10) (hJ : kJ own 0 k) : nu own k g < k ↔ kH own 0 k g := by
  constructor
  · intro h
    have := nu_in (own := own) (g := g) hk (by omega)
    exact ⟨_, this.1, nb0 _, this.2⟩
  · rintro ⟨c, hc, -, e⟩
    rw [nu_at hk hJ hc e]
    exact hc
theorem nCt_iff : ∀ i, (∀ g, g < i → (σ g < k ↔ ν g < k)) → nCt σ k i = nCt ν k i
  | 0, _ => rfl
  | i + 1, h => by
    show nCt σ k i + (if σ i < k then 1 else 0) = nCt ν k i + (if ν i < k then 1 else 0)
    rw [nCt_iff i (fun g hg => h g (by omega))]
    by_cases z : σ i < k
    · rw [if_pos z, if_pos ((h i (by omega)).mp z)]
    · rw [if_neg z, if_neg (fun y => z ((h i (by omega)).mpr y))]
abbrev sA (σ : Nat → Nat) (k g : Nat) : Nat := if σ (g - 1) < k then σ (g - 1) + 1 else k + g
abbrev sV (T k s : Nat) : Int := if s ≤ k ∧ tB T (s - 1) then -1 else 0
abbrev sX (σ ν : Nat → Nat) (T k g : Nat) : Nat := if ν g < k ∧ tB T (ν g) then ν g else if σ g < k ∧ ¬ tB T (σ g) then σ g else 10
theorem sV_a (hg : 1 ≤ g) : sV T k (sA σ k g) = if σ (g - 1) < k ∧ tB T (σ (g - 1)) then -1 else 0 := by
  unfold sV sA
  by_cases z : σ (g - 1) < k
  · rw [if_pos z, show σ (g - 1) + 1 - 1 = σ (g - 1) from rfl]
    by_cases y : tB T (σ (g - 1))
    · rw [if_pos ⟨by omega, y⟩, if_pos ⟨z, y⟩]
    · rw [if_neg (fun q => y q.2), if_neg (fun q => y q.2)]
  · rw [if_neg z, if_neg (fun q => by have := q.1; omega), if_neg (fun q => z q.1)]
theorem sA_in (hg : 1 ≤ g) (hi : g ≤ i) : inS (k + i) (sA σ k g) := by
  unfold sA
  split
  · exact ⟨by omega, by omega⟩
  · exact ⟨by omega, by omega⟩
theorem sA_inj (hs : ∀ g h, g < h → h < i → σ g < k → σ g ≠ σ h) : ∀ g h, 1 ≤ g → g < h → h ≤ i → sA σ k g ≠ sA σ k h := by
  intro g h h1 h2 h3
  unfold sA
  have := hs (g - 1) (h - 1) (by omega) (by omega)
  by_cases z : σ (g - 1) < k
  · have := this z
    rw [if_pos z]
    split <;> omega
  · rw [if_neg z]
    split <;> omega
theorem k_swap (hk : k ≤ 10) (hA : kA own i k dr) (hJ : kJ own 0 k) (hF : kF own 0 T k dr i) (hs : vK σ dr k (i + 1)) : vK (sX σ (nu own k) T k) dr k i ∧ nCt σ k (i + 1) ≤ nCt (sX σ (nu own k) T k) k i := by
  obtain ⟨f1, f2, f3, f4⟩ := hF
  obtain ⟨v1, v2⟩ := hs
  have nuI : ∀ g, nu own k g < k → own (nu own k g) = g + 1 := fun g h => (nu_in hk (by omega)).2
  have nuInj : ∀ g h, g < h → h < i + 1 → nu own k g < k → nu own k g ≠ nu own k h := fun g h h1 h2 h3 e => by
    have a := nuI g h3
    have b := nuI h (by omega)
    rw [e] at a
    omega
  have nuT : nu own k i = 10 := by
    by_cases z : nu own k i = 10
    · exact z
    · have a := nu_in (own := own) (g := i) hk z
      have := (hA _ a.1).1
      omega
  have sInj : ∀ g h, g < h → h < i + 1 → σ g < k → σ g ≠ σ h := fun g h h1 h2 h3 => v2 g h h1 h2 (by omega)
  have s1 : sG (sV T k) (k + (i + 1)) ≤ sG (fun g => sV T k (sA σ k g)) (i + 1) := sum_inj (a := sA σ k) (i + 1) (sV T k) (fun g a b => sA_in a b) (sA_inj sInj) (fun s _ => by
    unfold sV
    split <;> omega)
  have s2 : sG (sV T k) (k + (i + 1)) = sG (fun g => sV T k (sA (nu own k) k g)) (i + 1) := sum_eq (a := sA (nu own k) k) (i + 1) (sV T k) (fun g a b => sA_in a b) (sA_inj nuInj) (fun s hs hz => by
    have w : s ≤ k ∧ tB T (s - 1) := by
      by_cases w : s ≤ k ∧ tB T (s - 1)
      · exact w
      · exact absurd (if_neg w) hz
    have s0 := hs.1
    have o := f2 (s - 1) (by omega) w.2 (nb0 _)
    have ob := (hA (s - 1) (by omega)).1
    have e := nu_at (g := own (s - 1) - 1) hk hJ (show s - 1 < k by omega) (by omega)
    refine ⟨own (s - 1), by omega, by omega, ?_⟩
    unfold sA
    rw [e, if_pos (by omega)]
    omega)
  have st : ∀ j, j ≤ i → (nCt σ k j : Int) - sG (fun g => sV T k (sA (nu own k) k g)) j = (nCt (sX σ (nu own k) T k) k j : Int) - sG (fun g => sV T k (sA σ k g)) j := by
    intro j
    induction j with
    | zero => intro _; rfl
    | succ j ih =>
      intro hj
      have := ih (by omega)
      show ((nCt σ k j + (if σ j < k then 1 else 0) : Nat) : Int) - (sG (fun g => sV T k (sA (nu own k) k g)) j + sV T k (sA (nu own k) k (j + 1))) = ((nCt (sX σ (nu own k) T k) k j + (if sX σ (nu own k) T k j < k then 1 else 0) : Nat) : Int) - (sG (fun g => sV T k (sA σ k g)) j + sV T k (sA σ k (j + 1)))
      rw [sV_a (by omega), sV_a (by omega), show j + 1 - 1 = j from rfl]
      by_cases z : nu own k j < k ∧ tB T (nu own k j)
      · have ex : sX σ (nu own k) T k j = nu own k j := if_pos z
        rw [ex, if_pos z, if_pos z.1]
        by_cases y : σ j < k
        · rcases v1 j (by omega) with w | w
          · omega
          · have tt := f4 _ (σ j) j z.1 y z.2 (nb0 _) (nuI j z.1) w.2
            rw [if_pos y, if_pos ⟨y, tt⟩]
            omega
        · rw [if_neg y, if_neg (fun q => y q.1)]
          omega
      · by_cases y : σ j < k ∧ ¬ tB T (σ j)
        · have ex : sX σ (nu own k) T k j = σ j := by
            unfold sX
            rw [if_neg z, if_pos y]
          rw [ex, if_neg z, if_pos y.1, if_neg (fun q => y.2 q.2)]
          omega
        · have ex : sX σ (nu own k) T k j = 10 := by
            unfold sX
            rw [if_neg z, if_neg y]
          rw [ex, if_neg z, if_neg (show ¬ 10 < k by omega)]
          by_cases w : σ j < k
          · have tt : tB T (σ j) := by
              by_cases tt : tB T (σ j)
              · exact tt
              · exact absurd ⟨w, tt⟩ y
            rw [if_pos w, if_pos ⟨w, tt⟩]
            omega
          · rw [if_neg w, if_neg (fun q => w q.1)]
            omega
  refine ⟨⟨fun g hg => ?_, fun g h h1 h2 h3 h4 => ?_⟩, ?_⟩
  · by_cases z : nu own k g < k ∧ tB T (nu own k g)
    · have ex : sX σ (nu own k) T k g = nu own k g := if_pos z
      rw [ex]
      exact Or.inr ⟨z.1, (hA _ z.1).2 g (nuI g z.1)⟩
    · by_cases y : σ g < k ∧ ¬ tB T (σ g)
      · have ex : sX σ (nu own k) T k g = σ g := by
          unfold sX
          rw [if_neg z, if_pos y]
        rw [ex]
        exact v1 g (by omega)
      · refine Or.inl ?_
        unfold sX
        rw [if_neg z, if_neg y]
  · unfold sX at h3 h4
    by_cases z : nu own k g < k ∧ tB T (nu own k g)
    · rw [if_pos z] at h3 h4
      by_cases z2 : nu own k h < k ∧ tB T (nu own k h)
      · rw [if_pos z2] at h4
        exact nuInj g h h1 (by omega) z.1 h4
      · rw [if_neg z2] at h4
        by_cases y2 : σ h < k ∧ ¬ tB T (σ h)
        · rw [if_pos y2] at h4
          rw [h4] at z
          exact y2.2 z.2
        · rw [if_neg y2] at h4
          exact h3 h4
    · rw [if_neg z] at h3 h4
      by_cases y : σ g < k ∧ ¬ tB T (σ g)
      · rw [if_pos y] at h3 h4
        by_cases z2 : nu own k h < k ∧ tB T (nu own k h)
        · rw [if_pos z2] at h4
          rw [← h4] at z2
          exact y.2 z2.2
        · rw [if_neg z2] at h4
          by_cases y2 : σ h < k ∧ ¬ tB T (σ h)
          · rw [if_pos y2] at h4
            exact sInj g h h1 (by omega) y.1 h4
          · rw [if_neg y2] at h4
            exact h3 h4
      · rw [if_neg y] at h3
        exact h3 rfl
  · have e := st i (Nat.le_refl _)
    have a1 : sG (fun g => sV T k (sA σ k g)) (i + 1) = sG (fun g => sV T k (sA σ k g)) i + sV T k (sA σ k (i + 1)) := rfl
    have a2 : sG (fun g => sV T k (sA (nu own k) k g)) (i + 1) = sG (fun g => sV T k (sA (nu own k) k g)) i + sV T k (sA (nu own k) k (i + 1)) := rfl
    rw [sV_a (by omega), show i + 1 - 1 = i from rfl] at a1 a2
    rw [nuT, if_neg (fun q => by have := q.1; omega)] at a2
    have a3 : nCt σ k (i + 1) = nCt σ k i + (if σ i < k then 1 else 0) := rfl
    by_cases y : σ i < k
    · rcases v1 i (by omega) with w | w
      · omega
      · have tt := f3 (σ i) y w.2
        rw [if_pos ⟨y, tt⟩] at a1
        rw [if_pos y] at a3
        omega
    · rw [if_neg (fun q => y q.1)] at a1
      rw [if_neg y] at a3
      omega
/-- what stands after i guests looked for a cloud -/
def kI (own dr : Nat → Nat) (k i f : Nat) : Prop := kJ own 0 k ∧ kA own i k dr ∧ f = nCt (nu own k) k i ∧ ∀ σ, vK σ dr k i → nCt σ k i ≤ f
theorem kI_0 : kI (fun _ => 0) dr k 0 0 := ⟨fun _ _ _ _ _ _ _ z => absurd rfl z, fun _ _ => ⟨Nat.le_refl _, fun y (e : 0 = y + 1) => by omega⟩, rfl, fun _ _ => Nat.le_refl _⟩
theorem kI_N (hI : kI own dr k i f) : kN own 0 k i := fun c hc _ e => by
  have := (hI.2.1 c hc).1
  omega
theorem vK_sub (h : vK σ dr k (i + 1)) : vK σ dr k i := ⟨fun g hg => h.1 g (by omega), fun g y a b => h.2 g y a (by omega)⟩
theorem kI_yes (hk : k ≤ 10) (hI : kI own dr k i f) (hA : kA own' n k dr) (hS : kS own own' 0 k i) : kI own' dr k (i + 1) (f + 1) := by
  obtain ⟨a1, a2, a3, a4⟩ := hI
  obtain ⟨s1, s2, s3⟩ := hS
  refine ⟨s3, fun c hc => ⟨?_, (hA c hc).2⟩, ?_, fun σ hs => ?_⟩
  · by_cases z : own' c = 0
    · omega
    · rcases (s2 (own' c - 1)).mp ⟨c, hc, nb0 c, by omega⟩ with e | ⟨c2, hc2, -, e⟩
      · omega
      · have := (a2 c2 hc2).1
        omega
  · show f + 1 = nCt (nu own' k) k i + (if nu own' k i < k then 1 else 0)
    rw [if_pos ((nu_H hk s3).mpr ((s2 i).mpr (Or.inl rfl))), a3]
    rw [nCt_iff (σ := nu own k) (ν := nu own' k) i (fun g hg => by
      rw [nu_H hk a1, nu_H hk s3, s2 g]
      exact ⟨Or.inr, fun q => q.resolve_left (by omega)⟩)]
  · have := a4 σ (vK_sub hs)
    show nCt σ k i + (if σ i < k then 1 else 0) ≤ f + 1
    split <;> omega
theorem kI_no (hk : k ≤ 10) (hI : kI own dr k i f) (hF : kF own 0 T k dr i) : kI own dr k (i + 1) f := by
  obtain ⟨a1, a2, a3, a4⟩ := hI
  refine ⟨a1, fun c hc => ⟨by have := (a2 c hc).1; omega, (a2 c hc).2⟩, ?_, fun σ hs => ?_⟩
  · show f = nCt (nu own k) k i + (if nu own k i < k then 1 else 0)
    rw [if_neg (fun q => by
      have b := nu_in (own := own) (g := i) hk (by omega)
      have := (a2 _ b.1).1
      omega)]
    exact a3
  · obtain ⟨b1, b2⟩ := k_swap hk a2 a1 hF hs
    exact Nat.le_trans b2 (a4 _ b1)
theorem nCt_lst (hk : k ≤ 10) (hs : ∀ g, g < n → σ g = 10 ∨ σ g < k) : ∀ q, q ≤ n → nCt σ k n = nCt σ k (n - q) + cC (lst σ n q)
  | 0, _ => rfl
  | q + 1, h => by
    have i := nCt_lst hk hs q (by omega)
    have e : nCt σ k (n - q) = nCt σ k (n - (q + 1)) + (if σ (n - (q + 1)) < k then 1 else 0) := by
      rw [show n - q = n - (q + 1) + 1 by omega]
      rfl
    show nCt σ k n = nCt σ k (n - (q + 1)) + ((if σ (n - (q + 1)) = 10 then 0 else 1) + cC (lst σ n q))
    rw [i, e]
    rcases hs (n - (q + 1)) (by omega) with z | z
    · rw [if_pos z, if_neg (by omega)]
      omega
    · rw [if_pos z, if_neg (show ¬ σ (n - (q + 1)) = 10 by omega)]
      omega
theorem grd_max (hT : ∀ g c, g < n → c < k → tl g c = 100000 ∨ tl g c ≤ 999) (hk : k ≤ 10) (hs : ∀ g, g < n → σ g = 10 ∨ (σ g < k ∧ tl g (σ g) ≠ 100000)) (hi : ∀ g h, g < h → h < n → σ g ≠ 10 → σ g ≠ σ h) : nCt σ k n ≤ nCt (sgm tl n k) k n := by
  obtain ⟨gv, gw⟩ := grd_v (t := tl) (n := n) hk n 0
  have glen := vld_len n 0 _ gv
  have ge : lst (sgm tl n k) n n = grd tl n k n 0 := by
    have := lst_get glen n (Nat.le_refl _)
    rw [Nat.sub_self] at this
    exact this
  have gi := vld_inv (t := tl) (n := n) (σ := sgm tl n k) hk n 0 (Nat.le_refl _) (by rw [ge]; exact gv)
  have sv : vld tl n k n 0 (lst σ n n) := vld_lst n 0 (Nat.le_refl _) (fun g _ hg => by
    rcases hs g hg with z | z
    · exact Or.inl z
    · exact Or.inr ⟨z.1, fun q => by
        rcases q with q | q
        · exact nb0 _ q
        · exact z.2 q⟩) (fun g h _ h1 h2 h3 => hi g h h1 h2 h3)
  have w1 := wv_le n 0 _ sv
  have c1 := wv_ct hT n 0 _ (Nat.le_refl _) hk sv
  have c2 := wv_ct hT n 0 _ (Nat.le_refl _) hk gv
  have p1 := cC_pc n 0 _ hk sv
  have l1 := nCt_lst (n := n) hk (fun g hg => (hs g hg).imp id And.left) n (Nat.le_refl _)
  have l2 := nCt_lst (σ := sgm tl n k) (n := n) hk (fun g hg => (gi.1 g (by omega) hg).imp id And.left) n (Nat.le_refl _)
  rw [Nat.sub_self] at l1 l2
  rw [ge] at l2
  rw [l1, l2]
  show 0 + _ ≤ 0 + _
  omega
/-- the guests' masks hold the able clouds: both count alike -/
theorem kI_end (hT : ∀ g c, g < n → c < k → tl g c = 100000 ∨ tl g c ≤ 999) (hk : k ≤ 10) (hd : ∀ g c, g < n → c < k → (tB (dr g) c ↔ tl g c ≠ 100000)) (hI : kI own dr k n f) : f = nCt (sgm tl n k) k n := by
  obtain ⟨a1, a2, a3, a4⟩ := hI
  obtain ⟨gv, gw⟩ := grd_v (t := tl) (n := n) hk n 0
  have glen := vld_len n 0 _ gv
  have ge : lst (sgm tl n k) n n = grd tl n k n 0 := by
    have := lst_get glen n (Nat.le_refl _)
    rw [Nat.sub_self] at this
    exact this
  have gi := vld_inv (t := tl) (n := n) (σ := sgm tl n k) hk n 0 (Nat.le_refl _) (by rw [ge]; exact gv)
  have h1 := a4 (sgm tl n k) ⟨fun g hg => by
    rcases gi.1 g (by omega) hg with e | ⟨e1, e2⟩
    · exact Or.inl e
    · exact Or.inr ⟨e1, (hd g _ hg e1).mpr (fun z => e2 (Or.inr z))⟩, fun g h q1 q2 q3 => gi.2 g h (by omega) q1 q2 q3⟩
  have h2 := grd_max (σ := nu own k) (n := n) hT hk (fun g hg => by
    by_cases z : nu own k g = 10
    · exact Or.inl z
    · have b := nu_in (own := own) (g := g) hk z
      exact Or.inr ⟨b.1, (hd g _ hg b.1).mp ((a2 _ b.1).2 g b.2)⟩) (fun g h q1 q2 q3 q4 => by
    have b := nu_in (own := own) (g := g) hk q3
    have b2 := nu_in (own := own) (g := h) hk (by rw [← q4]; exact q3)
    rw [q4] at b
    omega)
  omega
end KC
