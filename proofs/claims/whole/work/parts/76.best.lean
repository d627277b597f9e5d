/-! The Hungarian way ends with the best pairing. -/
def sG (f : Nat → Int) : Nat → Int
  | 0 => 0
  | m + 1 => sG f m + f (m + 1)
theorem sG_congr {f f' : Nat → Int} : ∀ m, (∀ g, 1 ≤ g → g ≤ m → f g = f' g) → sG f m = sG f' m
  | 0, _ => rfl
  | m + 1, h => by
    show sG f m + f (m + 1) = sG f' m + f' (m + 1)
    rw [sG_congr m (fun g a b => h g a (by omega)), h (m + 1) (by omega) (by omega)]
theorem sG_le {f f' : Nat → Int} : ∀ m, (∀ g, 1 ≤ g → g ≤ m → f g ≤ f' g) → sG f m ≤ sG f' m
  | 0, _ => Int.le_refl _
  | m + 1, h => by
    have a := sG_le m (fun g a b => h g a (by omega))
    have b := h (m + 1) (by omega) (by omega)
    show sG f m + f (m + 1) ≤ sG f' m + f' (m + 1)
    omega
theorem sG_plus {f f' : Nat → Int} : ∀ m, sG (fun g => f g + f' g) m = sG f m + sG f' m
  | 0 => rfl
  | m + 1 => by
    show sG (fun g => f g + f' g) m + (f (m + 1) + f' (m + 1)) = sG f m + f (m + 1) + (sG f' m + f' (m + 1))
    rw [sG_plus m]
    omega
theorem sG_zero {f : Nat → Int} : ∀ m, (∀ g, 1 ≤ g → g ≤ m → f g = 0) → sG f m = 0
  | 0, _ => rfl
  | m + 1, h => by
    show sG f m + f (m + 1) = 0
    rw [sG_zero m (fun g a b => h g a (by omega)), h (m + 1) (by omega) (by omega)]
    rfl
theorem sG_upd {v : Nat → Int} {x : Nat} : ∀ K, inS K x → sG v K = sG (fun s => if s = x then 0 else v s) K + v x
  | 0, h => by have := h.1; have := h.2; omega
  | K + 1, h => by
    show sG v K + v (K + 1) = sG (fun s => if s = x then 0 else v s) K + (if K + 1 = x then 0 else v (K + 1)) + v x
    by_cases e : K + 1 = x
    · rw [if_pos e]
      have : sG v K = sG (fun s => if s = x then 0 else v s) K := sG_congr K (fun g a b => by
        show v g = if g = x then 0 else v g
        rw [if_neg (by omega)])
      rw [this, e]
      omega
    · rw [if_neg e, sG_upd K ⟨h.1, by have := h.2; omega⟩]
      omega
theorem sum_inj {K : Nat} {a : Nat → Nat} : ∀ (m : Nat) (v : Nat → Int), (∀ g, 1 ≤ g → g ≤ m → inS K (a g)) → (∀ g h, 1 ≤ g → g < h → h ≤ m → a g ≠ a h) → (∀ s, inS K s → v s ≤ 0) → sG v K ≤ sG (fun g => v (a g)) m := by
  intro m
  induction m with
  | zero =>
    intro v _ _ hv
    have := sG_le (f := v) (f' := fun _ => 0) K (fun g a b => hv g ⟨a, b⟩)
    rw [sG_zero (f := fun _ => 0) K (fun _ _ _ => rfl)] at this
    exact this
  | succ m ih =>
    intro v ha hd hv
    have h1 := ha (m + 1) (by omega) (by omega)
    have h2 := ih (fun s => if s = a (m + 1) then 0 else v s) (fun g a b => ha g a (by omega)) (fun g h a b c => hd g h a b (by omega)) (fun s hs => by
      show (if s = a (m + 1) then 0 else v s) ≤ 0
      split
      · exact Int.le_refl _
      · exact hv s hs)
    have h3 : sG (fun g => (if a g = a (m + 1) then 0 else v (a g))) m = sG (fun g => v (a g)) m := sG_congr m (fun g x y => by
      show (if a g = a (m + 1) then 0 else v (a g)) = v (a g)
      rw [if_neg (hd g (m + 1) x (by omega) (Nat.le_refl _))])
    rw [sG_upd K h1]
    have h2 : sG (fun s => if s = a (m + 1) then 0 else v s) K ≤ sG (fun g => (if a g = a (m + 1) then 0 else v (a g))) m := h2
    show _ ≤ sG (fun g => v (a g)) m + v (a (m + 1))
    omega
theorem sum_eq {K : Nat} {a : Nat → Nat} : ∀ (m : Nat) (v : Nat → Int), (∀ g, 1 ≤ g → g ≤ m → inS K (a g)) → (∀ g h, 1 ≤ g → g < h → h ≤ m → a g ≠ a h) → (∀ s, inS K s → v s ≠ 0 → ∃ g, 1 ≤ g ∧ g ≤ m ∧ a g = s) → sG v K = sG (fun g => v (a g)) m := by
  intro m
  induction m with
  | zero =>
    intro v _ _ hv
    refine sG_zero K (fun g x y => ?_)
    apply Classical.byContradiction
    intro hz
    obtain ⟨h, a, b, -⟩ := hv g ⟨x, y⟩ hz
    omega
  | succ m ih =>
    intro v ha hd hv
    have h1 := ha (m + 1) (by omega) (by omega)
    have h2 := ih (fun s => if s = a (m + 1) then 0 else v s) (fun g a b => ha g a (by omega)) (fun g h a b c => hd g h a b (by omega)) (fun s hs hz => by
      have hz : (if s = a (m + 1) then 0 else v s) ≠ 0 := hz
      by_cases e : s = a (m + 1)
      · rw [if_pos e] at hz
        exact absurd rfl hz
      · rw [if_neg e] at hz
        obtain ⟨g, x, y, z⟩ := hv s hs hz
        by_cases eg : g = m + 1
        · exact absurd (by rw [← z, eg]) e
        · exact ⟨g, x, by omega, z⟩)
    have h3 : sG (fun g => (if a g = a (m + 1) then 0 else v (a g))) m = sG (fun g => v (a g)) m := sG_congr m (fun g x y => by
      show (if a g = a (m + 1) then 0 else v (a g)) = v (a g)
      rw [if_neg (hd g (m + 1) x (by omega) (Nat.le_refl _))])
    rw [sG_upd K h1]
    have h2 : sG (fun s => if s = a (m + 1) then 0 else v s) K = sG (fun g => (if a g = a (m + 1) then 0 else v (a g))) m := h2
    show _ = sG (fun g => v (a g)) m + v (a (m + 1))
    omega
/-- seats of the best cost least -/
theorem h_opt {C : Nat → Nat → Option Int} {n K : Nat} {p a b : Nat → Nat} {u v : Nat → Int} {ca cb : Nat → Int} (hM : hMt K (n + 1) p) (hF : hFe C K (fun g => 1 ≤ g ∧ g < n + 1) p u v) (hb : ∀ g, 1 ≤ g → g ≤ n → inS K (b g) ∧ p (b g) = g ∧ C g (b g) = some (cb g)) (ha : ∀ g, 1 ≤ g → g ≤ n → inS K (a g) ∧ C g (a g) = some (ca g)) (hd : ∀ g h, 1 ≤ g → g < h → h ≤ n → a g ≠ a h) : sG cb n ≤ sG ca n := by
  have e1 : sG cb n = sG (fun g => u g + v (b g)) n := sG_congr n (fun g x y => by
    obtain ⟨h1, h2, h3⟩ := hb g x y
    obtain ⟨c, h4, h5⟩ := hF.2.1 (b g) h1 (by omega)
    rw [h2] at h4 h5
    rw [h3] at h4
    rw [Option.some.inj h4]
    exact h5.symm)
  have e2 : sG v K = sG (fun g => v (b g)) n := sum_eq n v (fun g x y => (hb g x y).1) (fun g h x y z e => by
    have q1 := (hb g x (by omega)).2.1
    have q2 := (hb h (by omega) z).2.1
    rw [e, q2] at q1
    omega) (fun s hs hz => by
    have hp : p s ≠ 0 := fun q => hz ((hF.2.2.1 s hs).2 q)
    have hlt := hM.1 s hs
    obtain ⟨h1, h2, -⟩ := hb (p s) (by omega) (by omega)
    exact ⟨p s, by omega, by omega, (hM.2.1 s (b (p s)) hs h1 hp h2.symm).symm⟩)
  have e3 : sG v K ≤ sG (fun g => v (a g)) n := sum_inj n v (fun g x y => (ha g x y).1) hd (fun s hs => (hF.2.2.1 s hs).1)
  have e4 : sG (fun g => u g + v (a g)) n ≤ sG ca n := sG_le n (fun g x y => by
    obtain ⟨h1, h2⟩ := ha g x y
    exact hF.1 g (a g) (ca g) ⟨x, by omega⟩ h1 h2)
  rw [sG_plus] at e1 e4
  omega
/-! pairings as rows -/
def lst (σ : Nat → Nat) (n : Nat) : Nat → List Nat
  | 0 => []
  | q + 1 => σ (n - (q + 1)) :: lst σ n q
section LST
variable {t : Nat → Nat → Nat} {n k : Nat} {σ : Nat → Nat}
theorem tb_or {set c i : Nat} : (set ||| 2 ^ c).testBit i = true ↔ (set.testBit i = true ∨ c = i) := by
  rw [Nat.testBit_or, Nat.testBit_two_pow, Bool.or_eq_true, decide_eq_true_iff]
theorem vld_lst : ∀ q set, q ≤ n → (∀ g, n - q ≤ g → g < n → σ g = 10 ∨ (σ g < k ∧ ¬ skp (t g) set (σ g))) → (∀ g h, n - q ≤ g → g < h → h < n → σ g ≠ 10 → σ g ≠ σ h) → vld t n k q set (lst σ n q) := by
  intro q
  induction q with
  | zero => intro set _ _ _; rfl
  | succ q ih =>
    intro set hq h1 h2
    refine ⟨h1 (n - (q + 1)) (Nat.le_refl _) (by omega), ih _ (by omega) (fun g a b => ?_) (fun g h a b c d => h2 g h (by omega) b c d)⟩
    rcases h1 g (by omega) b with e | ⟨e1, e2⟩
    · exact Or.inl e
    · refine Or.inr ⟨e1, ?_⟩
      unfold tak
      by_cases z : σ (n - (q + 1)) = 10
      · rw [if_pos z]
        exact e2
      · rw [if_neg z]
        intro hs
        rcases hs with hs | hs
        · rcases tb_or.mp hs with hs | hs
          · exact e2 (Or.inl hs)
          · exact h2 (n - (q + 1)) g (Nat.le_refl _) (by omega) b z hs
        · exact e2 (Or.inr hs)
theorem vld_inv (hk : k ≤ 10) : ∀ q set, q ≤ n → vld t n k q set (lst σ n q) → (∀ g, n - q ≤ g → g < n → σ g = 10 ∨ (σ g < k ∧ ¬ skp (t g) set (σ g))) ∧ (∀ g h, n - q ≤ g → g < h → h < n → σ g ≠ 10 → σ g ≠ σ h) := by
  intro q
  induction q with
  | zero => intro set _ _; exact ⟨fun g a b => by omega, fun g h a b c => by omega⟩
  | succ q ih =>
    intro set hq hv
    have hv : (σ (n - (q + 1)) = 10 ∨ (σ (n - (q + 1)) < k ∧ ¬ skp (t (n - (q + 1))) set (σ (n - (q + 1))))) ∧ vld t n k q (tak set (σ (n - (q + 1)))) (lst σ n q) := hv
    obtain ⟨i1, i2⟩ := ih _ (by omega) hv.2
    have up : ∀ g, n - q ≤ g → g < n → (σ g = 10 ∨ (σ g < k ∧ ¬ skp (t g) set (σ g))) ∧ (σ (n - (q + 1)) ≠ 10 → σ (n - (q + 1)) ≠ σ g) := by
      intro g a b
      by_cases z : σ (n - (q + 1)) = 10
      · refine ⟨?_, fun q => absurd z q⟩
        have := i1 g a b
        unfold tak at this
        rw [if_pos z] at this
        exact this
      · have := i1 g a b
        unfold tak at this
        rw [if_neg z] at this
        rcases this with e | ⟨e1, e2⟩
        · refine ⟨Or.inl e, fun _ q => z (q.trans e)⟩
        · refine ⟨Or.inr ⟨e1, fun hs => e2 ?_⟩, fun _ q => e2 (Or.inl (tb_or.mpr (Or.inr q)))⟩
          rcases hs with hs | hs
          · exact Or.inl (tb_or.mpr (Or.inl hs))
          · exact Or.inr hs
    refine ⟨fun g a b => ?_, fun g h a b c d => ?_⟩
    · by_cases e : g = n - (q + 1)
      · rw [e]; exact hv.1
      · exact (up g (by omega) b).1
    · by_cases e : g = n - (q + 1)
      · rw [e] at d ⊢
        exact (up h (by omega) c).2 d
      · exact i2 g h (by omega) b c d
theorem lst_get {s : List Nat} (hs : s.length = n) : ∀ q, q ≤ n → lst (fun g => s.getD g 10) n q = s.drop (n - q)
  | 0, _ => by
    rw [Nat.sub_zero, ← hs, List.drop_length]
    rfl
  | q + 1, h => by
    have hlt : n - (q + 1) < s.length := by omega
    rw [List.drop_eq_getElem_cons hlt, show n - (q + 1) + 1 = n - q by omega, ← lst_get hs q (by omega)]
    show s.getD (n - (q + 1)) 10 :: _ = _
    rw [List.getD_eq_getElem?_getD, List.getElem?_eq_getElem hlt]
    rfl
/-- what a seat of the pairing costs a guest -/
def cv (t : Nat → Nat → Nat) (g c : Nat) : Int := if c = 10 then 10 * (11 : Int) ^ (11 - g) else (t g c : Int) * 3138428376721 + (c : Int) * (11 : Int) ^ (11 - g) - 31384283767210000
def cL (t : Nat → Nat → Nat) (n q : Nat) (s : List Nat) : Int := (cT t n q s : Int) * 3138428376721 + (cN (12 - n) q s : Int) - (cC s : Int) * 31384283767210000
theorem cL_s {q c : Nat} {s : List Nat} (hn : n ≤ 12) (hq : q + 1 ≤ n) : cL t n (q + 1) (c :: s) = cv t (n - (q + 1)) c + cL t n q s := by
  unfold cL cv
  have e : 11 - (n - (q + 1)) = 12 - n + q := by omega
  have eC : cC (c :: s) = (if c = 10 then 0 else 1) + cC s := rfl
  have eT : cT t n (q + 1) (c :: s) = (if c = 10 then 0 else t (n - (q + 1)) c) + cT t n q s := rfl
  have eN : cN (12 - n) (q + 1) (c :: s) = c * 11 ^ (12 - n + q) + cN (12 - n) q s := rfl
  have ep : ((11 ^ (12 - n + q) : Nat) : Int) = (11 : Int) ^ (12 - n + q) := by
    rw [Int.natCast_pow]
    rfl
  rw [eC, eT, eN, e]
  by_cases h : c = 10
  · rw [if_pos h, if_pos h, if_pos h, h]
    rw [Nat.zero_add, Nat.zero_add, Int.natCast_add, Int.natCast_mul, ep]
    generalize (11 : Int) ^ (12 - n + q) = P
    show _ + (10 * P + _) - _ = _
    omega
  · rw [if_neg h, if_neg h, if_neg h, Int.natCast_add, Int.natCast_add, Int.natCast_add, Int.natCast_mul, ep]
    generalize (c : Int) * (11 : Int) ^ (12 - n + q) = P
    generalize (cT t n q s : Int) = A
    generalize (t (n - (q + 1)) c : Int) = B
    generalize (cC s : Int) = D
    show (B + A) * 3138428376721 + _ - ((1 : Int) + D) * 31384283767210000 = _
    omega
theorem cst_lst (hn : n ≤ 12) : ∀ q, q ≤ n → sG (fun g => cv t (g - 1) (σ (g - 1))) n = sG (fun g => cv t (g - 1) (σ (g - 1))) (n - q) + cL t n q (lst σ n q)
  | 0, _ => by
    show _ = _ + (((0 : Nat) : Int) * 3138428376721 + ((0 : Nat) : Int) - ((0 : Nat) : Int) * 31384283767210000)
    rw [Nat.sub_zero]
    omega
  | q + 1, h => by
    rw [cst_lst hn q (by omega)]
    show _ = _ + cL t n (q + 1) (σ (n - (q + 1)) :: lst σ n q)
    rw [cL_s hn h]
    have e : n - q = (n - (q + 1)) + 1 := by omega
    rw [e]
    show sG _ (n - (q + 1)) + cv t (n - (q + 1) + 1 - 1) (σ (n - (q + 1) + 1 - 1)) + _ = _
    rw [Nat.add_sub_cancel]
    omega
/-- the class's costs, guests and seats counted from 1 -/
def Cf (t : Nat → Nat → Nat) (k g s : Nat) : Option Int := if k < s then some (10 * (11 : Int) ^ (12 - g)) else if t (g - 1) (s - 1) = 100000 then none else some ((t (g - 1) (s - 1) : Int) * 3138428376721 + ((s - 1 : Nat) : Int) * (11 : Int) ^ (12 - g) - 31384283767210000)
theorem h_best {K : Nat} {p : Nat → Nat} {u v : Nat → Int} (hT : ∀ g c, g < n → c < k → t g c = 100000 ∨ t g c ≤ 999) (hn : n ≤ 12) (hk : k ≤ 10) (hK : K = k + n) (hM : hMt K (n + 1) p) (hF : hFe (Cf t k) K (fun g => 1 ≤ g ∧ g < n + 1) p u v) :
    ∀ g c, g < n → c < k → (p (c + 1) = g + 1 ↔ (grd t n k n 0).getD g 10 = c) := by
  obtain ⟨b, hb⟩ := Classical.axiomOfChoice (r := fun g s => 1 ≤ g → g ≤ n → inS K s ∧ p s = g) (fun g => by
    by_cases z : 1 ≤ g ∧ g ≤ n
    · obtain ⟨s, h1, h2⟩ := hM.2.2 g z.1 (by omega)
      exact ⟨s, fun _ _ => ⟨h1, h2⟩⟩
    · exact ⟨0, fun x y => absurd ⟨x, y⟩ z⟩)
  obtain ⟨gv, -⟩ := grd_v (t := t) (n := n) hk n 0
  have glen := vld_len n 0 _ gv
  obtain ⟨τ, hτ⟩ : ∃ τ : Nat → Nat, τ = fun g => (grd t n k n 0).getD g 10 := ⟨_, rfl⟩
  have ge : lst τ n n = grd t n k n 0 := by
    rw [hτ, lst_get glen n (Nat.le_refl _), Nat.sub_self]
    rfl
  have gi := vld_inv (t := t) (n := n) (σ := τ) hk n 0 (Nat.le_refl _) (by rw [ge]; exact gv)
  have hτg : ∀ g, (grd t n k n 0).getD g 10 = τ g := fun g => by rw [hτ]
  -- the class's pairing
  have bs : ∀ g, g < n → inS K (b (g + 1)) ∧ p (b (g + 1)) = g + 1 := fun g hg => hb (g + 1) (by omega) (by omega)
  have bt : ∀ g, g < n → ∃ c, Cf t k (g + 1) (b (g + 1)) = some c := fun g hg => by
    obtain ⟨h1, h2⟩ := bs g hg
    obtain ⟨c, h3, -⟩ := hF.2.1 (b (g + 1)) h1 (by omega)
    rw [h2] at h3
    exact ⟨c, h3⟩
  let ρ : Nat → Nat := fun g => if b (g + 1) ≤ k then b (g + 1) - 1 else 10
  have hρ : ∀ g, ρ g = if b (g + 1) ≤ k then b (g + 1) - 1 else 10 := fun g => rfl
  have cb : ∀ g, g < n → Cf t k (g + 1) (b (g + 1)) = some (cv t g (ρ g)) ∧ (ρ g = 10 ∨ (ρ g < k ∧ t g (ρ g) ≠ 100000)) := fun g hg => by
    obtain ⟨⟨h1, h1'⟩, h2⟩ := bs g hg
    obtain ⟨c, h3⟩ := bt g hg
    rw [hρ]
    unfold Cf cv at *
    have e12 : 12 - (g + 1) = 11 - g := by omega
    rw [Nat.add_sub_cancel, e12] at h3 ⊢
    by_cases z : b (g + 1) ≤ k
    · rw [if_neg (show ¬ k < b (g + 1) by omega)] at h3 ⊢
      rw [if_pos z]
      by_cases y : t g (b (g + 1) - 1) = 100000
      · rw [if_pos y] at h3
        cases h3
      · rw [if_neg y, if_neg (show ¬ b (g + 1) - 1 = 10 by omega)]
        exact ⟨rfl, Or.inr ⟨by omega, y⟩⟩
    · rw [if_pos (show k < b (g + 1) by omega), if_neg z, if_pos rfl]
      exact ⟨rfl, Or.inl rfl⟩
  have pv : vld t n k n 0 (lst ρ n n) := vld_lst n 0 (Nat.le_refl _) (fun g a hg => by
    rcases (cb g hg).2 with e | ⟨e1, e2⟩
    · exact Or.inl e
    · refine Or.inr ⟨e1, fun hs => ?_⟩
      rcases hs with hs | hs
      · rw [Nat.zero_testBit] at hs
        cases hs
      · exact e2 hs) (fun g h a gh hh hz he => by
    obtain ⟨⟨a1, a1'⟩, a2⟩ := bs g (by omega)
    obtain ⟨⟨b1, b1'⟩, b2⟩ := bs h hh
    rw [hρ] at hz he
    rw [hρ] at he
    by_cases y1 : b (g + 1) ≤ k
    · rw [if_pos y1] at he
      by_cases y2 : b (h + 1) ≤ k
      · rw [if_pos y2] at he
        have : b (g + 1) = b (h + 1) := by omega
        rw [this, b2] at a2
        omega
      · rw [if_neg y2] at he
        omega
    · rw [if_neg y1] at hz
      exact hz rfl)
  have key := h_opt (n := n) (p := p) (a := fun g => if τ (g - 1) = 10 then k + g else τ (g - 1) + 1) (b := b) (ca := fun g => cv t (g - 1) (τ (g - 1))) (cb := fun g => cv t (g - 1) (ρ (g - 1))) hM hF (fun g x y => by
    obtain ⟨h1, h2⟩ := hb g x y
    refine ⟨h1, h2, ?_⟩
    obtain ⟨g', rfl⟩ : ∃ g', g = g' + 1 := ⟨g - 1, by omega⟩
    rw [Nat.add_sub_cancel]
    exact (cb g' (by omega)).1) (fun g x y => by
    obtain ⟨g', rfl⟩ : ∃ g', g = g' + 1 := ⟨g - 1, by omega⟩
    rw [Nat.add_sub_cancel]
    unfold Cf cv
    have e12 : 12 - (g' + 1) = 11 - g' := by omega
    rw [Nat.add_sub_cancel, e12]
    rcases gi.1 g' (by omega) (by omega) with e | ⟨e1, e2⟩
    · rw [if_pos e]
      rw [if_pos (show k < k + (g' + 1) by omega), if_pos e]
      exact ⟨⟨by omega, by omega⟩, rfl⟩
    · have n10 : ¬ τ g' = 10 := by omega
      rw [if_neg n10, if_neg (show ¬ k < τ g' + 1 by omega), Nat.add_sub_cancel, if_neg (fun z => e2 (Or.inr z)), if_neg n10]
      exact ⟨⟨by omega, by omega⟩, rfl⟩) (fun g h x y z => by
    show (if τ (g - 1) = 10 then k + g else τ (g - 1) + 1) ≠ (if τ (h - 1) = 10 then k + h else τ (h - 1) + 1)
    have a1 := gi.1 (g - 1) (by omega) (by omega)
    have a2 := gi.1 (h - 1) (by omega) (by omega)
    have a3 := gi.2 (g - 1) (h - 1) (by omega) (by omega) (by omega)
    by_cases y1 : τ (g - 1) = 10
    · rw [if_pos y1]
      by_cases y2 : τ (h - 1) = 10
      · rw [if_pos y2]
        omega
      · rw [if_neg y2]
        have := (a2.resolve_left y2).1
        omega
    · rw [if_neg y1]
      have a1 := (a1.resolve_left y1).1
      have a3 := a3 y1
      by_cases y2 : τ (h - 1) = 10
      · rw [if_pos y2]
        omega
      · rw [if_neg y2]
        omega)
  rw [cst_lst (σ := ρ) hn n (Nat.le_refl _), cst_lst (σ := τ) hn n (Nat.le_refl _), Nat.sub_self, ge] at key
  have e := grd_uniq hT hn hk pv (show cst t n (lst ρ n n) ≤ cst t n (grd t n k n 0) by
    have key : (0 : Int) + cst t n (lst ρ n n) ≤ 0 + cst t n (grd t n k n 0) := key
    omega)
  have er : ∀ g, g < n → ρ g = τ g := fun g hg => by
    have q1 : ∀ (α β : Nat → Nat) q, lst α n q = lst β n q → ∀ g, n - q ≤ g → g < n → q ≤ n → α g = β g := by
      intro α β q
      induction q with
      | zero => intro _ g a b; omega
      | succ q ih =>
        intro he g a b c
        have he : α (n - (q + 1)) :: lst α n q = β (n - (q + 1)) :: lst β n q := he
        rw [List.cons.injEq] at he
        by_cases z : g = n - (q + 1)
        · rw [z]; exact he.1
        · exact ih he.2 g (by omega) b (by omega)
    exact q1 ρ τ n (e.trans ge.symm) g (by omega) hg (Nat.le_refl _)
  intro g c hg hc
  rw [hτg g, ← er g hg, hρ]
  obtain ⟨⟨h1, h1'⟩, h2⟩ := bs g hg
  constructor
  · intro hp
    have : b (g + 1) = c + 1 := hM.2.1 (b (g + 1)) (c + 1) ⟨h1, h1'⟩ ⟨by omega, by omega⟩ (by omega) (by omega)
    rw [if_pos (by omega), this, Nat.add_sub_cancel]
  · intro hp
    by_cases z : b (g + 1) ≤ k
    · rw [if_pos z] at hp
      have : b (g + 1) = c + 1 := by omega
      rw [← this]
      exact h2
    · rw [if_neg z] at hp
      omega
end LST
