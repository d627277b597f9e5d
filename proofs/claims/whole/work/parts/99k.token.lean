/-! Both sides at one token. -/
/-- the reference's kind and value of a token of the class's kind c and value v -/
def rk (c : Nat) : Nat := if c < 32 then 1 else if c = 32 then 2 else if c = 33 then 3 else if c = 34 then 0 else if c = 35 then 6 else if c < 39 then 4 else if c < 45 then 5 else 4
def rvl (c v : Nat) : Nat := if c < 32 then pmo c else if c = 32 then v else if c = 33 then v else if c = 36 then 59 else if c = 37 then 40 else if c = 38 then 41 else if c < 45 then c - 39 else if c = 45 then 43 else if c = 46 then 45 else if c = 47 then 42 else 47
/-- the token of kind c and value v stands at p, behind it q -/
def gs_TK (mx mr : gs_M) (L c v p q : Nat) : Prop := c < 49 ∧ mx.2.1 3 5 = Int32.ofNat c ∧ mx.2.1 3 6 = Int32.ofNat p ∧ mx.2.1 3 3 = Int32.ofNat q ∧ (c = 32 → mx.2.1 3 7 = Int32.ofNat v ∧ v < 1073741824) ∧ (c = 33 → mx.2.1 3 7 = Int32.ofNat (cv4 v) ∧ v ≤ 99999) ∧ mr.2.1 116 8 = Int32.ofNat (rk c) ∧ (c ≠ 34 → c ≠ 35 → mr.2.1 116 9 = Int32.ofNat (rvl c v)) ∧ mr.2.1 116 10 = Int32.ofNat p ∧ mr.2.1 116 7 = Int32.ofNat q ∧ p ≤ L ∧ q ≤ L ∧ p ≤ q ∧ (c ≠ 34 → p < q)
theorem sg_eq (b nb : Nat) : (wdn (sKd b) nb).2 = (rSg b nb).2.2 ∧ rk (wdn (sKd b) nb).1 = (rSg b nb).1 ∧ ((wdn (sKd b) nb).1 ≠ 35 → rvl (wdn (sKd b) nb).1 0 = (rSg b nb).2.1) ∧ (wdn (sKd b) nb).1 < 49 ∧ 35 ≤ (wdn (sKd b) nb).1 ∧ (wdn (sKd b) nb).2 ≤ 1 ∧ ((wdn (sKd b) nb).2 = 1 → nb ≠ 0) := by
  by_cases h60 : b = 60
  · subst h60
    by_cases n1 : nb = 61
    · subst n1
      decide
    by_cases n2 : nb = 62
    · subst n2
      decide
    have e1 : wdn (sKd 60) nb = (39, 0) := by
      show (if (39 : Nat) = 39 ∧ nb = 61 then ((40 : Nat), (1 : Nat)) else if (39 : Nat) = 44 ∧ nb = 61 then (43, 1) else if (39 : Nat) = 39 ∧ nb = 62 then (42, 1) else (39, 0)) = _
      rw [if_neg (fun y => n1 y.2), if_neg (fun y => n1 y.2), if_neg (fun y => n2 y.2)]
    have e2 : rSg 60 nb = (5, 0, 0) := by
      show (if nb = 61 then ((5 : Nat), (1 : Nat), (1 : Nat)) else if nb = 62 then (5, 3, 1) else (5, 0, 0)) = _
      rw [if_neg n1, if_neg n2]
    rw [e1, e2]
    exact ⟨rfl, rfl, fun _ => rfl, by decide, by decide, by decide, fun y => absurd y (by decide)⟩
  by_cases h62 : b = 62
  · subst h62
    by_cases n1 : nb = 61
    · subst n1
      decide
    have e1 : wdn (sKd 62) nb = (44, 0) := by
      show (if (44 : Nat) = 39 ∧ nb = 61 then ((40 : Nat), (1 : Nat)) else if (44 : Nat) = 44 ∧ nb = 61 then (43, 1) else if (44 : Nat) = 39 ∧ nb = 62 then (42, 1) else (44, 0)) = _
      rw [if_neg (fun y => n1 y.2), if_neg (fun y => n1 y.2), if_neg (fun y => absurd y.1 (by decide))]
    have e2 : rSg 62 nb = (5, 5, 0) := by
      show (if nb = 61 then ((5 : Nat), (4 : Nat), (1 : Nat)) else (5, 5, 0)) = _
      rw [if_neg n1]
    rw [e1, e2]
    exact ⟨rfl, rfl, fun _ => rfl, by decide, by decide, by decide, fun y => absurd y (by decide)⟩
  have nk : ∀ k, k ≠ 39 → k ≠ 44 → wdn k nb = (k, 0) := fun k h1 h2 => by
    unfold wdn
    rw [if_neg (fun y => h1 y.1), if_neg (fun y => h2 y.1), if_neg (fun y => h1 y.1)]
  have fin : ∀ (k a c : Nat), sKd b = k → k ≠ 39 → k ≠ 44 → rSg b nb = (a, c, 0) → rk k = a → (k ≠ 35 → rvl k 0 = c) → k < 49 → 35 ≤ k → (wdn (sKd b) nb).2 = (rSg b nb).2.2 ∧ rk (wdn (sKd b) nb).1 = (rSg b nb).1 ∧ ((wdn (sKd b) nb).1 ≠ 35 → rvl (wdn (sKd b) nb).1 0 = (rSg b nb).2.1) ∧ (wdn (sKd b) nb).1 < 49 ∧ 35 ≤ (wdn (sKd b) nb).1 ∧ (wdn (sKd b) nb).2 ≤ 1 ∧ ((wdn (sKd b) nb).2 = 1 → nb ≠ 0) := by
    intro k a c e1 n1 n2 e2 r1 r2 b1 b2
    rw [e1, nk k n1 n2, e2]
    exact ⟨rfl, r1, r2, b1, b2, Nat.zero_le _, fun y => absurd (show (0 : Nat) = 1 from y) (by decide)⟩
  by_cases h40 : b = 40
  · subst h40; exact fin 37 4 40 rfl (by decide) (by decide) rfl rfl (fun _ => rfl) (by decide) (by decide)
  by_cases h41 : b = 41
  · subst h41; exact fin 38 4 41 rfl (by decide) (by decide) rfl rfl (fun _ => rfl) (by decide) (by decide)
  by_cases h42 : b = 42
  · subst h42; exact fin 47 4 42 rfl (by decide) (by decide) rfl rfl (fun _ => rfl) (by decide) (by decide)
  by_cases h43 : b = 43
  · subst h43; exact fin 45 4 43 rfl (by decide) (by decide) rfl rfl (fun _ => rfl) (by decide) (by decide)
  by_cases h45 : b = 45
  · subst h45; exact fin 46 4 45 rfl (by decide) (by decide) rfl rfl (fun _ => rfl) (by decide) (by decide)
  by_cases h47 : b = 47
  · subst h47; exact fin 48 4 47 rfl (by decide) (by decide) rfl rfl (fun _ => rfl) (by decide) (by decide)
  by_cases h59 : b = 59
  · subst h59; exact fin 36 4 59 rfl (by decide) (by decide) rfl rfl (fun _ => rfl) (by decide) (by decide)
  by_cases h61 : b = 61
  · subst h61; exact fin 41 5 2 rfl (by decide) (by decide) rfl rfl (fun _ => rfl) (by decide) (by decide)
  have ek : sKd b = 35 := by
    unfold sKd
    rw [if_neg h40, if_neg h41, if_neg h42, if_neg h43, if_neg h45, if_neg h47, if_neg h59, if_neg h60, if_neg h61, if_neg h62]
  obtain ⟨c, ec⟩ : ∃ c, rSg b nb = (6, c, 0) := by
    unfold rSg
    rw [if_neg h60, if_neg h62, if_neg h61, if_neg (by omega)]
    exact ⟨_, rfl⟩
  exact fin 35 6 c ek (by decide) (by decide) ec rfl (fun y => absurd rfl y) (by decide) (by decide)
theorem nVal_le {by_ : Nat → Nat} : ∀ q p v, v ≤ 99999 → p ≤ (nVal by_ q p v).1 ∧ (nVal by_ q p v).1 ≤ p + q ∧ (nVal by_ q p v).2 ≤ 99999
  | 0, p, v, h => ⟨Nat.le_refl _, Nat.le_refl _, h⟩
  | q + 1, p, v, h => by
    rw [nVal_s]
    split
    · next z =>
      have := z.2
      have i := nVal_le (by_ := by_) q (p + 1) (if 9999 < v then v else 10 * v + (by_ p - 48)) (by split <;> omega)
      omega
    · omega
theorem bEnd_le {by_ : Nat → Nat} : ∀ q p, p ≤ bEnd by_ q p ∧ bEnd by_ q p ≤ p + q
  | 0, p => ⟨Nat.le_refl _, Nat.le_refl _⟩
  | q + 1, p => by
    rw [bEnd_s]
    split
    · have := bEnd_le (by_ := by_) q (p + 1)
      omega
    · omega
section TOK
variable {X : gs_E} {d d' : Nat} {mx mr : gs_M} {T TR L p q : Nat} {by_ : Nat → Nat}
theorem tk_of (hp : p ≤ L) (hx : gs_CT mx by_ L p) (hr : gs_RT mr by_ L p) : ∃ c v q, gs_TK mx mr L c v p q := by
  obtain ⟨x6, hx⟩ := hx
  obtain ⟨r10, hr⟩ := hr
  by_cases z : p < L
  · rw [if_pos z] at hx hr
    by_cases s : isSm (by_ p)
    · rw [if_pos s] at hx hr
      obtain ⟨x3, xa, xb⟩ := hx
      obtain ⟨r7, r8, r9⟩ := hr
      have le := wEnd_le (by_ := by_) (L - p) p
      have sm := wEnd_sm (by_ := by_) (L - p) p
      have lt : p < wEnd by_ (L - p) p := by
        obtain ⟨k, hk⟩ : ∃ k, L - p = k + 1 := ⟨L - p - 1, by omega⟩
        rw [hk, wEnd_s, if_pos s]
        exact (wEnd_le (by_ := by_) k (p + 1)).1
      generalize wEnd by_ (L - p) p = e at le sm lt x3 xa xb r7 r8 r9
      by_cases y : 6 < e - p
      · refine ⟨35, 0, e, by decide, xa y, x6, x3, fun w => absurd w (by decide), fun w => absurd w (by decide), ?_, fun _ w => absurd rfl w, r10, r7, hp, by omega, by omega, fun _ => lt⟩
        rw [r8]
        unfold rWk
        rw [if_neg (by omega)]
        rfl
      · obtain ⟨x5, x7⟩ := xb (by omega)
        have bd := pk_bnd (by_ := by_) (a := p) (c := e - p) (by omega) (fun j hj => sm (p + j) (by omega) (by omega))
        generalize pkV by_ p (e - p) * 32 ^ (6 - (e - p)) = v at x5 x7 r8 r9 bd
        have kp := kWr_pm (v := v)
        have k32 : kWd v 32 ≤ 32 := by
          by_cases w : kWd v 32 < 32
          · omega
          · rw [kWd_no 32 (kWd_non 32 (Nat.le_refl _) w)]
            exact Nat.le_refl _
        unfold rWk at r8
        unfold rWv at r9
        rw [if_pos (by omega), kp] at r8 r9
        generalize kWd v 32 = c at x5 r8 r9 k32
        by_cases w : c < 32
        · have pl := pm_lt c w
          rw [if_pos pl] at r8 r9
          refine ⟨c, v, e, by omega, x5, x6, x3, fun w => by omega, fun w => by omega, ?_, fun _ _ => ?_, r10, r7, hp, by omega, by omega, fun _ => lt⟩
          · rw [r8]
            unfold rk
            rw [if_pos w]
            rfl
          · rw [r9]
            unfold rvl
            rw [if_pos w]
        · have e32 : c = 32 := by omega
          subst e32
          rw [if_neg (by decide)] at r8 r9
          refine ⟨32, v, e, by omega, x5, x6, x3, fun _ => ⟨x7, bd⟩, fun w => by omega, ?_, fun _ _ => ?_, r10, r7, hp, by omega, by omega, fun _ => lt⟩
          · rw [r8]
            rfl
          · rw [r9]
            rfl
    · rw [if_neg s] at hx hr
      by_cases g : isDg (by_ p)
      · rw [if_pos g] at hx hr
        obtain ⟨x3, x7, x5⟩ := hx
        obtain ⟨r7, r9, r8⟩ := hr
        have le := nVal_le (by_ := by_) (L - p) p 0 (by decide)
        have lt : p < (nVal by_ (L - p) p 0).1 := by
          obtain ⟨k, hk⟩ : ∃ k, L - p = k + 1 := ⟨L - p - 1, by omega⟩
          rw [hk, nVal_s, if_pos g]
          exact (nVal_le (by_ := by_) k (p + 1) _ (by have := g.2; rw [if_neg (by decide)]; omega)).1
        exact ⟨33, (nVal by_ (L - p) p 0).2, (nVal by_ (L - p) p 0).1, by decide, x5, x6, x3, fun w => absurd w (by decide), fun _ => ⟨x7, le.2.2⟩, r8, fun _ _ => r9, r10, r7, hp, by omega, by omega, fun _ => lt⟩
      · rw [if_neg g] at hx hr
        obtain ⟨x3, x5⟩ := hx
        obtain ⟨r7, r8, r9⟩ := hr
        have nz : (if p + 1 < L then by_ (p + 1) else 0) ≠ 0 → p + 1 < L := fun h => by
          by_cases w : p + 1 < L
          · exact w
          · rw [if_neg w] at h
            exact absurd rfl h
        obtain ⟨e1, e2, e3, e4, e5, e6, e7⟩ := sg_eq (by_ p) (if p + 1 < L then by_ (p + 1) else 0)
        generalize (if p + 1 < L then by_ (p + 1) else 0) = nb at x3 x5 r7 r8 r9 nz e1 e2 e3 e4 e5 e6 e7
        rw [← e1] at r7
        rw [← e2] at r8
        generalize wdn (sKd (by_ p)) nb = w at x3 x5 r7 r8 r9 e2 e3 e4 e5 e6 e7
        have lt : p + 1 + w.2 ≤ L := by
          by_cases y : w.2 = 1
          · have := nz (e7 y)
            omega
          · omega
        exact ⟨w.1, 0, p + 1 + w.2, e4, x5, x6, x3, fun y => by omega, fun y => by omega, r8, fun _ y => by rw [r9, e3 y], r10, r7, hp, lt, by omega, fun _ => by omega⟩
  · rw [if_neg z] at hx hr
    have e : p = L := by omega
    exact ⟨34, 0, p, by decide, hx.2, x6, hx.1, fun w => absurd w (by decide), fun w => absurd w (by decide), hr.2, fun w => absurd rfl w, r10, hr.1, hp, by omega, Nat.le_refl _, fun w => absurd rfl w⟩
/-- both go on to the next token -/
theorem j_adv (hX : gs_Fu X) (h : gs_Sh mx T) (hr : gs_Sh mr TR) (hB : gs_Bx mx by_ L) (hZ : gs_Bz mr by_ L) (hG : gs_Lg mx) (hD : gs_Dc mr) (hq : q ≤ L) (h3 : mx.2.1 3 3 = Int32.ofNat q) (h7 : mr.2.1 116 7 = Int32.ofNat q) :
    ∃ mx' mr' c v p' q', gs_exec X (d + 3) 108 [.inr (.inr 3)] mx = gs_rU mx' ∧ gs_exec X (d' + 2) 182 [.inr (.inr 116)] mr = gs_rU mr' ∧ gs_Wx rsX mx mx' ∧ gs_Wx rsY mr mr' ∧ q ≤ p' ∧ gs_TK mx' mr' L c v p' q' := by
  obtain ⟨mx', a1, a2, a3⟩ := x_advance (X := X) (d := d) hX h hB hG hq h3
  obtain ⟨mr', b1, b2, b3⟩ := r_take (X := X) (d := d') hX hr hZ hD hq h7
  have le := bEnd_le (by_ := by_) (L - q) q
  obtain ⟨c, v, q', t⟩ := tk_of (by omega) a3 b3
  exact ⟨mx', mr', c, v, _, q', a1, b1, a2, b2, le.1, t⟩
end TOK
