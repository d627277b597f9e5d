/-! The rules of sorts: signs, in both classes. -/
theorem j_cl {a b : Int64} : lg_cmp a b < 0 ↔ a.toInt < b.toInt := by
  unfold lg_cmp
  by_cases h : a > b
  · have h' : b.toInt < a.toInt := Int64.lt_iff_toInt_lt.mp h
    rw [if_pos h]
    exact ⟨fun q => absurd q (by decide), fun q => by omega⟩
  · have h' : ¬ b.toInt < a.toInt := fun q => h (Int64.lt_iff_toInt_lt.mpr q)
    rw [if_neg h]
    by_cases e : a = b
    · rw [if_pos e, e]
      exact ⟨fun q => absurd q (by decide), fun q => by omega⟩
    · have e' : a.toInt ≠ b.toInt := fun q => e (j_eq.mpr q)
      rw [if_neg e]
      exact ⟨fun _ => by omega, fun _ => by decide⟩
theorem j_cg {a b : Int64} : 0 < lg_cmp a b ↔ b.toInt < a.toInt := by
  unfold lg_cmp
  by_cases h : a > b
  · have h' : b.toInt < a.toInt := Int64.lt_iff_toInt_lt.mp h
    rw [if_pos h]
    exact ⟨fun _ => h', fun _ => by decide⟩
  · have h' : ¬ b.toInt < a.toInt := fun q => h (Int64.lt_iff_toInt_lt.mpr q)
    rw [if_neg h]
    by_cases e : a = b
    · rw [if_pos e, e]
      exact ⟨fun q => absurd q (by decide), fun q => by omega⟩
    · rw [if_neg e]
      exact ⟨fun q => absurd q (by decide), fun q => absurd q h'⟩
theorem j_ce {a b : Int64} : lg_cmp a b = 0 ↔ a = b := by
  unfold lg_cmp
  by_cases h : a > b
  · have h' : b.toInt < a.toInt := Int64.lt_iff_toInt_lt.mp h
    rw [if_pos h]
    exact ⟨fun q => absurd q (by decide), fun q => by rw [q] at h'; omega⟩
  · rw [if_neg h]
    by_cases e : a = b
    · rw [if_pos e]
      exact ⟨fun _ => e, fun _ => rfl⟩
    · rw [if_neg e]
      exact ⟨fun q => absurd q (by decide), fun q => absurd q e⟩
def f_absL (a : Int64) : Int64 := if lg_cmp a 0 < 0 then -a else a
def f_wi (a : Int64) : Option Int64 := if 0 < lg_cmp a 1000000000000 then none else if lg_cmp a (-1000000000000) < 0 then none else some a
def f_ti (a b : Int64) : Option Int64 := if lg_cmp a 0 = 0 then some (a * b) else if 0 < lg_cmp (f_absL b) (1000000000000 / f_absL a) then none else some (a * b)
/-- what a sign makes of two numbers; none: an error -/
def f_ap (j : Nat) (a b : Int64) : Option Int64 :=
  if j = 3 then some (if lg_cmp a 0 = 0 then 0 else if lg_cmp b 0 = 0 then 0 else 1)
  else if j = 4 then some (if lg_cmp a 0 = 0 then (if lg_cmp b 0 = 0 then 0 else 1) else 1)
  else if j = 5 then some (if lg_cmp a b < 0 then 1 else 0)
  else if j = 6 then some (if 0 < lg_cmp a b then 0 else 1)
  else if j = 7 then some (if lg_cmp a b = 0 then 1 else 0)
  else if j = 8 then some (if lg_cmp a b = 0 then 0 else 1)
  else if j = 9 then some (if lg_cmp a b < 0 then 0 else 1)
  else if j = 10 then some (if 0 < lg_cmp a b then 1 else 0)
  else if j = 11 then f_wi (a + b)
  else if j = 12 then f_wi (a - b)
  else if j = 13 then f_ti a b
  else (if lg_cmp b 0 = 0 then none else some (a / b))
theorem f_absL_nz {a : Int64} (h : a ≠ 0) : f_absL a ≠ 0 := by
  unfold f_absL
  split
  · intro e
    have e2 := congrArg (fun z : Int64 => -z) e
    simp at e2
    exact h e2
  · exact h
theorem f_divL (x : Int64) (h : x ≠ 0) : 0 ≤ (x.toInt) ∨ x.toInt = -9223372036854775808 → 0 ≤ ((1000000000000 : Int64) / x).toInt := by
  have h0 : x.toInt ≠ 0 := fun q => h (j_eq.mpr q)
  have e12 : (1000000000000 : Int64).toInt = 1000000000000 := rfl
  intro hx
  rw [Int64.toInt_div, e12]
  rcases hx with hx | hx
  · have h1 : 0 ≤ (1000000000000 : Int).tdiv x.toInt := Int.tdiv_nonneg (by decide) hx
    have h2 : (1000000000000 : Int).tdiv x.toInt ≤ 1000000000000 := Int.tdiv_le_self _ (by decide)
    rw [Int.bmod_eq_of_le (by show -9223372036854775808 ≤ _; omega) (by show _ < 9223372036854775808; omega)]
    exact h1
  · rw [hx]
    decide
theorem f_absL_sgn (a : Int64) : 0 ≤ (f_absL a).toInt ∨ (f_absL a).toInt = -9223372036854775808 := by
  unfold f_absL
  have hl := a.le_toInt
  have hu := a.toInt_lt
  have z : (0 : Int64).toInt = 0 := rfl
  by_cases h : lg_cmp a 0 < 0
  · rw [if_pos h]
    have h' := j_cl.mp h
    by_cases e : a.toInt = -9223372036854775808
    · right
      have : a = -9223372036854775808 := j_eq.mpr e
      rw [this]
      decide
    · left
      rw [Int64.toInt_neg, Int.bmod_eq_of_le (by show -9223372036854775808 ≤ _; omega) (by show _ < 9223372036854775808; omega)]
      omega
  · rw [if_neg h]
    have h' : ¬ a.toInt < (0 : Int64).toInt := fun q => h (j_cl.mpr q)
    left
    omega
theorem f_ti0 {a b : Int64} (hb : lg_cmp b 0 = 0) : f_ti a b = some (a * b) := by
  unfold f_ti
  by_cases h : lg_cmp a 0 = 0
  · rw [if_pos h]
  · rw [if_neg h, if_neg]
    have ha : f_absL a ≠ 0 := f_absL_nz (fun q => h (j_ce.mpr q))
    have h1 := f_divL (f_absL a) ha (f_absL_sgn a)
    rw [j_ce.mp hb, j_cg]
    have e : (f_absL 0).toInt = 0 := by decide
    omega
/-- the class's numbers of signs -/
def ckb (j : Nat) : Nat := if j = 3 then 28 else if j = 4 then 27 else j + 34
def f_re (T : Nat) (m : gs_M) (o : Option Int64) : gs_O := match o with
  | some v => gs_rJ v m
  | none => gs_rJ 0 (gs_sI m (T + 17) 4 1)
theorem f_re_b (T : Nat) (m : gs_M) (o : Option Int64) : gs_bJ (f_re T m o) gs_th (fun x m1 => gs_rJ x m1) = f_re T m o := by
  cases o <;> rfl
section VLS
variable {X : gs_E} {d : Nat} {m : gs_M} {T j k : Nat} {a b : Int64}
theorem x_within (h : gs_Sh m T) : gs_exec X (d + 1) 76 [.inr (.inr (T + 17)), .inr (.inl a)] m = f_re T m (f_wi a) := by
  rw [eq_X6_within]
  unfold f_wi
  by_cases h1 : 0 < lg_cmp a 1000000000000
  · rw [if_pos h1, if_pos h1, fl_t17 h]; rfl
  · rw [if_neg h1, if_neg h1]
    by_cases h2 : lg_cmp a (-1000000000000) < 0
    · rw [if_pos h2, if_pos h2, fl_t17 h]; rfl
    · rw [if_neg h2, if_neg h2]; rfl
theorem x_absL : gs_exec X (d + 1) 311 [.inr (.inl a)] m = gs_rJ (f_absL a) m := by rw [eq_J9_abs_067f4, gs_if_rJ]; rfl
theorem x_product (h : gs_Sh m T) : gs_exec X (d + 2) 77 [.inr (.inr (T + 17)), .inr (.inl a), .inr (.inl b)] m = f_re T m (f_ti a b) := by
  rw [eq_X6_product]
  unfold f_ti
  by_cases h1 : lg_cmp a 0 = 0
  · rw [if_pos h1, if_pos h1]; rfl
  · have ha : f_absL a ≠ 0 := f_absL_nz (fun q => h1 (j_ce.mpr q))
    rw [if_neg h1, if_neg h1, x_absL, gs_bJ_s, x_absL, gs_bJ_s, gs_nzL_n ha]
    by_cases h2 : 0 < lg_cmp (f_absL b) (1000000000000 / f_absL a)
    · rw [if_pos h2, if_pos h2, fl_t17 h]; rfl
    · rw [if_neg h2, if_neg h2]; rfl
theorem x_quotient (h : gs_Sh m T) : gs_exec X (d + 1) 78 [.inr (.inr (T + 17)), .inr (.inl a), .inr (.inl b)] m = f_re T m (if lg_cmp b 0 = 0 then none else some (a / b)) := by
  rw [eq_X6_quotient]
  by_cases h1 : lg_cmp b 0 = 0
  · rw [if_pos h1, if_pos h1, fl_t17 h]; rfl
  · rw [if_neg h1, if_neg h1, gs_nzL_n (fun q => h1 (j_ce.mpr q))]; rfl
theorem f_re_if (p : Prop) [Decidable p] (u v : Int64) : (if p then gs_rJ u m else gs_rJ v m) = f_re T m (some (if p then u else v)) := by split <;> rfl
theorem x_apply (h : gs_Sh m T) (h3 : 3 ≤ j) (h14 : j ≤ 14) : gs_exec X (d + 3) 75 [.inr (.inr (T + 17)), .inl (Int32.ofNat (ckb j)), .inr (.inl a), .inr (.inl b)] m = f_re T m (f_ap j a b) := by
  rw [eq_X6_apply]
  unfold f_ap
  rcases (show j = 3 ∨ j = 4 ∨ j = 5 ∨ j = 6 ∨ j = 7 ∨ j = 8 ∨ j = 9 ∨ j = 10 ∨ j = 11 ∨ j = 12 ∨ j = 13 ∨ j = 14 by omega) with rfl | rfl | rfl | rfl | rfl | rfl | rfl | rfl | rfl | rfl | rfl | rfl
  · rw [if_neg (show ¬ Int32.ofNat (ckb 3) = 27 by decide), if_pos (show Int32.ofNat (ckb 3) = 28 by decide), if_pos (show 3 = 3 from rfl)]
    by_cases u : lg_cmp a 0 = 0
    · rw [if_pos u, if_pos u]; rfl
    · rw [if_neg u, if_neg u]
      exact f_re_if _ _ _
  · rw [if_pos (show Int32.ofNat (ckb 4) = 27 by decide), if_neg (show ¬ 4 = 3 by decide), if_pos (show 4 = 4 from rfl)]
    by_cases u : lg_cmp a 0 = 0
    · rw [if_pos u, if_pos u]
      exact f_re_if _ _ _
    · rw [if_neg u, if_neg u]; rfl
  · rw [if_neg (show ¬ Int32.ofNat (ckb 5) = 27 by decide), if_neg (show ¬ Int32.ofNat (ckb 5) = 28 by decide), if_pos (show Int32.ofNat (ckb 5) = 39 by decide), if_neg (show ¬ 5 = 3 by decide), if_neg (show ¬ 5 = 4 by decide), if_pos (show 5 = 5 from rfl)]
    exact f_re_if _ _ _
  · rw [if_neg (show ¬ Int32.ofNat (ckb 6) = 27 by decide), if_neg (show ¬ Int32.ofNat (ckb 6) = 28 by decide), if_neg (show ¬ Int32.ofNat (ckb 6) = 39 by decide), if_pos (show Int32.ofNat (ckb 6) = 40 by decide), if_neg (show ¬ 6 = 3 by decide), if_neg (show ¬ 6 = 4 by decide), if_neg (show ¬ 6 = 5 by decide), if_pos (show 6 = 6 from rfl)]
    exact f_re_if _ _ _
  · rw [if_neg (show ¬ Int32.ofNat (ckb 7) = 27 by decide), if_neg (show ¬ Int32.ofNat (ckb 7) = 28 by decide), if_neg (show ¬ Int32.ofNat (ckb 7) = 39 by decide), if_neg (show ¬ Int32.ofNat (ckb 7) = 40 by decide), if_pos (show Int32.ofNat (ckb 7) = 41 by decide), if_neg (show ¬ 7 = 3 by decide), if_neg (show ¬ 7 = 4 by decide), if_neg (show ¬ 7 = 5 by decide), if_neg (show ¬ 7 = 6 by decide), if_pos (show 7 = 7 from rfl)]
    exact f_re_if _ _ _
  · rw [if_neg (show ¬ Int32.ofNat (ckb 8) = 27 by decide), if_neg (show ¬ Int32.ofNat (ckb 8) = 28 by decide), if_neg (show ¬ Int32.ofNat (ckb 8) = 39 by decide), if_neg (show ¬ Int32.ofNat (ckb 8) = 40 by decide), if_neg (show ¬ Int32.ofNat (ckb 8) = 41 by decide), if_pos (show Int32.ofNat (ckb 8) = 42 by decide), if_neg (show ¬ 8 = 3 by decide), if_neg (show ¬ 8 = 4 by decide), if_neg (show ¬ 8 = 5 by decide), if_neg (show ¬ 8 = 6 by decide), if_neg (show ¬ 8 = 7 by decide), if_pos (show 8 = 8 from rfl)]
    exact f_re_if _ _ _
  · rw [if_neg (show ¬ Int32.ofNat (ckb 9) = 27 by decide), if_neg (show ¬ Int32.ofNat (ckb 9) = 28 by decide), if_neg (show ¬ Int32.ofNat (ckb 9) = 39 by decide), if_neg (show ¬ Int32.ofNat (ckb 9) = 40 by decide), if_neg (show ¬ Int32.ofNat (ckb 9) = 41 by decide), if_neg (show ¬ Int32.ofNat (ckb 9) = 42 by decide), if_pos (show Int32.ofNat (ckb 9) = 43 by decide), if_neg (show ¬ 9 = 3 by decide), if_neg (show ¬ 9 = 4 by decide), if_neg (show ¬ 9 = 5 by decide), if_neg (show ¬ 9 = 6 by decide), if_neg (show ¬ 9 = 7 by decide), if_neg (show ¬ 9 = 8 by decide), if_pos (show 9 = 9 from rfl)]
    exact f_re_if _ _ _
  · rw [if_neg (show ¬ Int32.ofNat (ckb 10) = 27 by decide), if_neg (show ¬ Int32.ofNat (ckb 10) = 28 by decide), if_neg (show ¬ Int32.ofNat (ckb 10) = 39 by decide), if_neg (show ¬ Int32.ofNat (ckb 10) = 40 by decide), if_neg (show ¬ Int32.ofNat (ckb 10) = 41 by decide), if_neg (show ¬ Int32.ofNat (ckb 10) = 42 by decide), if_neg (show ¬ Int32.ofNat (ckb 10) = 43 by decide), if_pos (show Int32.ofNat (ckb 10) = 44 by decide), if_neg (show ¬ 10 = 3 by decide), if_neg (show ¬ 10 = 4 by decide), if_neg (show ¬ 10 = 5 by decide), if_neg (show ¬ 10 = 6 by decide), if_neg (show ¬ 10 = 7 by decide), if_neg (show ¬ 10 = 8 by decide), if_neg (show ¬ 10 = 9 by decide), if_pos (show 10 = 10 from rfl)]
    exact f_re_if _ _ _
  · rw [if_neg (show ¬ Int32.ofNat (ckb 11) = 27 by decide), if_neg (show ¬ Int32.ofNat (ckb 11) = 28 by decide), if_neg (show ¬ Int32.ofNat (ckb 11) = 39 by decide), if_neg (show ¬ Int32.ofNat (ckb 11) = 40 by decide), if_neg (show ¬ Int32.ofNat (ckb 11) = 41 by decide), if_neg (show ¬ Int32.ofNat (ckb 11) = 42 by decide), if_neg (show ¬ Int32.ofNat (ckb 11) = 43 by decide), if_neg (show ¬ Int32.ofNat (ckb 11) = 44 by decide), if_pos (show Int32.ofNat (ckb 11) = 45 by decide), if_neg (show ¬ 11 = 3 by decide), if_neg (show ¬ 11 = 4 by decide), if_neg (show ¬ 11 = 5 by decide), if_neg (show ¬ 11 = 6 by decide), if_neg (show ¬ 11 = 7 by decide), if_neg (show ¬ 11 = 8 by decide), if_neg (show ¬ 11 = 9 by decide), if_neg (show ¬ 11 = 10 by decide), if_pos (show 11 = 11 from rfl)]
    rw [fl_t17 h, x_within h, f_re_b]
  · rw [if_neg (show ¬ Int32.ofNat (ckb 12) = 27 by decide), if_neg (show ¬ Int32.ofNat (ckb 12) = 28 by decide), if_neg (show ¬ Int32.ofNat (ckb 12) = 39 by decide), if_neg (show ¬ Int32.ofNat (ckb 12) = 40 by decide), if_neg (show ¬ Int32.ofNat (ckb 12) = 41 by decide), if_neg (show ¬ Int32.ofNat (ckb 12) = 42 by decide), if_neg (show ¬ Int32.ofNat (ckb 12) = 43 by decide), if_neg (show ¬ Int32.ofNat (ckb 12) = 44 by decide), if_neg (show ¬ Int32.ofNat (ckb 12) = 45 by decide), if_pos (show Int32.ofNat (ckb 12) = 46 by decide), if_neg (show ¬ 12 = 3 by decide), if_neg (show ¬ 12 = 4 by decide), if_neg (show ¬ 12 = 5 by decide), if_neg (show ¬ 12 = 6 by decide), if_neg (show ¬ 12 = 7 by decide), if_neg (show ¬ 12 = 8 by decide), if_neg (show ¬ 12 = 9 by decide), if_neg (show ¬ 12 = 10 by decide), if_neg (show ¬ 12 = 11 by decide), if_pos (show 12 = 12 from rfl)]
    rw [fl_t17 h, x_within h, f_re_b]
  · rw [if_neg (show ¬ Int32.ofNat (ckb 13) = 27 by decide), if_neg (show ¬ Int32.ofNat (ckb 13) = 28 by decide), if_neg (show ¬ Int32.ofNat (ckb 13) = 39 by decide), if_neg (show ¬ Int32.ofNat (ckb 13) = 40 by decide), if_neg (show ¬ Int32.ofNat (ckb 13) = 41 by decide), if_neg (show ¬ Int32.ofNat (ckb 13) = 42 by decide), if_neg (show ¬ Int32.ofNat (ckb 13) = 43 by decide), if_neg (show ¬ Int32.ofNat (ckb 13) = 44 by decide), if_neg (show ¬ Int32.ofNat (ckb 13) = 45 by decide), if_neg (show ¬ Int32.ofNat (ckb 13) = 46 by decide), if_pos (show Int32.ofNat (ckb 13) = 47 by decide), if_neg (show ¬ 13 = 3 by decide), if_neg (show ¬ 13 = 4 by decide), if_neg (show ¬ 13 = 5 by decide), if_neg (show ¬ 13 = 6 by decide), if_neg (show ¬ 13 = 7 by decide), if_neg (show ¬ 13 = 8 by decide), if_neg (show ¬ 13 = 9 by decide), if_neg (show ¬ 13 = 10 by decide), if_neg (show ¬ 13 = 11 by decide), if_neg (show ¬ 13 = 12 by decide), if_pos (show 13 = 13 from rfl)]
    rw [fl_t17 h, x_product h, f_re_b]
  · rw [if_neg (show ¬ Int32.ofNat (ckb 14) = 27 by decide), if_neg (show ¬ Int32.ofNat (ckb 14) = 28 by decide), if_neg (show ¬ Int32.ofNat (ckb 14) = 39 by decide), if_neg (show ¬ Int32.ofNat (ckb 14) = 40 by decide), if_neg (show ¬ Int32.ofNat (ckb 14) = 41 by decide), if_neg (show ¬ Int32.ofNat (ckb 14) = 42 by decide), if_neg (show ¬ Int32.ofNat (ckb 14) = 43 by decide), if_neg (show ¬ Int32.ofNat (ckb 14) = 44 by decide), if_neg (show ¬ Int32.ofNat (ckb 14) = 45 by decide), if_neg (show ¬ Int32.ofNat (ckb 14) = 46 by decide), if_neg (show ¬ Int32.ofNat (ckb 14) = 47 by decide), if_neg (show ¬ 14 = 3 by decide), if_neg (show ¬ 14 = 4 by decide), if_neg (show ¬ 14 = 5 by decide), if_neg (show ¬ 14 = 6 by decide), if_neg (show ¬ 14 = 7 by decide), if_neg (show ¬ 14 = 8 by decide), if_neg (show ¬ 14 = 9 by decide), if_neg (show ¬ 14 = 10 by decide), if_neg (show ¬ 14 = 11 by decide), if_neg (show ¬ 14 = 12 by decide), if_neg (show ¬ 14 = 13 by decide)]
    rw [fl_t17 h, x_quotient h, f_re_b]
/-! the reference: while no error came -/
def r_re (m : gs_M) (o : Option Int64) : gs_O := match o with
  | some v => gs_rJ v m
  | none => gs_rJ 0 (gs_sI m 116 48 1)
theorem r_re_b (m : gs_M) (o : Option Int64) : gs_bJ (r_re m o) gs_th (fun x m1 => gs_rJ x m1) = r_re m o := by
  cases o <;> rfl
theorem r_bounded (h : gs_Sh m T) (he : m.2.1 116 48 = 0) : gs_exec X (d + 1) 222 [.inr (.inr 116), .inr (.inl a)] m = r_re m (f_wi a) := by
  have h1 : ∀ x : Int32, gs_Sh (gs_sI m 116 48 x) T := fun x => h
  rw [eq_X12_bounded, fl_116 h, he, if_pos rfl]
  unfold f_wi
  simp only [fl_116 h, fl_116 (h1 0), fl_116 (h1 1), gs_bt0, gs_bt1, gs_sIe, gs_sI_id he, he, if_pos (show (0 : Int32) = 0 from rfl), if_neg (show ¬ (1 : Int32) = 0 by decide)]
  by_cases h2 : 0 < lg_cmp a 1000000000000
  · rw [if_pos h2, if_pos h2]; rfl
  · rw [if_neg h2, if_neg h2]
    by_cases h3 : lg_cmp a (-1000000000000) < 0
    · rw [if_pos h3, if_pos h3]; rfl
    · rw [if_neg h3, if_neg h3]; rfl
theorem r_bounded1 (h : gs_Sh m T) (he : m.2.1 116 48 = 1) : gs_exec X (d + 1) 222 [.inr (.inr 116), .inr (.inl a)] m = gs_rJ 0 m := by
  rw [eq_X12_bounded, fl_116 h, he, if_neg (by decide), fl_116 h]
  simp only [gs_sI_id he, fl_116 h, gs_bt1, he, if_neg (show ¬ (1 : Int32) = 0 by decide)]
theorem r_compares (h5 : 5 ≤ j) (h10 : j ≤ 10) : ∃ v : Int32, gs_exec X (d + 1) 223 [.inl (Int32.ofNat j), .inr (.inl a), .inr (.inl b)] m = gs_rI v m ∧ (if v = 0 then gs_rJ 0 m else gs_rJ 1 m) = r_re m (f_ap j a b) := by
  rw [eq_X12_compares]
  unfold f_ap
  rcases (show j = 5 ∨ j = 6 ∨ j = 7 ∨ j = 8 ∨ j = 9 ∨ j = 10 by omega) with rfl | rfl | rfl | rfl | rfl | rfl
  · rw [if_pos (show Int32.ofNat 5 = 5 by decide), if_neg (show ¬ 5 = 3 by decide), if_neg (show ¬ 5 = 4 by decide), if_pos (show 5 = 5 from rfl)]
    by_cases u : lg_cmp a b < 0
    · rw [if_pos u, if_pos u]; exact ⟨1, rfl, rfl⟩
    · rw [if_neg u, if_neg u]; exact ⟨0, rfl, rfl⟩
  · rw [if_neg (show ¬ Int32.ofNat 6 = 5 by decide), if_pos (show Int32.ofNat 6 = 6 by decide), if_neg (show ¬ 6 = 3 by decide), if_neg (show ¬ 6 = 4 by decide), if_neg (show ¬ 6 = 5 by decide), if_pos (show 6 = 6 from rfl)]
    by_cases u : 0 < lg_cmp a b
    · rw [if_pos u, if_pos u]; exact ⟨0, rfl, rfl⟩
    · rw [if_neg u, if_neg u]; exact ⟨1, rfl, rfl⟩
  · rw [if_neg (show ¬ Int32.ofNat 7 = 5 by decide), if_neg (show ¬ Int32.ofNat 7 = 6 by decide), if_pos (show Int32.ofNat 7 = 7 by decide), if_neg (show ¬ 7 = 3 by decide), if_neg (show ¬ 7 = 4 by decide), if_neg (show ¬ 7 = 5 by decide), if_neg (show ¬ 7 = 6 by decide), if_pos (show 7 = 7 from rfl)]
    by_cases u : lg_cmp a b = 0
    · rw [if_pos u, if_pos u]; exact ⟨1, rfl, rfl⟩
    · rw [if_neg u, if_neg u]; exact ⟨0, rfl, rfl⟩
  · rw [if_neg (show ¬ Int32.ofNat 8 = 5 by decide), if_neg (show ¬ Int32.ofNat 8 = 6 by decide), if_neg (show ¬ Int32.ofNat 8 = 7 by decide), if_pos (show Int32.ofNat 8 = 8 by decide), if_neg (show ¬ 8 = 3 by decide), if_neg (show ¬ 8 = 4 by decide), if_neg (show ¬ 8 = 5 by decide), if_neg (show ¬ 8 = 6 by decide), if_neg (show ¬ 8 = 7 by decide), if_pos (show 8 = 8 from rfl)]
    by_cases u : lg_cmp a b = 0
    · rw [if_pos u, if_pos u]; exact ⟨0, rfl, rfl⟩
    · rw [if_neg u, if_neg u]; exact ⟨1, rfl, rfl⟩
  · rw [if_neg (show ¬ Int32.ofNat 9 = 5 by decide), if_neg (show ¬ Int32.ofNat 9 = 6 by decide), if_neg (show ¬ Int32.ofNat 9 = 7 by decide), if_neg (show ¬ Int32.ofNat 9 = 8 by decide), if_pos (show Int32.ofNat 9 = 9 by decide), if_neg (show ¬ 9 = 3 by decide), if_neg (show ¬ 9 = 4 by decide), if_neg (show ¬ 9 = 5 by decide), if_neg (show ¬ 9 = 6 by decide), if_neg (show ¬ 9 = 7 by decide), if_neg (show ¬ 9 = 8 by decide), if_pos (show 9 = 9 from rfl)]
    by_cases u : lg_cmp a b < 0
    · rw [if_pos u, if_pos u]; exact ⟨0, rfl, rfl⟩
    · rw [if_neg u, if_neg u]; exact ⟨1, rfl, rfl⟩
  · rw [if_neg (show ¬ Int32.ofNat 10 = 5 by decide), if_neg (show ¬ Int32.ofNat 10 = 6 by decide), if_neg (show ¬ Int32.ofNat 10 = 7 by decide), if_neg (show ¬ Int32.ofNat 10 = 8 by decide), if_neg (show ¬ Int32.ofNat 10 = 9 by decide), if_neg (show ¬ 10 = 3 by decide), if_neg (show ¬ 10 = 4 by decide), if_neg (show ¬ 10 = 5 by decide), if_neg (show ¬ 10 = 6 by decide), if_neg (show ¬ 10 = 7 by decide), if_neg (show ¬ 10 = 8 by decide), if_neg (show ¬ 10 = 9 by decide), if_pos (show 10 = 10 from rfl)]
    by_cases u : 0 < lg_cmp a b
    · rw [if_pos u, if_pos u]; exact ⟨1, rfl, rfl⟩
    · rw [if_neg u, if_neg u]; exact ⟨0, rfl, rfl⟩
theorem r_times49 {F : Nat} {s0 : Int32} (h : gs_Sh m T) (he : m.2.1 116 48 = 0) : gs_iter X (gs_exec X d) gT_X12_times (F + 1) 49 [(0, .inr (.inr 116)), (1, .inr (.inl a)), (3, .inr (.inl b))] [.inl s0] m = r_re m (if s0 = 0 then some (a * b) else none) := by
  have h1 : ∀ x : Int32, gs_Sh (gs_sI m 116 48 x) T := fun x => h
  rw [eq_X12_times_49, fl_116 h, he, if_pos rfl]
  simp only [fl_116 h, fl_116 (h1 0), fl_116 (h1 1), gs_bt0, gs_bt1, gs_sIe, gs_sI_id he, he, if_pos (show (0 : Int32) = 0 from rfl), if_neg (show ¬ (1 : Int32) = 0 by decide)]
  split <;> rfl
theorem r_times49e {F : Nat} {s0 : Int32} (h : gs_Sh m T) (he : m.2.1 116 48 = 1) : gs_iter X (gs_exec X d) gT_X12_times (F + 1) 49 [(0, .inr (.inr 116)), (1, .inr (.inl a)), (3, .inr (.inl b))] [.inl s0] m = gs_rJ 0 m := by
  rw [eq_X12_times_49, fl_116 h, he, if_neg (by decide), fl_116 h]
  simp only [gs_sI_id he, fl_116 h, gs_bt1, he, if_neg (show ¬ (1 : Int32) = 0 by decide)]
theorem r_times (hX : gs_Fu X) (h : gs_Sh m T) (he : m.2.1 116 48 = 0) : gs_exec X (d + 1) 224 [.inr (.inr 116), .inr (.inl a), .inr (.inl b)] m = r_re m (f_ti a b) := by
  obtain ⟨F, hF⟩ : ∃ z, X.1 = z + 1 := ⟨X.1 - 1, by unfold gs_Fu at hX; omega⟩
  rw [eq_X12_times, hF]
  by_cases h1 : lg_cmp a 0 = 0
  · rw [if_pos h1, r_times49 h he, if_pos rfl]
    unfold f_ti
    rw [if_pos h1]
  · rw [if_neg h1]
    by_cases h2 : lg_cmp b 0 = 0
    · rw [if_pos h2, r_times49 h he, if_pos rfl, f_ti0 h2]
    · rw [if_neg h2]
      have hz : f_absL a ≠ 0 := f_absL_nz (fun q => h1 (j_ce.mpr q))
      have e1 : ∀ s : Int32, (s = 0 ∨ s = 1) → gs_iter X (gs_exec X d) gT_X12_times (F + 1) 49 [(0, .inr (.inr 116)), (1, .inr (.inl a)), (3, .inr (.inl b))] [.inl s] m = r_re m (if s = 0 then some (a * b) else none) := fun s _ => r_times49 h he
      rw [e1 0 (Or.inl rfl), e1 1 (Or.inr rfl), if_pos (show (0 : Int32) = 0 from rfl), if_neg (show ¬ (1 : Int32) = 0 by decide)]
      unfold f_ti
      rw [if_neg h1]
      have key : (gs_nzL (f_absL a) (if 0 < lg_cmp (f_absL b) (1000000000000 / f_absL a) then r_re m none else r_re m (some (a * b)))) = r_re m (if 0 < lg_cmp (f_absL b) (1000000000000 / f_absL a) then none else some (a * b)) := by
        rw [gs_nzL_n hz]
        split <;> rfl
      rw [← key]
      unfold f_absL
      by_cases hb : lg_cmp b 0 < 0
      · simp only [if_pos hb]
        by_cases ha : lg_cmp a 0 < 0
        · simp only [if_pos ha]
        · simp only [if_neg ha]
      · simp only [if_neg hb]
        by_cases ha : lg_cmp a 0 < 0
        · simp only [if_pos ha]
        · simp only [if_neg ha]
theorem r_times1 (hX : gs_Fu X) (h : gs_Sh m T) (he : m.2.1 116 48 = 1) : gs_exec X (d + 1) 224 [.inr (.inr 116), .inr (.inl a), .inr (.inl b)] m = gs_rJ 0 m := by
  obtain ⟨F, hF⟩ : ∃ z, X.1 = z + 1 := ⟨X.1 - 1, by unfold gs_Fu at hX; omega⟩
  rw [eq_X12_times, hF]
  have e1 : ∀ s : Int32, (s = 0 ∨ s = 1) → gs_iter X (gs_exec X d) gT_X12_times (F + 1) 49 [(0, .inr (.inr 116)), (1, .inr (.inl a)), (3, .inr (.inl b))] [.inl s] m = gs_rJ 0 m := fun s _ => r_times49e h he
  rw [e1 0 (Or.inl rfl), e1 1 (Or.inr rfl)]
  by_cases h1 : lg_cmp a 0 = 0
  · rw [if_pos h1]
  · have hz : f_absL a ≠ 0 := f_absL_nz (fun q => h1 (j_ce.mpr q))
    unfold f_absL at hz
    rw [if_neg h1]
    by_cases h2 : lg_cmp b 0 = 0
    · rw [if_pos h2]
    · rw [if_neg h2]
      by_cases ha : lg_cmp a 0 < 0
      · rw [if_pos ha] at hz
        simp only [if_pos ha, gs_nzL_n hz, ite_self]
      · rw [if_neg ha] at hz
        simp only [if_neg ha, gs_nzL_n hz, ite_self]
end VLS
