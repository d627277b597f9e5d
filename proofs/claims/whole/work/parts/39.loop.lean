/-! The law's loop, and what is left: one round of calls. -/
def gs_Calls (X : gs_E) (d : Nat) (m : gs_M) (Q : gs_M → Prop) : Prop :=
  (∀ a b c e f : Int32, gs_Q2 X d 117 174 [.inl a, .inl b, .inl c, .inl e, .inl f] m Q) ∧
  (∀ a : Int32, gs_Q2 X d 118 210 [.inl a] m Q) ∧
  (∀ a : Int32, gs_Q2 X d 119 211 [.inl a] m Q) ∧
  (∀ a b : Int32, gs_Q2 X d 120 212 [.inl a, .inl b] m Q) ∧
  (∀ a b : Int32, gs_Q3 X d a b m Q) ∧
  (∀ a : Int32, gs_Q2 X d 122 240 [.inl a] m Q) ∧
  (∀ a : Int32, gs_Q2 X d 123 244 [.inl a] m Q) ∧
  (∀ a : Int32, gs_Q2 X d 124 246 [.inl a] m Q) ∧
  (∀ a b : Int32, gs_Q2 X d 125 248 [.inl a, .inl b] m Q) ∧
  (∀ a b c : Int32, gs_Q2 X d 126 255 [.inl a, .inl b, .inl c] m Q) ∧
  (∀ a : Int32, gs_Q2 X d 127 230 [.inl a] m Q) ∧
  (∀ a b : Int32, gs_Q2 X d 128 250 [.inl a, .inl b] m Q) ∧
  (∀ a b c : Int32, gs_Q2L X d 129 234 [.inl a, .inl b, .inl c] m Q) ∧
  (∀ a b : Int32, gs_Q2 X d 130 262 [.inl a, .inl b] m Q) ∧
  (∀ a b : Int32, gs_Q2 X d 131 265 [.inl a, .inl b] m Q) ∧
  (∀ a b : Int32, gs_Q2 X d 132 266 [.inl a, .inl b] m Q) ∧
  (∀ a : Int32, gs_Q2 X d 133 272 [.inl a] m Q) ∧
  (∀ a : Int32, gs_Q2 X d 134 273 [.inl a] m Q) ∧
  (∀ a b : Int32, gs_Q2 X d 135 275 [.inl a, .inl b] m Q) ∧
  (∀ a : Int32, gs_Q2 X d 136 276 [.inl a] m Q) ∧
  (∀ a : Int32, gs_Q2 X d 137 278 [.inl a] m Q) ∧
  (∀ a b : Int32, gs_Q2 X d 138 281 [.inl a, .inl b] m Q) ∧
  (∀ a : Int32, gs_Q2 X d 139 285 [.inl a] m Q) ∧
  (∀ a b : Int32, gs_Q2 X d 140 283 [.inl a, .inl b] m Q) ∧
  (∀ a b : Int32, gs_Q2L X d 141 286 [.inl a, .inl b] m Q) ∧
  (∀ a : Int32, gs_Q2 X d 142 289 [.inl a] m Q) ∧
  (∀ a b : Int32, gs_Q2L X d 143 295 [.inl a, .inl b] m Q) ∧
  (∀ a b : Int32, gs_Q2 X d 144 296 [.inl a, .inl b] m Q) ∧
  (gs_Q2 X d 145 279 [] m Q) ∧
  (∀ a : Int32, gs_Q2 X d 146 291 [.inl a] m Q) ∧
  (∀ a b c e : Int32, gs_Q2L X d 147 292 [.inl a, .inl b, .inl c, .inl e] m Q) ∧
  (∀ a b : Int32, gs_Q2 X d 148 298 [.inl a, .inl b] m Q) ∧
  (∀ a : Int32, gs_Q2 X d 149 299 [.inl a] m Q) ∧
  (∀ a : Int32, gs_Q2 X d 150 300 [.inl a] m Q) ∧
  (∀ a : Int32, gs_Q2 X d 151 301 [.inl a] m Q) ∧
  (∀ a b : Int32, b = 0 ∨ b = 1 → gs_Q2 X d 152 302 [.inl a, .inl b] m Q) ∧
  (gs_Q2 X d 153 303 [] m Q) ∧
  (∀ a b c : Int32, gs_Q2 X d 154 305 [.inl a, .inl b, .inl c] m Q) ∧
  (∀ a b : Int32, gs_Q2 X d 155 306 [.inl a, .inl b] m Q) ∧
  (∀ a : Int32, gs_Q2 X d 156 307 [.inl a] m Q)
theorem gs_n32 {a : Nat} (h : a < 2147483648) : (Int32.ofNat a).toInt = (a : Int) := by
  exact Int32.toInt_ofNat_of_lt (by omega)
theorem gs_in_n {a L : Nat} (h : a < L) (hL : L ≤ 3072) : gs_in (Int32.ofNat a) L = true := by
  have e := gs_n32 (a := a) (by omega)
  have h1 : ¬ (Int32.ofNat a < 0) := by
    rw [Int32.lt_iff_toInt_lt, e]
    simp
  have h2 : (Int32.ofNat a).toNatClampNeg = a := by
    show (Int32.ofNat a).toInt.toNat = a
    rw [e]
    rfl
  unfold gs_in
  rw [h2, decide_eq_false h1]
  have h3 : Nat.blt a L = true := Nat.ble_eq_true_of_le h
  rw [h3]
  rfl
theorem gs_lawLoop {X : gs_E} {d : Nat} {P : Nat → gs_M → Prop} (hL : X.2.1 ≤ 3072) (hP : ∀ t m, P t m → m.1.1 = 153) (hmono : ∀ t m, P t m → P (t + 1) m) (hc : ∀ t m, 6 * t + 6 ≤ X.2.1 → P t m → gs_Calls X d m (P (t + 1))) :
    ∀ (r t : Nat) (m : gs_M), P t m → 6 * t ≤ X.2.1 → X.2.1 < 6 * t + 6 + 6 * r → ∀ n, r < n → ∃ (m' : gs_M) (t' : Nat), 6 * t' ≤ X.2.1 ∧ P t' m' ∧ gs_iter X (gs_exec X d) gT_L_law n 23 [(0, .inr (.inr 100002)), (1, .inr (.inr 0)), (2, .inr (.inr 116)), (3, .inr (.inr 152)), (4, .inl (Int32.ofNat (6 * t)))] [] m = some (.inl (some (.inl 1)), m') := by
  have ex : ∀ (t : Nat) (m : gs_M) (n : Nat), P t m → 6 * t ≤ X.2.1 → X.2.1 < 6 * t + 6 → 0 < n → ∃ (m' : gs_M) (t' : Nat), 6 * t' ≤ X.2.1 ∧ P t' m' ∧ gs_iter X (gs_exec X d) gT_L_law n 23 [(0, .inr (.inr 100002)), (1, .inr (.inr 0)), (2, .inr (.inr 116)), (3, .inr (.inr 152)), (4, .inl (Int32.ofNat (6 * t)))] [] m = some (.inl (some (.inl 1)), m') := by
    intro t m n hp h6 hlt hn
    obtain ⟨n, rfl⟩ : ∃ k, n = k + 1 := ⟨n - 1, by omega⟩
    refine ⟨m, t, h6, hp, ?_⟩
    rw [eq_L_law_23]
    have h1 : (Int32.ofNat X.2.1 - (6 : Int32)) < Int32.ofNat (6 * t) := by
      rw [Int32.lt_iff_toInt_lt, gs_n32 (by omega)]
      have e : (Int32.ofNat X.2.1 - (6 : Int32)).toInt = (X.2.1 : Int) - 6 := by
        rw [Int32.toInt_sub, gs_n32 (by omega)]
        exact Int.bmod_eq_of_le (by show -2147483648 ≤ _ - (6 : Int); omega) (by show _ - (6 : Int) < 2147483648; omega)
      rw [e]
      omega
    rw [if_pos h1]
    rfl
  intro r
  induction r with
  | zero => intro t m hp h6 hlt n hn; exact ex t m n hp h6 (by omega) hn
  | succ r ih =>
    intro t m hp h6 hlt n hn
    rcases Nat.lt_or_ge X.2.1 (6 * t + 6) with h | h
    · exact ex t m n hp h6 h (by omega)
    · obtain ⟨n, rfl⟩ : ∃ k, n = k + 1 := ⟨n - 1, by omega⟩
      have add : ∀ k : Nat, k ≤ 6 → Int32.ofNat (6 * t) + Int32.ofNat k = Int32.ofNat (6 * t + k) := fun k _ => (Int32.ofNat_add _ _).symm
      have hin : ∀ k : Nat, k ≤ 5 → gs_in (Int32.ofNat (6 * t) + Int32.ofNat k) X.2.1 = true := fun k hk => by rw [add k (by omega)]; exact gs_in_n (by omega) hL
      have hge : ¬ (Int32.ofNat X.2.1 - (6 : Int32)) < Int32.ofNat (6 * t) := by
        rw [Int32.lt_iff_toInt_lt, gs_n32 (by omega)]
        have e : (Int32.ofNat X.2.1 - (6 : Int32)).toInt = (X.2.1 : Int) - 6 := by
          rw [Int32.toInt_sub, gs_n32 (by omega)]
          exact Int.bmod_eq_of_le (by show -2147483648 ≤ _ - (6 : Int); omega) (by show _ - (6 : Int) < 2147483648; omega)
        rw [e]
        omega
      obtain ⟨c0, c1, c2, c3, c4, c5, c6, c7, c8, c9, c10, c11, c12, c13, c14, c15, c16, c17, c18, c19, c20, c21, c22, c23, c24, c25, c26, c27, c28, c29, c30, c31, c32, c33, c34, c35, c36, c37, c38, c39⟩ := hc t m h hp
      obtain ⟨m', hq, e⟩ := gs_lawStep (n := n) (Q := P (t + 1)) (gs_in_n (a := 6 * t) (by omega) hL) (hin 1 (by omega)) (hin 2 (by omega)) (hin 3 (by omega)) (hin 4 (by omega)) (hin 5 (by omega)) hge (hP t m hp) (hmono t m hp) c0 c1 c2 c3 c4 c5 c6 c7 c8 c9 c10 c11 c12 c13 c14 c15 c16 c17 c18 c19 c20 c21 c22 c23 c24 c25 c26 c27 c28 c29 c30 c31 c32 c33 c34 c35 c36 c37 c38 c39
      rw [e]
      have e6 : Int32.ofNat (6 * t) + 6 = Int32.ofNat (6 * (t + 1)) := by
        rw [show 6 * (t + 1) = 6 * t + 6 by omega]
        exact add 6 (by omega)
      rw [e6]
      exact ih (t + 1) m' hq (by omega) (by omega) n (by omega)
theorem gs_nw1 (m : gs_M) (z : Nat) : (gs_nw m z).1 = (m.1.1 + 1, m.1.2.1, m.1.2.2 + z) := rfl
theorem gs_m1n0 {c1 c2 : gs_O} (h : gs_IniP c1 c2) : (gs_nw (gs_mem c2) 1).1.1 = 153 ∧ (gs_nw (gs_mem c2) 1).1.2.1 = 0 ∧ (gs_nw (gs_mem c2) 1).1.2.2 ≤ 7000001 := by
  obtain ⟨-, -, -, -, h5, h6, h7, -⟩ := h
  rw [gs_nw1]
  refine ⟨?_, h6, ?_⟩
  · show (gs_mem c2).1.1 + 1 = 153
    omega
  · exact Nat.succ_le_succ h7
theorem gs_m1n : gs_m1.1.1 = 153 ∧ gs_m1.1.2.1 = 0 ∧ gs_m1.1.2.2 ≤ 7000001 := gs_m1n0 gs_laid
theorem gs_lawIn0 {X : gs_E} {d : Nat} {c1 c2 : gs_M} (h1 : gs_exec X d 116 [.inr (.inr 0)] (gs_nw gs_m0 9) = some (.inl none, c1)) (n1 : c1.1.1 = 116) (g1 : c1.1.2.1 = 0) (h2 : gs_exec X d 172 [.inr (.inr 116)] (gs_nw c1 60) = some (.inl none, c2)) (n2 : c2.1.1 = 152) (g2 : c2.1.2.1 = 0) :
    gs_exec X (d + 1) 319 [.inr (.inr 100002)] gs_m0 = gs_iter X (gs_exec X d) gT_L_law X.1 23 [(0, .inr (.inr 100002)), (1, .inr (.inr 0)), (2, .inr (.inr 116)), (3, .inr (.inr 152)), (4, .inl 0)] [] (gs_nw c2 1) := by
  rw [eq_L_law]
  show gs_bU (gs_exec X d 116 [.inr (.inr 0)] (gs_nw gs_m0 9)) gs_nt _ = _
  rw [h1]
  show cond (Nat.beq c1.1.2.1 0 && Nat.beq (gs_kind (gs_pm c1.1.1)) 11) (gs_bU (gs_exec X d 172 [.inr (.inr (gs_pm c1.1.1))] (gs_nw c1 60)) gs_nt _) none = _
  rw [n1, g1]
  show gs_bU (gs_exec X d 172 [.inr (.inr 116)] (gs_nw c1 60)) gs_nt _ = _
  rw [h2]
  show cond (Nat.beq c2.1.2.1 0 && Nat.beq (gs_kind (gs_pm c2.1.1)) 14 && !(decide ((1 : Int32) < 0)) && Nat.beq (Int32.toNatClampNeg (1 : Int32)) (gs_len (gs_pm c2.1.1))) _ none = _
  rw [n2, g2]
  rfl
theorem gs_lawIn1 {X : gs_E} {d : Nat} {c1 c2 : gs_O} (h : gs_IniP c1 c2) (e1 : gs_exec X d 116 [.inr (.inr 0)] (gs_nw gs_m0 9) = c1) (e2 : gs_exec X d 172 [.inr (.inr 116)] (gs_nw (gs_mem c1) 60) = c2) :
    gs_exec X (d + 1) 319 [.inr (.inr 100002)] gs_m0 = gs_iter X (gs_exec X d) gT_L_law X.1 23 [(0, .inr (.inr 100002)), (1, .inr (.inr 0)), (2, .inr (.inr 116)), (3, .inr (.inr 152)), (4, .inl 0)] [] (gs_nw (gs_mem c2) 1) := by
  obtain ⟨h1, h2, h3, h4, h5, h6, -⟩ := h
  exact gs_lawIn0 (e1.trans h1) h2 h3 (e2.trans h4) h5 h6
theorem gs_lawIn (L : Nat) (xs : Nat → Int32) : gs_exec (1000000, L, xs) 40 319 [.inr (.inr 100002)] gs_m0 = gs_iter (1000000, L, xs) (gs_exec (1000000, L, xs) 39) gT_L_law 1000000 23 [(0, .inr (.inr 100002)), (1, .inr (.inr 0)), (2, .inr (.inr 116)), (3, .inr (.inr 152)), (4, .inl 0)] [] gs_m1 := by
  have hf : ((1000000, L, xs) : gs_E).1 = gs_X0.1 := Eq.refl (1000000 : Nat)
  have e1 : gs_exec (1000000, L, xs) 39 116 = gs_exec gs_X0 39 116 := gs_exec_X (X := (1000000, L, xs)) (X' := gs_X0) hf 39 116 (by decide)
  have e2 : gs_exec (1000000, L, xs) 39 172 = gs_exec gs_X0 39 172 := gs_exec_X (X := (1000000, L, xs)) (X' := gs_X0) hf 39 172 (by decide)
  have f1 : gs_exec (1000000, L, xs) 39 116 [.inr (.inr 0)] (gs_nw gs_m0 9) = gs_c1 := by
    rw [e1, gs_c1]
  have f2 : gs_exec (1000000, L, xs) 39 172 [.inr (.inr 116)] (gs_nw (gs_mem gs_c1) 60) = gs_c2 := by
    rw [e2, gs_c2]
  rw [gs_m1]
  exact gs_lawIn1 (X := (1000000, L, xs)) (d := 39) gs_laid f1 f2
/-- the pure fact of all scripts of at most N ints, out of one round of calls -/
theorem gs_pureOf {N : Nat} (hN : N ≤ 3072) (P : Nat → Nat → (Nat → Int32) → gs_M → Prop) (h0 : ∀ L xs, L ≤ N → P 0 L xs gs_m1) (hP : ∀ t L xs m, L ≤ N → P t L xs m → m.1.1 = 153 ∧ m.1.2.1 ≤ t ∧ m.1.2.2 ≤ 7000001 + 6 * t) (hmono : ∀ t L xs m, L ≤ N → P t L xs m → P (t + 1) L xs m)
    (hc : ∀ t L xs m, L ≤ N → 6 * t + 6 ≤ L → P t L xs m → gs_Calls (1000000, L, xs) 39 m (P (t + 1) L xs)) :
    ∀ (L : Nat) (xs : Nat → Int32), L ≤ N → ∃ (F d : Nat) (r : gs_R × gs_M), d ≤ 1300 ∧ gs_exec (F, L, xs) (d + 1) 319 [.inr (.inr 100002)] gs_m0 = some r ∧ r.1 = .inl (some (.inl 1)) ∧ gs_us r.2 ≤ 601024 ∧ r.2.1.2.2 ≤ 7293034 := by
  intro L xs hL
  obtain ⟨m', t', h6, hp, e⟩ := gs_lawLoop (X := (1000000, L, xs)) (d := 39) (P := fun t m => P t L xs m) (show L ≤ 3072 by omega) (fun t m h => (hP t L xs m hL h).1) (fun t m h => hmono t L xs m hL h) (fun t m h hp => hc t L xs m hL h hp) (L / 6) 0 gs_m1 (h0 L xs hL) (by omega) (by show L < 6 * 0 + 6 + 6 * (L / 6); omega) 1000000 (by omega)
  have h6 : 6 * t' ≤ L := h6
  obtain ⟨g1, g2, g3⟩ := hP t' L xs m' hL hp
  refine ⟨1000000, 39, (.inl (some (.inl 1)), m'), by decide, ?_, rfl, ?_, ?_⟩
  · exact (gs_lawIn L xs).trans e
  · show m'.1.1 + m'.1.2.1 ≤ 601024
    omega
  · show m'.1.2.2 ≤ 7293034
    omega
