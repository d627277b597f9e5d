/-! One round of the law's loop. -/
def gs_Q2 (X : gs_E) (d kc kr : Nat) (as : List gs_V) (m : gs_M) (Q : gs_M → Prop) : Prop := ∃ (v : Int32) (m1 m2 : gs_M), gs_exec X d kc (.inr (.inr 0) :: as) m = some (.inl (some (.inl v)), m1) ∧ gs_exec X d kr (.inr (.inr 116) :: as) m1 = some (.inl (some (.inl v)), m2) ∧ m1.1.1 = 153 ∧ Q m2
def gs_Q2L (X : gs_E) (d kc kr : Nat) (as : List gs_V) (m : gs_M) (Q : gs_M → Prop) : Prop := ∃ (v : Int64) (m1 m2 : gs_M), gs_exec X d kc (.inr (.inr 0) :: as) m = some (.inl (some (.inr (.inl v))), m1) ∧ gs_exec X d kr (.inr (.inr 116) :: as) m1 = some (.inl (some (.inr (.inl v))), m2) ∧ m1.1.1 = 153 ∧ Q m2
def gs_Q3 (X : gs_E) (d : Nat) (a b : Int32) (m : gs_M) (Q : gs_M → Prop) : Prop := ∃ (k w : Int32) (m1 m2 m3 : gs_M), gs_exec X d 318 [.inr (.inr 0), .inl a, .inl b, .inr (.inr 152)] m = some (.inl (some (.inl k)), m1) ∧ gs_exec X d 236 [.inr (.inr 116), .inl a, .inl b] m1 = some (.inl (some (.inl w)), m2) ∧ gs_exec X d 173 [.inr (.inr 116)] m2 = some (.inl (some (.inl k)), m3) ∧ (k = 0 → m3.2.2.1 152 0 = Int32.toInt64 w) ∧ m1.1.1 = 153 ∧ m2.1.1 = 153 ∧ m3.1.1 = 153 ∧ Q m3
theorem gs_fld0 {m : gs_M} {k : gs_O} (h : m.1.1 = 153) : gs_fld m 0 10 k = k := by
  unfold gs_fld
  rw [h]
  rfl
theorem gs_fld116 {m : gs_M} {k : gs_O} (h : m.1.1 = 153) : gs_fld m 116 11 k = k := by
  unfold gs_fld
  rw [h]
  rfl
theorem gs_ix152 {m : gs_M} {k : Nat → gs_O} (h : m.1.1 = 153) : gs_ix m 152 14 0 k = k 0 := by
  unfold gs_ix
  rw [h]
  rfl
theorem gs_cmp_self (x : Int64) : lg_cmp x x = 0 := by
  unfold lg_cmp
  simp
set_option maxHeartbeats 4000000 in
theorem gs_lawStep {X : gs_E} {d n : Nat} {i : Int32} {m : gs_M} {Q : gs_M → Prop} (hi0 : gs_in i X.2.1 = true) (hi1 : gs_in (i + (1 : Int32)) X.2.1 = true) (hi2 : gs_in (i + (2 : Int32)) X.2.1 = true) (hi3 : gs_in (i + (3 : Int32)) X.2.1 = true) (hi4 : gs_in (i + (4 : Int32)) X.2.1 = true) (hi5 : gs_in (i + (5 : Int32)) X.2.1 = true)
    (hlt : ¬ (Int32.ofNat X.2.1 - (6 : Int32)) < i) (hm : m.1.1 = 153) (hQ0 : Q m)
    (h0 : ∀ a b c e f : Int32, gs_Q2 X d 117 174 [.inl a, .inl b, .inl c, .inl e, .inl f] m Q)
    (h1 : ∀ a : Int32, gs_Q2 X d 118 210 [.inl a] m Q)
    (h2 : ∀ a : Int32, gs_Q2 X d 119 211 [.inl a] m Q)
    (h3 : ∀ a b : Int32, gs_Q2 X d 120 212 [.inl a, .inl b] m Q)
    (h4 : ∀ a b : Int32, gs_Q3 X d a b m Q)
    (h5 : ∀ a : Int32, gs_Q2 X d 122 240 [.inl a] m Q)
    (h6 : ∀ a : Int32, gs_Q2 X d 123 244 [.inl a] m Q)
    (h7 : ∀ a : Int32, gs_Q2 X d 124 246 [.inl a] m Q)
    (h8 : ∀ a b : Int32, gs_Q2 X d 125 248 [.inl a, .inl b] m Q)
    (h9 : ∀ a b c : Int32, gs_Q2 X d 126 255 [.inl a, .inl b, .inl c] m Q)
    (h10 : ∀ a : Int32, gs_Q2 X d 127 230 [.inl a] m Q)
    (h11 : ∀ a b : Int32, gs_Q2 X d 128 250 [.inl a, .inl b] m Q)
    (h12 : ∀ a b c : Int32, gs_Q2L X d 129 234 [.inl a, .inl b, .inl c] m Q)
    (h13 : ∀ a b : Int32, gs_Q2 X d 130 262 [.inl a, .inl b] m Q)
    (h14 : ∀ a b : Int32, gs_Q2 X d 131 265 [.inl a, .inl b] m Q)
    (h15 : ∀ a b : Int32, gs_Q2 X d 132 266 [.inl a, .inl b] m Q)
    (h16 : ∀ a : Int32, gs_Q2 X d 133 272 [.inl a] m Q)
    (h17 : ∀ a : Int32, gs_Q2 X d 134 273 [.inl a] m Q)
    (h18 : ∀ a b : Int32, gs_Q2 X d 135 275 [.inl a, .inl b] m Q)
    (h19 : ∀ a : Int32, gs_Q2 X d 136 276 [.inl a] m Q)
    (h20 : ∀ a : Int32, gs_Q2 X d 137 278 [.inl a] m Q)
    (h21 : ∀ a b : Int32, gs_Q2 X d 138 281 [.inl a, .inl b] m Q)
    (h22 : ∀ a : Int32, gs_Q2 X d 139 285 [.inl a] m Q)
    (h23 : ∀ a b : Int32, gs_Q2 X d 140 283 [.inl a, .inl b] m Q)
    (h24 : ∀ a b : Int32, gs_Q2L X d 141 286 [.inl a, .inl b] m Q)
    (h25 : ∀ a : Int32, gs_Q2 X d 142 289 [.inl a] m Q)
    (h26 : ∀ a b : Int32, gs_Q2L X d 143 295 [.inl a, .inl b] m Q)
    (h27 : ∀ a b : Int32, gs_Q2 X d 144 296 [.inl a, .inl b] m Q)
    (h28 : gs_Q2 X d 145 279 [] m Q)
    (h29 : ∀ a : Int32, gs_Q2 X d 146 291 [.inl a] m Q)
    (h30 : ∀ a b c e : Int32, gs_Q2L X d 147 292 [.inl a, .inl b, .inl c, .inl e] m Q)
    (h31 : ∀ a b : Int32, gs_Q2 X d 148 298 [.inl a, .inl b] m Q)
    (h32 : ∀ a : Int32, gs_Q2 X d 149 299 [.inl a] m Q)
    (h33 : ∀ a : Int32, gs_Q2 X d 150 300 [.inl a] m Q)
    (h34 : ∀ a : Int32, gs_Q2 X d 151 301 [.inl a] m Q)
    (h35 : ∀ a b : Int32, b = 0 ∨ b = 1 → gs_Q2 X d 152 302 [.inl a, .inl b] m Q)
    (h36 : gs_Q2 X d 153 303 [] m Q)
    (h37 : ∀ a b c : Int32, gs_Q2 X d 154 305 [.inl a, .inl b, .inl c] m Q)
    (h38 : ∀ a b : Int32, gs_Q2 X d 155 306 [.inl a, .inl b] m Q)
    (h39 : ∀ a : Int32, gs_Q2 X d 156 307 [.inl a] m Q) :
    ∃ m' : gs_M, Q m' ∧ gs_iter X (gs_exec X d) gT_L_law (n + 1) 23 [(0, .inr (.inr 100002)), (1, .inr (.inr 0)), (2, .inr (.inr 116)), (3, .inr (.inr 152)), (4, .inl i)] [] m = gs_iter X (gs_exec X d) gT_L_law n 23 [(0, .inr (.inr 100002)), (1, .inr (.inr 0)), (2, .inr (.inr 116)), (3, .inr (.inr 152)), (4, .inl (i + 6))] [] m' := by
  rw [eq_L_law_23]
  simp only [hi0, hi1, hi2, hi3, hi4, hi5, show Nat.beq 100002 100002 = true from rfl, Bool.and_self, cond_true, if_neg hlt]
  generalize X.2.2 (Int32.toNatClampNeg i) &&& (63 : Int32) = code
  by_cases q0 : code = 0
  · rw [if_pos q0]
    obtain ⟨v, m1, m2, e1, e2, g1, hQ⟩ := h0 (X.2.2 (Int32.toNatClampNeg (i + (1 : Int32)))) (X.2.2 (Int32.toNatClampNeg (i + (2 : Int32)))) (X.2.2 (Int32.toNatClampNeg (i + (3 : Int32)))) (X.2.2 (Int32.toNatClampNeg (i + (4 : Int32)))) (X.2.2 (Int32.toNatClampNeg (i + (5 : Int32))))
    refine ⟨m2, hQ, ?_⟩
    rw [gs_fld0 hm, e1]
    show gs_fld m1 116 11 _ = _
    rw [gs_fld116 g1, e2]
    show (if v = v then _ else _) = _
    rw [if_pos rfl]
  rw [if_neg q0]
  by_cases q1 : code = 1
  · rw [if_pos q1]
    obtain ⟨v, m1, m2, e1, e2, g1, hQ⟩ := h1 (X.2.2 (Int32.toNatClampNeg (i + (1 : Int32))))
    refine ⟨m2, hQ, ?_⟩
    rw [gs_fld0 hm, e1]
    show gs_fld m1 116 11 _ = _
    rw [gs_fld116 g1, e2]
    show (if v = v then _ else _) = _
    rw [if_pos rfl]
  rw [if_neg q1]
  by_cases q2 : code = 2
  · rw [if_pos q2]
    obtain ⟨v, m1, m2, e1, e2, g1, hQ⟩ := h2 (X.2.2 (Int32.toNatClampNeg (i + (1 : Int32))))
    refine ⟨m2, hQ, ?_⟩
    rw [gs_fld0 hm, e1]
    show gs_fld m1 116 11 _ = _
    rw [gs_fld116 g1, e2]
    show (if v = v then _ else _) = _
    rw [if_pos rfl]
  rw [if_neg q2]
  by_cases q3 : code = 3
  · rw [if_pos q3]
    obtain ⟨v, m1, m2, e1, e2, g1, hQ⟩ := h3 (X.2.2 (Int32.toNatClampNeg (i + (1 : Int32)))) (X.2.2 (Int32.toNatClampNeg (i + (2 : Int32))))
    refine ⟨m2, hQ, ?_⟩
    rw [gs_fld0 hm, e1]
    show gs_fld m1 116 11 _ = _
    rw [gs_fld116 g1, e2]
    show (if v = v then _ else _) = _
    rw [if_pos rfl]
  rw [if_neg q3]
  by_cases q4 : code = 4
  · rw [if_pos q4]
    obtain ⟨k, w, m1, m2, m3, e1, e2, e3, e4, g1, g2, g3, hQ⟩ := h4 (X.2.2 (Int32.toNatClampNeg (i + (1 : Int32)))) (X.2.2 (Int32.toNatClampNeg (i + (2 : Int32))))
    refine ⟨m3, hQ, ?_⟩
    rw [e1]
    show gs_fld m1 116 11 _ = _
    rw [gs_fld116 g1, e2]
    show gs_fld m2 116 11 _ = _
    rw [gs_fld116 g2, e3]
    show (if k = k then _ else _) = _
    rw [if_pos rfl]
    by_cases hk : k = 0
    · rw [if_pos hk, gs_ix152 g3, e4 hk, gs_cmp_self, if_pos rfl]
    · rw [if_neg hk]
  rw [if_neg q4]
  by_cases q5 : code = 5
  · rw [if_pos q5]
    obtain ⟨v, m1, m2, e1, e2, g1, hQ⟩ := h5 (X.2.2 (Int32.toNatClampNeg (i + (1 : Int32))))
    refine ⟨m2, hQ, ?_⟩
    rw [gs_fld0 hm, e1]
    show gs_fld m1 116 11 _ = _
    rw [gs_fld116 g1, e2]
    show (if v = v then _ else _) = _
    rw [if_pos rfl]
  rw [if_neg q5]
  by_cases q6 : code = 6
  · rw [if_pos q6]
    obtain ⟨v, m1, m2, e1, e2, g1, hQ⟩ := h6 (X.2.2 (Int32.toNatClampNeg (i + (1 : Int32))))
    refine ⟨m2, hQ, ?_⟩
    rw [gs_fld0 hm, e1]
    show gs_fld m1 116 11 _ = _
    rw [gs_fld116 g1, e2]
    show (if v = v then _ else _) = _
    rw [if_pos rfl]
  rw [if_neg q6]
  by_cases q7 : code = 7
  · rw [if_pos q7]
    obtain ⟨v, m1, m2, e1, e2, g1, hQ⟩ := h7 (X.2.2 (Int32.toNatClampNeg (i + (1 : Int32))))
    refine ⟨m2, hQ, ?_⟩
    rw [gs_fld0 hm, e1]
    show gs_fld m1 116 11 _ = _
    rw [gs_fld116 g1, e2]
    show (if v = v then _ else _) = _
    rw [if_pos rfl]
  rw [if_neg q7]
  by_cases q8 : code = 8
  · rw [if_pos q8]
    obtain ⟨v, m1, m2, e1, e2, g1, hQ⟩ := h8 (X.2.2 (Int32.toNatClampNeg (i + (1 : Int32)))) (X.2.2 (Int32.toNatClampNeg (i + (2 : Int32))))
    refine ⟨m2, hQ, ?_⟩
    rw [gs_fld0 hm, e1]
    show gs_fld m1 116 11 _ = _
    rw [gs_fld116 g1, e2]
    show (if v = v then _ else _) = _
    rw [if_pos rfl]
  rw [if_neg q8]
  by_cases q9 : code = 9
  · rw [if_pos q9]
    obtain ⟨v, m1, m2, e1, e2, g1, hQ⟩ := h9 (X.2.2 (Int32.toNatClampNeg (i + (1 : Int32)))) (X.2.2 (Int32.toNatClampNeg (i + (2 : Int32)))) (X.2.2 (Int32.toNatClampNeg (i + (3 : Int32))))
    refine ⟨m2, hQ, ?_⟩
    rw [gs_fld0 hm, e1]
    show gs_fld m1 116 11 _ = _
    rw [gs_fld116 g1, e2]
    show (if v = v then _ else _) = _
    rw [if_pos rfl]
  rw [if_neg q9]
  by_cases q10 : code = 10
  · rw [if_pos q10]
    obtain ⟨v, m1, m2, e1, e2, g1, hQ⟩ := h10 (X.2.2 (Int32.toNatClampNeg (i + (1 : Int32))))
    refine ⟨m2, hQ, ?_⟩
    rw [gs_fld0 hm, e1]
    show gs_fld m1 116 11 _ = _
    rw [gs_fld116 g1, e2]
    show (if v = v then _ else _) = _
    rw [if_pos rfl]
  rw [if_neg q10]
  by_cases q11 : code = 11
  · rw [if_pos q11]
    obtain ⟨v, m1, m2, e1, e2, g1, hQ⟩ := h11 (X.2.2 (Int32.toNatClampNeg (i + (1 : Int32)))) (X.2.2 (Int32.toNatClampNeg (i + (2 : Int32))))
    refine ⟨m2, hQ, ?_⟩
    rw [gs_fld0 hm, e1]
    show gs_fld m1 116 11 _ = _
    rw [gs_fld116 g1, e2]
    show (if v = v then _ else _) = _
    rw [if_pos rfl]
  rw [if_neg q11]
  by_cases q12 : code = 12
  · rw [if_pos q12]
    obtain ⟨v, m1, m2, e1, e2, g1, hQ⟩ := h12 (X.2.2 (Int32.toNatClampNeg (i + (1 : Int32)))) (X.2.2 (Int32.toNatClampNeg (i + (2 : Int32)))) (X.2.2 (Int32.toNatClampNeg (i + (3 : Int32))))
    refine ⟨m2, hQ, ?_⟩
    rw [gs_fld0 hm, e1]
    show gs_fld m1 116 11 _ = _
    rw [gs_fld116 g1, e2]
    show (if lg_cmp v v = 0 then _ else _) = _
    rw [gs_cmp_self, if_pos rfl]
  rw [if_neg q12]
  by_cases q13 : code = 13
  · rw [if_pos q13]
    obtain ⟨v, m1, m2, e1, e2, g1, hQ⟩ := h13 (X.2.2 (Int32.toNatClampNeg (i + (1 : Int32)))) (X.2.2 (Int32.toNatClampNeg (i + (2 : Int32))))
    refine ⟨m2, hQ, ?_⟩
    rw [gs_fld0 hm, e1]
    show gs_fld m1 116 11 _ = _
    rw [gs_fld116 g1, e2]
    show (if v = v then _ else _) = _
    rw [if_pos rfl]
  rw [if_neg q13]
  by_cases q14 : code = 14
  · rw [if_pos q14]
    obtain ⟨v, m1, m2, e1, e2, g1, hQ⟩ := h14 (X.2.2 (Int32.toNatClampNeg (i + (1 : Int32)))) (X.2.2 (Int32.toNatClampNeg (i + (2 : Int32))))
    refine ⟨m2, hQ, ?_⟩
    rw [gs_fld0 hm, e1]
    show gs_fld m1 116 11 _ = _
    rw [gs_fld116 g1, e2]
    show (if v = v then _ else _) = _
    rw [if_pos rfl]
  rw [if_neg q14]
  by_cases q15 : code = 15
  · rw [if_pos q15]
    obtain ⟨v, m1, m2, e1, e2, g1, hQ⟩ := h15 (X.2.2 (Int32.toNatClampNeg (i + (1 : Int32)))) (X.2.2 (Int32.toNatClampNeg (i + (2 : Int32))))
    refine ⟨m2, hQ, ?_⟩
    rw [gs_fld0 hm, e1]
    show gs_fld m1 116 11 _ = _
    rw [gs_fld116 g1, e2]
    show (if v = v then _ else _) = _
    rw [if_pos rfl]
  rw [if_neg q15]
  by_cases q16 : code = 16
  · rw [if_pos q16]
    obtain ⟨v, m1, m2, e1, e2, g1, hQ⟩ := h16 (X.2.2 (Int32.toNatClampNeg (i + (1 : Int32))))
    refine ⟨m2, hQ, ?_⟩
    rw [gs_fld0 hm, e1]
    show gs_fld m1 116 11 _ = _
    rw [gs_fld116 g1, e2]
    show (if v = v then _ else _) = _
    rw [if_pos rfl]
  rw [if_neg q16]
  by_cases q17 : code = 17
  · rw [if_pos q17]
    obtain ⟨v, m1, m2, e1, e2, g1, hQ⟩ := h17 (X.2.2 (Int32.toNatClampNeg (i + (1 : Int32))))
    refine ⟨m2, hQ, ?_⟩
    rw [gs_fld0 hm, e1]
    show gs_fld m1 116 11 _ = _
    rw [gs_fld116 g1, e2]
    show (if v = v then _ else _) = _
    rw [if_pos rfl]
  rw [if_neg q17]
  by_cases q18 : code = 18
  · rw [if_pos q18]
    obtain ⟨v, m1, m2, e1, e2, g1, hQ⟩ := h18 (X.2.2 (Int32.toNatClampNeg (i + (1 : Int32)))) (X.2.2 (Int32.toNatClampNeg (i + (2 : Int32))))
    refine ⟨m2, hQ, ?_⟩
    rw [gs_fld0 hm, e1]
    show gs_fld m1 116 11 _ = _
    rw [gs_fld116 g1, e2]
    show (if v = v then _ else _) = _
    rw [if_pos rfl]
  rw [if_neg q18]
  by_cases q19 : code = 19
  · rw [if_pos q19]
    obtain ⟨v, m1, m2, e1, e2, g1, hQ⟩ := h19 (X.2.2 (Int32.toNatClampNeg (i + (1 : Int32))))
    refine ⟨m2, hQ, ?_⟩
    rw [gs_fld0 hm, e1]
    show gs_fld m1 116 11 _ = _
    rw [gs_fld116 g1, e2]
    show (if v = v then _ else _) = _
    rw [if_pos rfl]
  rw [if_neg q19]
  by_cases q20 : code = 20
  · rw [if_pos q20]
    obtain ⟨v, m1, m2, e1, e2, g1, hQ⟩ := h20 (X.2.2 (Int32.toNatClampNeg (i + (1 : Int32))))
    refine ⟨m2, hQ, ?_⟩
    rw [gs_fld0 hm, e1]
    show gs_fld m1 116 11 _ = _
    rw [gs_fld116 g1, e2]
    show (if v = v then _ else _) = _
    rw [if_pos rfl]
  rw [if_neg q20]
  by_cases q21 : code = 21
  · rw [if_pos q21]
    obtain ⟨v, m1, m2, e1, e2, g1, hQ⟩ := h21 (X.2.2 (Int32.toNatClampNeg (i + (1 : Int32)))) (X.2.2 (Int32.toNatClampNeg (i + (2 : Int32))))
    refine ⟨m2, hQ, ?_⟩
    rw [gs_fld0 hm, e1]
    show gs_fld m1 116 11 _ = _
    rw [gs_fld116 g1, e2]
    show (if v = v then _ else _) = _
    rw [if_pos rfl]
  rw [if_neg q21]
  by_cases q22 : code = 22
  · rw [if_pos q22]
    obtain ⟨v, m1, m2, e1, e2, g1, hQ⟩ := h22 (X.2.2 (Int32.toNatClampNeg (i + (1 : Int32))))
    refine ⟨m2, hQ, ?_⟩
    rw [gs_fld0 hm, e1]
    show gs_fld m1 116 11 _ = _
    rw [gs_fld116 g1, e2]
    show (if v = v then _ else _) = _
    rw [if_pos rfl]
  rw [if_neg q22]
  by_cases q23 : code = 23
  · rw [if_pos q23]
    obtain ⟨v, m1, m2, e1, e2, g1, hQ⟩ := h23 (X.2.2 (Int32.toNatClampNeg (i + (1 : Int32)))) (X.2.2 (Int32.toNatClampNeg (i + (2 : Int32))))
    refine ⟨m2, hQ, ?_⟩
    rw [gs_fld0 hm, e1]
    show gs_fld m1 116 11 _ = _
    rw [gs_fld116 g1, e2]
    show (if v = v then _ else _) = _
    rw [if_pos rfl]
  rw [if_neg q23]
  by_cases q24 : code = 24
  · rw [if_pos q24]
    obtain ⟨v, m1, m2, e1, e2, g1, hQ⟩ := h24 (X.2.2 (Int32.toNatClampNeg (i + (1 : Int32)))) (X.2.2 (Int32.toNatClampNeg (i + (2 : Int32))))
    refine ⟨m2, hQ, ?_⟩
    rw [gs_fld0 hm, e1]
    show gs_fld m1 116 11 _ = _
    rw [gs_fld116 g1, e2]
    show (if lg_cmp v v = 0 then _ else _) = _
    rw [gs_cmp_self, if_pos rfl]
  rw [if_neg q24]
  by_cases q25 : code = 25
  · rw [if_pos q25]
    obtain ⟨v, m1, m2, e1, e2, g1, hQ⟩ := h25 (X.2.2 (Int32.toNatClampNeg (i + (1 : Int32))))
    refine ⟨m2, hQ, ?_⟩
    rw [gs_fld0 hm, e1]
    show gs_fld m1 116 11 _ = _
    rw [gs_fld116 g1, e2]
    show (if v = v then _ else _) = _
    rw [if_pos rfl]
  rw [if_neg q25]
  by_cases q26 : code = 26
  · rw [if_pos q26]
    obtain ⟨v, m1, m2, e1, e2, g1, hQ⟩ := h26 (X.2.2 (Int32.toNatClampNeg (i + (1 : Int32)))) (X.2.2 (Int32.toNatClampNeg (i + (2 : Int32))))
    refine ⟨m2, hQ, ?_⟩
    rw [gs_fld0 hm, e1]
    show gs_fld m1 116 11 _ = _
    rw [gs_fld116 g1, e2]
    show (if lg_cmp v v = 0 then _ else _) = _
    rw [gs_cmp_self, if_pos rfl]
  rw [if_neg q26]
  by_cases q27 : code = 27
  · rw [if_pos q27]
    obtain ⟨v, m1, m2, e1, e2, g1, hQ⟩ := h27 (X.2.2 (Int32.toNatClampNeg (i + (1 : Int32)))) (X.2.2 (Int32.toNatClampNeg (i + (2 : Int32))))
    refine ⟨m2, hQ, ?_⟩
    rw [gs_fld0 hm, e1]
    show gs_fld m1 116 11 _ = _
    rw [gs_fld116 g1, e2]
    show (if v = v then _ else _) = _
    rw [if_pos rfl]
  rw [if_neg q27]
  by_cases q28 : code = 28
  · rw [if_pos q28]
    obtain ⟨v, m1, m2, e1, e2, g1, hQ⟩ := h28 
    refine ⟨m2, hQ, ?_⟩
    rw [gs_fld0 hm, e1]
    show gs_fld m1 116 11 _ = _
    rw [gs_fld116 g1, e2]
    show (if v = v then _ else _) = _
    rw [if_pos rfl]
  rw [if_neg q28]
  by_cases q29 : code = 29
  · rw [if_pos q29]
    obtain ⟨v, m1, m2, e1, e2, g1, hQ⟩ := h29 (X.2.2 (Int32.toNatClampNeg (i + (1 : Int32))))
    refine ⟨m2, hQ, ?_⟩
    rw [gs_fld0 hm, e1]
    show gs_fld m1 116 11 _ = _
    rw [gs_fld116 g1, e2]
    show (if v = v then _ else _) = _
    rw [if_pos rfl]
  rw [if_neg q29]
  by_cases q30 : code = 30
  · rw [if_pos q30]
    obtain ⟨v, m1, m2, e1, e2, g1, hQ⟩ := h30 (X.2.2 (Int32.toNatClampNeg (i + (1 : Int32)))) (X.2.2 (Int32.toNatClampNeg (i + (2 : Int32)))) (X.2.2 (Int32.toNatClampNeg (i + (3 : Int32)))) (X.2.2 (Int32.toNatClampNeg (i + (4 : Int32))))
    refine ⟨m2, hQ, ?_⟩
    rw [gs_fld0 hm, e1]
    show gs_fld m1 116 11 _ = _
    rw [gs_fld116 g1, e2]
    show (if lg_cmp v v = 0 then _ else _) = _
    rw [gs_cmp_self, if_pos rfl]
  rw [if_neg q30]
  by_cases q31 : code = 31
  · rw [if_pos q31]
    obtain ⟨v, m1, m2, e1, e2, g1, hQ⟩ := h31 (X.2.2 (Int32.toNatClampNeg (i + (1 : Int32)))) (X.2.2 (Int32.toNatClampNeg (i + (2 : Int32))))
    refine ⟨m2, hQ, ?_⟩
    rw [gs_fld0 hm, e1]
    show gs_fld m1 116 11 _ = _
    rw [gs_fld116 g1, e2]
    show (if v = v then _ else _) = _
    rw [if_pos rfl]
  rw [if_neg q31]
  by_cases q32 : code = 32
  · rw [if_pos q32]
    obtain ⟨v, m1, m2, e1, e2, g1, hQ⟩ := h32 (X.2.2 (Int32.toNatClampNeg (i + (1 : Int32))))
    refine ⟨m2, hQ, ?_⟩
    rw [gs_fld0 hm, e1]
    show gs_fld m1 116 11 _ = _
    rw [gs_fld116 g1, e2]
    show (if v = v then _ else _) = _
    rw [if_pos rfl]
  rw [if_neg q32]
  by_cases q33 : code = 33
  · rw [if_pos q33]
    obtain ⟨v, m1, m2, e1, e2, g1, hQ⟩ := h33 (X.2.2 (Int32.toNatClampNeg (i + (1 : Int32))))
    refine ⟨m2, hQ, ?_⟩
    rw [gs_fld0 hm, e1]
    show gs_fld m1 116 11 _ = _
    rw [gs_fld116 g1, e2]
    show (if v = v then _ else _) = _
    rw [if_pos rfl]
  rw [if_neg q33]
  by_cases q34 : code = 34
  · rw [if_pos q34]
    obtain ⟨v, m1, m2, e1, e2, g1, hQ⟩ := h34 (X.2.2 (Int32.toNatClampNeg (i + (1 : Int32))))
    refine ⟨m2, hQ, ?_⟩
    rw [gs_fld0 hm, e1]
    show gs_fld m1 116 11 _ = _
    rw [gs_fld116 g1, e2]
    show (if v = v then _ else _) = _
    rw [if_pos rfl]
  rw [if_neg q34]
  by_cases q35 : code = 35
  · rw [if_pos q35]
    by_cases hb : X.2.2 (Int32.toNatClampNeg (i + (2 : Int32))) = 0
    · rw [if_pos hb]
      obtain ⟨v, m1, m2, e1, e2, g1, hQ⟩ := h35 (X.2.2 (Int32.toNatClampNeg (i + (1 : Int32)))) 0 (Or.inl rfl)
      refine ⟨m2, hQ, ?_⟩
      rw [gs_fld0 hm, e1]
      show (if X.2.2 (Int32.toNatClampNeg (i + (2 : Int32))) = 0 then gs_fld m1 116 11 _ else _) = _
      rw [if_pos hb, gs_fld116 g1, e2]
      show (if v = v then _ else _) = _
      rw [if_pos rfl]
    · rw [if_neg hb]
      obtain ⟨v, m1, m2, e1, e2, g1, hQ⟩ := h35 (X.2.2 (Int32.toNatClampNeg (i + (1 : Int32)))) 1 (Or.inr rfl)
      refine ⟨m2, hQ, ?_⟩
      rw [gs_fld0 hm, e1]
      show (if X.2.2 (Int32.toNatClampNeg (i + (2 : Int32))) = 0 then _ else gs_fld m1 116 11 _) = _
      rw [if_neg hb, gs_fld116 g1, e2]
      show (if v = v then _ else _) = _
      rw [if_pos rfl]
  rw [if_neg q35]
  by_cases q36 : code = 36
  · rw [if_pos q36]
    obtain ⟨v, m1, m2, e1, e2, g1, hQ⟩ := h36 
    refine ⟨m2, hQ, ?_⟩
    rw [gs_fld0 hm, e1]
    show gs_fld m1 116 11 _ = _
    rw [gs_fld116 g1, e2]
    show (if v = v then _ else _) = _
    rw [if_pos rfl]
  rw [if_neg q36]
  by_cases q37 : code = 37
  · rw [if_pos q37]
    obtain ⟨v, m1, m2, e1, e2, g1, hQ⟩ := h37 (X.2.2 (Int32.toNatClampNeg (i + (1 : Int32)))) (X.2.2 (Int32.toNatClampNeg (i + (2 : Int32)))) (X.2.2 (Int32.toNatClampNeg (i + (3 : Int32))))
    refine ⟨m2, hQ, ?_⟩
    rw [gs_fld0 hm, e1]
    show gs_fld m1 116 11 _ = _
    rw [gs_fld116 g1, e2]
    show (if v = v then _ else _) = _
    rw [if_pos rfl]
  rw [if_neg q37]
  by_cases q38 : code = 38
  · rw [if_pos q38]
    obtain ⟨v, m1, m2, e1, e2, g1, hQ⟩ := h38 (X.2.2 (Int32.toNatClampNeg (i + (1 : Int32)))) (X.2.2 (Int32.toNatClampNeg (i + (2 : Int32))))
    refine ⟨m2, hQ, ?_⟩
    rw [gs_fld0 hm, e1]
    show gs_fld m1 116 11 _ = _
    rw [gs_fld116 g1, e2]
    show (if v = v then _ else _) = _
    rw [if_pos rfl]
  rw [if_neg q38]
  by_cases q39 : code = 39
  · rw [if_pos q39]
    obtain ⟨v, m1, m2, e1, e2, g1, hQ⟩ := h39 (X.2.2 (Int32.toNatClampNeg (i + (1 : Int32))))
    refine ⟨m2, hQ, ?_⟩
    rw [gs_fld0 hm, e1]
    show gs_fld m1 116 11 _ = _
    rw [gs_fld116 g1, e2]
    show (if v = v then _ else _) = _
    rw [if_pos rfl]
  rw [if_neg q39]
  exact ⟨m, hQ0, rfl⟩
