/-! Numbers and names, read by both sides. -/
theorem find_cases {f : Nat → Int32} {x : Int32} : ∀ r k, f_find f x r k = -1 ∨ ∃ i, i < k + r ∧ f_find f x r k = Int32.ofNat i
  | 0, _ => Or.inl rfl
  | r + 1, k => by
    have e : f_find f x (r + 1) k = if f k = x then Int32.ofNat k else f_find f x r (k + 1) := rfl
    rw [e]
    by_cases z : f k = x
    · rw [if_pos z]
      exact Or.inr ⟨k, by omega, rfl⟩
    · rw [if_neg z]
      rcases find_cases (f := f) (x := x) r (k + 1) with h | ⟨i, hi, h⟩
      · exact Or.inl h
      · exact Or.inr ⟨i, by omega, h⟩
theorem rk_key (v : Nat) : ∀ k, k < 32 → ∀ c, c < 49 → ((rk c = 1 ∧ rvl c v = pmo k) ↔ c = k) := by
  have h1 : ∀ c, c < 49 → (rk c = 1 ↔ c < 32) := by decide
  have h2 : ∀ k, k < 32 → ∀ c, c < 32 → (pmo c = pmo k ↔ c = k) := by decide +kernel
  intro k hk c hc
  constructor
  · rintro ⟨a, b⟩
    have l := (h1 c hc).mp a
    have e : rvl c v = pmo c := by
      unfold rvl
      rw [if_pos l]
    exact (h2 k hk c l).mp (e ▸ b)
  · intro e
    subst e
    refine ⟨(h1 c hc).mpr hk, ?_⟩
    unfold rvl
    rw [if_pos hk]
def sgc (k : Nat) : Nat := if k = 36 then 59 else if k = 37 then 40 else if k = 38 then 41 else if k = 45 then 43 else if k = 46 then 45 else if k = 47 then 42 else 47
theorem rk_sgn (v : Nat) : ∀ k, (k = 36 ∨ k = 37 ∨ k = 38 ∨ k = 45 ∨ k = 46 ∨ k = 47 ∨ k = 48) → ∀ c, c < 49 → ((rk c = 4 ∧ rvl c v = sgc k) ↔ c = k) := by
  have h1 : ∀ c, c < 49 → rk c = 4 → (36 ≤ c ∧ c ≤ 38) ∨ 45 ≤ c := by decide
  have h2 : ∀ c, c < 49 → ((36 ≤ c ∧ c ≤ 38) ∨ 45 ≤ c) → rk c = 4 ∧ rvl c 0 = sgc c := by decide
  have h3 : ∀ c, c < 49 → ∀ k, k < 49 → (((36 ≤ c ∧ c ≤ 38) ∨ 45 ≤ c) ∧ ((36 ≤ k ∧ k ≤ 38) ∨ 45 ≤ k) ∧ sgc c = sgc k) → c = k := by decide +kernel
  have h4 : ∀ c, (36 ≤ c ∧ c ≤ 38) ∨ 45 ≤ c → rvl c v = rvl c 0 := fun c hc => by
    unfold rvl
    rw [if_neg (show ¬ c < 32 by omega), if_neg (show ¬ c = 32 by omega), if_neg (show ¬ c = 33 by omega), if_neg (show ¬ c < 32 by omega), if_neg (show ¬ c = 32 by omega), if_neg (show ¬ c = 33 by omega)]
  intro k hk c hc
  have k1 : (36 ≤ k ∧ k ≤ 38) ∨ 45 ≤ k := by omega
  constructor
  · rintro ⟨a, b⟩
    have r := h1 c hc a
    rw [h4 c r, (h2 c hc r).2] at b
    exact h3 c hc k (by omega) ⟨r, k1, b⟩
  · intro e
    subst e
    rw [h4 c k1]
    exact h2 c hc k1
theorem rk_lt : ∀ c, c < 49 → rk c < 7 := by decide
theorem rvl_b {c v : Nat} (hc : c < 49) (h : c ≠ 32) (h2 : c ≠ 33) : rvl c v < 100 := by
  unfold rvl
  by_cases z : c < 32
  · rw [if_pos z]
    have := pm_lt c z
    omega
  · rw [if_neg z, if_neg h, if_neg h2]
    repeat' split
    all_goals omega
section PR
variable {X : gs_E} {d d' T S TR L : Nat} {by_ : Nat → Nat} {m0 r0 mx mr : gs_M} {A B : Nat → Nat → Int32} {c1 c2 E : Nat → Int32} {c v p q : Nat} {Q Q' : gs_M → gs_M → Prop}
theorem tk_v {mx mr : gs_M} (k : gs_TK mx mr L c v p q) (h : c = 32 ∨ c = 33) : v < 2147483648 := by
  obtain ⟨k1, k2, k3, k4, k5, k6, -⟩ := k
  rcases h with h | h
  · have := (k5 h).2
    omega
  · have := (k6 h).2
    omega
theorem r_isKey {a : Int32} {k : Nat} (sr : gs_Sh mr T) (t : gs_TK mx mr L c v p q) (hk : k < 32) (ea : a = Int32.ofNat (pmo k)) : gs_exec X (d + 1) 185 [.inr (.inr 116), .inl a] mr = gs_rI (b2 (c = k)) mr := by
  have tv := tk_v t
  have key := rk_key v k hk c t.1
  obtain ⟨k1, k2, k3, k4, k5, k6, k7, k8, -⟩ := t
  have l1 := rk_lt c k1
  have e1 : Int32.ofNat (rk c) = (1 : Int32) ↔ rk c = 1 := n_eq (b := 1) (by omega) (by decide)
  have pl := pm_lt k hk
  unfold b2
  rw [eq_X12_isKey, fl_116 sr, k7]
  by_cases z : rk c = 1
  · have h32 : c ≠ 32 := fun e => by subst e; exact absurd z (by decide)
    have h33 : c ≠ 33 := fun e => by subst e; exact absurd z (by decide)
    have h34 : c ≠ 34 := fun e => by subst e; exact absurd z (by decide)
    have h35 : c ≠ 35 := fun e => by subst e; exact absurd z (by decide)
    have bd := rvl_b (v := v) k1 h32 h33
    have e2 : Int32.ofNat (rvl c v) = Int32.ofNat (pmo k) ↔ rvl c v = pmo k := n_eq (by omega) (by omega)
    rw [if_pos (e1.mpr z), fl_116 sr, k8 h34 h35, ea]
    by_cases y : rvl c v = pmo k
    · rw [if_pos (e2.mpr y), if_pos (key.mp ⟨z, y⟩), gs_bt1]
    · rw [if_neg (fun w => y (e2.mp w)), if_neg (fun w => y (key.mpr w).2), gs_bt0]
  · rw [if_neg (fun w => z (e1.mp w)), if_neg (fun w => z (key.mpr w).1), gs_bt0]
theorem r_isSign {a : Int32} {k : Nat} (sr : gs_Sh mr T) (t : gs_TK mx mr L c v p q) (hk : k = 36 ∨ k = 37 ∨ k = 38 ∨ k = 45 ∨ k = 46 ∨ k = 47 ∨ k = 48) (ea : a = Int32.ofNat (sgc k)) : gs_exec X (d + 1) 186 [.inr (.inr 116), .inl a] mr = gs_rI (b2 (c = k)) mr := by
  have key := rk_sgn v k hk c t.1
  obtain ⟨k1, k2, k3, k4, k5, k6, k7, k8, -⟩ := t
  have l1 := rk_lt c k1
  have e1 : Int32.ofNat (rk c) = (4 : Int32) ↔ rk c = 4 := n_eq (b := 4) (by omega) (by decide)
  have sl : sgc k < 100 := by
    rcases hk with h | h | h | h | h | h | h <;> (subst h; decide)
  unfold b2
  rw [eq_X12_isSign, fl_116 sr, k7]
  by_cases z : rk c = 4
  · have h32 : c ≠ 32 := fun e => by subst e; exact absurd z (by decide)
    have h33 : c ≠ 33 := fun e => by subst e; exact absurd z (by decide)
    have h34 : c ≠ 34 := fun e => by subst e; exact absurd z (by decide)
    have h35 : c ≠ 35 := fun e => by subst e; exact absurd z (by decide)
    have bd := rvl_b (v := v) k1 h32 h33
    have e2 : Int32.ofNat (rvl c v) = Int32.ofNat (sgc k) ↔ rvl c v = sgc k := n_eq (by omega) (by omega)
    rw [if_pos (e1.mpr z), fl_116 sr, k8 h34 h35, ea]
    by_cases y : rvl c v = sgc k
    · rw [if_pos (e2.mpr y), if_pos (key.mp ⟨z, y⟩), gs_bt1]
    · rw [if_neg (fun w => y (e2.mp w)), if_neg (fun w => y (key.mpr w).2), gs_bt0]
  · rw [if_neg (fun w => z (e1.mp w)), if_neg (fun w => z (key.mpr w).1), gs_bt0]
theorem j_number {a b : Int32} {lo hi : Nat} {Kx Kr : Int32 → gs_M → gs_O} (cx : gs_Cn X T S TR L by_ m0 r0) (st : gs_Sg S L m0 r0 A B c1 c2 E mx mr c v p q) (ea : a = Int32.ofNat lo) (eb : b = Int32.ofNat hi) (bl : lo ≤ 10000) (bh : hi ≤ 9999) (h0 : ∀ m, Kr 0 m = gs_rI 0 m)
    (hk : ∀ w mx' mr' c' v' p' q', lo ≤ w → w ≤ hi → p < p' → gs_Sg S L m0 r0 A B c1 c2 (upf E 11 (Int32.ofNat w)) mx' mr' c' v' p' q' → gs_jQ S m0 r0 Q (Kx (Int32.ofNat w) mx') (Kr 1 mr')) :
    gs_jQ S m0 r0 Q (gs_bI (gs_exec X (d + 4) 45 [.inr (.inr 1), .inl a, .inl b] mx) gs_th Kx) (gs_bI (gs_exec X (d' + 3) 187 [.inr (.inr 116), .inl a, .inl b] mr) gs_th Kr) := by
  have sx := st_sx cx st
  have sr := st_sr cx st
  have t := st.2.2.2.2.2.2.2
  obtain ⟨k1, k2, k3, k4, k5, k6, k7, k8, k9, k10, k11, k12, k13, k14⟩ := t
  have l1 := rk_lt c k1
  have ec : Int32.ofNat c = (33 : Int32) ↔ c = 33 := n_eq (b := 33) (by omega) (by decide)
  have er : Int32.ofNat (rk c) = (3 : Int32) ↔ rk c = 3 := n_eq (b := 3) (by omega) (by decide)
  have cr : ∀ c, c < 49 → (rk c = 3 ↔ c = 33) := by decide
  rw [eq_X5_number, eq_X12_number]
  simp only [yf1 sx, yf3 sx, y_18 sx, gs_nn_s, fl_116 sr, k2, k7]
  by_cases z : c = 33
  · subst z
    obtain ⟨k7v, vb⟩ := k6 rfl
    have k9v := k8 (by decide) (by decide)
    have er9 : rvl 33 v = v := rfl
    rw [er9] at k9v
    have cb : cv4 v ≤ 10000 := Nat.min_le_left _ _
    have la : Int32.ofNat (cv4 v) < a ↔ v < lo := by
      rw [ea, gs_nlt (by omega) (by omega)]
      unfold cv4
      omega
    have lb : b < Int32.ofNat (cv4 v) ↔ hi < v := by
      rw [eb, gs_nlt (by omega) (by omega)]
      unfold cv4
      omega
    have ra : Int32.ofNat v < a ↔ v < lo := by rw [ea, gs_nlt (by omega) (by omega)]
    have rb : b < Int32.ofNat v ↔ hi < v := by rw [eb, gs_nlt (by omega) (by omega)]
    rw [if_pos (ec.mpr rfl), if_pos (er.mpr rfl), k7v, k9v, eq_X12_isIn]
    by_cases y1 : v < lo
    · rw [if_pos (la.mpr y1), if_pos (ra.mpr y1), gs_bt0, gs_bI_s, if_pos rfl, fl_116 sr, bI_bU, bI_bI]
      exact jfail cx st h0
    by_cases y2 : hi < v
    · rw [if_neg (fun w => y1 (la.mp w)), if_pos (lb.mpr y2), if_neg (fun w => y1 (ra.mp w)), if_pos (rb.mpr y2), gs_bt0, gs_bI_s, if_pos rfl, fl_116 sr, bI_bU, bI_bI]
      exact jfail cx st h0
    have ev : cv4 v = v := by
      unfold cv4
      omega
    rw [if_neg (fun w => y1 (la.mp w)), if_neg (fun w => y2 (lb.mp w)), if_neg (fun w => y1 (ra.mp w)), if_neg (fun w => y2 (rb.mp w)), gs_bt1, gs_bI_s, if_neg (by decide), fl_116 sr, fl_116 sr, bI_bU, ev, k9v]
    have st2 : gs_Sg S L m0 r0 A B c1 c2 (upf E 11 (Int32.ofNat v)) mx (gs_sI mr 116 11 (Int32.ofNat v)) 33 v p q := st_we st (Or.inl ⟨rfl, by omega⟩) (by omega)
    show gs_jQ S m0 r0 Q _ (gs_bI (gs_fld (gs_sI mr 116 11 (Int32.ofNat v)) 116 11 (gs_bU (gs_exec X (d' + 2) 182 [.inr (.inr 116)] (gs_sI mr 116 11 (Int32.ofNat v))) gs_th (fun m6 => gs_bt (1 : Int32) (gs_rI (1 : Int32) m6)))) gs_th Kr)
    rw [gs_fld_sI, fl_116 sr, bI_bU]
    have pq := k14 (by decide)
    exact jadv cx st2 (fun mx' mr' c' v' p' q' le s => hk v mx' mr' c' v' p' q' (by omega) (by omega) (by omega) s)
  · rw [if_neg (fun w => z (ec.mp w)), if_neg (fun w => z ((cr c k1).mp (er.mp w))), bI_bU, bI_bI]
    exact jfail cx st h0
theorem j_newName {o o' b off n : Nat} {w1 w2 : Int32} {Kx Kr : Int32 → gs_M → gs_O} (cx : gs_Cn X T S TR L by_ m0 r0) (st : gs_Sg S L m0 r0 A B c1 c2 E mx mr c v p q)
    (hF : ∀ k : gs_O, gs_fld mx (S + o) 3 k = k) (hL : mx.2.2.2 (S + o) 0 = some (S + o')) (hx : ∀ k, k < n → ∀ K : Nat → gs_O, gs_ix mx (S + o') 13 (Int32.ofNat k) K = K k) (hn : A o 3 = Int32.ofNat n) (hnn : n < 20) (ho : off < 20)
    (hr : ∀ k, k ≤ n → ∀ K : Nat → gs_O, gs_ix mr (119 + b) 13 (Int32.ofNat (off + k)) K = K (off + k)) (hs : rsVb (119 + b) (off + n)) (hAB : ∀ k, k < n → A o' k = B b (off + k)) (e1 : w1 = Int32.ofNat off) (e2 : w2 = Int32.ofNat n) (h0 : ∀ m, Kr 0 m = gs_rI 0 m)
    (hk : ∀ mx' mr' c' v' p' q', p < p' → gs_Sg S L m0 r0 A (gs_up2 B b (off + n) (Int32.ofNat v)) c1 c2 E mx' mr' c' v' p' q' → gs_jQ S m0 r0 Q (Kx (Int32.ofNat v) mx') (Kr 1 mr')) :
    gs_jQ S m0 r0 Q (gs_bI (gs_exec X (d + 4) 46 [.inr (.inr 1), .inr (.inr (S + o))] mx) gs_th Kx) (gs_bI (gs_exec X (d' + 3) 192 [.inr (.inr 116), .inr (.inr (119 + b)), .inl w1, .inl w2] mr) gs_th Kr) := by
  have sx := st_sx cx st
  have sr := st_sr cx st
  have fA := st.2.2.1
  have fB := st.2.2.2.1
  have t := st.2.2.2.2.2.2.2
  obtain ⟨k1, k2, k3, k4, k5, k6, k7, k8, k9, k10, k11, k12, k13, k14⟩ := t
  have l1 := rk_lt c k1
  have ec : Int32.ofNat c = (32 : Int32) ↔ c = 32 := n_eq (b := 32) (by omega) (by decide)
  have er : Int32.ofNat (rk c) = (2 : Int32) ↔ rk c = 2 := n_eq (b := 2) (by omega) (by decide)
  have cr : ∀ c, c < 49 → (rk c = 2 ↔ c = 32) := by decide
  rw [eq_X5_newName, eq_X12_newName]
  simp only [yf1 sx, yf3 sx, y_18 sx, gs_nn_s, fl_116 sr, hF, k2, k7]
  by_cases z : c = 32
  · subst z
    obtain ⟨k7v, vb⟩ := k5 rfl
    have k9v := k8 (by decide) (by decide)
    have er9 : rvl 32 v = v := rfl
    rw [er9] at k9v
    have fx := x_find (X := X) (d := d + 2) (x := Int32.ofNat v) cx.1 hF ((fA o 3).trans hn) (by omega) hL hx
    have fr := r_find (X := X) (d := d' + 1) (x := Int32.ofNat v) (n := n) (o := off) cx.1 (by omega) (by omega) (fun k hk => hr k (by omega))
    have ef : f_find (mx.2.1 (S + o')) (Int32.ofNat v) n 0 = f_find (fun i => mr.2.1 (119 + b) (off + i)) (Int32.ofNat v) n 0 := f_find_congr n 0 (fun i hi => by
      rw [fA o' i, fB b (off + i)]
      exact hAB i (by omega))
    rw [if_pos (ec.mpr rfl), if_pos (er.mpr rfl), k7v, k9v, e1, e2, fx, fr, ef, gs_bI_s, gs_bI_s]
    rcases find_cases (f := fun i => mr.2.1 (119 + b) (off + i)) (x := Int32.ofNat v) n 0 with h | ⟨i, hi, h⟩
    · rw [h, if_pos rfl, if_pos (by decide)]
      simp only [yf1 sx, yf3 sx, y_18 sx, gs_nn_s, fl_116 sr, n_add, hr n (Nat.le_refl _), k7v, k9v, gs_fld_sI, bI_bU]
      exact jadv cx (st_wr st hs) (fun mx' mr' c' v' p' q' le s => hk mx' mr' c' v' p' q' (by have := k14 (by decide); omega) s)
    · rw [h, if_neg (gs_neg1 (by omega)), if_neg (gs_nneg (by omega))]
      simp only [yf1 sx, fl_116 sr, bI_bU, bI_bI]
      exact jfail cx st h0
  · rw [if_neg (fun w => z (ec.mp w)), if_neg (fun w => z ((cr c k1).mp (er.mp w))), bI_bU, bI_bI]
    exact jfail cx st h0
theorem j_oldName {o o' b off n : Nat} {w1 w2 : Int32} {Kx Kr : Int32 → gs_M → gs_O} (cx : gs_Cn X T S TR L by_ m0 r0) (st : gs_Sg S L m0 r0 A B c1 c2 E mx mr c v p q)
    (hF : ∀ k : gs_O, gs_fld mx (S + o) 3 k = k) (hL : mx.2.2.2 (S + o) 0 = some (S + o')) (hx : ∀ k, k < n → ∀ K : Nat → gs_O, gs_ix mx (S + o') 13 (Int32.ofNat k) K = K k) (hn : A o 3 = Int32.ofNat n) (hnn : n < 20) (ho : off < 20)
    (hr : ∀ k, k < n → ∀ K : Nat → gs_O, gs_ix mr (119 + b) 13 (Int32.ofNat (off + k)) K = K (off + k)) (hAB : ∀ k, k < n → A o' k = B b (off + k)) (e1 : w1 = Int32.ofNat off) (e2 : w2 = Int32.ofNat n) (h0 : ∀ m, Kr 0 m = gs_rI 0 m)
    (hk : ∀ i mx' mr' c' v' p' q', i < n → p < p' → gs_Sg S L m0 r0 A B c1 c2 (upf E 11 (Int32.ofNat i)) mx' mr' c' v' p' q' → gs_jQ S m0 r0 Q (Kx (Int32.ofNat i) mx') (Kr 1 mr')) :
    gs_jQ S m0 r0 Q (gs_bI (gs_exec X (d + 4) 47 [.inr (.inr 1), .inr (.inr (S + o))] mx) gs_th Kx) (gs_bI (gs_exec X (d' + 3) 193 [.inr (.inr 116), .inr (.inr (119 + b)), .inl w1, .inl w2] mr) gs_th Kr) := by
  have sx := st_sx cx st
  have sr := st_sr cx st
  have fA := st.2.2.1
  have fB := st.2.2.2.1
  have t := st.2.2.2.2.2.2.2
  obtain ⟨k1, k2, k3, k4, k5, k6, k7, k8, k9, k10, k11, k12, k13, k14⟩ := t
  have l1 := rk_lt c k1
  have ec : Int32.ofNat c = (32 : Int32) ↔ c = 32 := n_eq (b := 32) (by omega) (by decide)
  have er : Int32.ofNat (rk c) = (2 : Int32) ↔ rk c = 2 := n_eq (b := 2) (by omega) (by decide)
  have cr : ∀ c, c < 49 → (rk c = 2 ↔ c = 32) := by decide
  rw [eq_X5_toldName, eq_X12_oldName]
  simp only [yf1 sx, yf3 sx, y_18 sx, gs_nn_s, fl_116 sr, hF, k2, k7]
  by_cases z : c = 32
  · subst z
    obtain ⟨k7v, vb⟩ := k5 rfl
    have k9v := k8 (by decide) (by decide)
    have er9 : rvl 32 v = v := rfl
    rw [er9] at k9v
    have fx := x_find (X := X) (d := d + 2) (x := Int32.ofNat v) cx.1 hF ((fA o 3).trans hn) (by omega) hL hx
    have fr := r_find (X := X) (d := d' + 1) (x := Int32.ofNat v) (n := n) (o := off) cx.1 (by omega) (by omega) hr
    have ef : f_find (mx.2.1 (S + o')) (Int32.ofNat v) n 0 = f_find (fun i => mr.2.1 (119 + b) (off + i)) (Int32.ofNat v) n 0 := f_find_congr n 0 (fun i hi => by
      rw [fA o' i, fB b (off + i)]
      exact hAB i (by omega))
    rw [if_pos (ec.mpr rfl), if_pos (er.mpr rfl), k7v, k9v, e1, e2, fx, fr, ef, gs_bI_s, gs_bI_s]
    rcases find_cases (f := fun i => mr.2.1 (119 + b) (off + i)) (x := Int32.ofNat v) n 0 with h | ⟨i, hi, h⟩
    · rw [h, if_pos rfl]
      simp only [yf1 sx, fl_116 sr, gs_fld_sI, gs_sIe, bI_bU, bI_bI]
      rw [if_pos (by decide), bI_bI]
      exact jfail cx (st_we st (Or.inl ⟨rfl, by omega⟩) (by omega)) h0
    · rw [h, if_neg (gs_neg1 (by omega))]
      simp only [yf1 sx, yf3 sx, y_18 sx, gs_nn_s, fl_116 sr, gs_fld_sI, gs_sIe, bI_bU]
      rw [if_neg (gs_nneg (by omega)), bI_bU]
      exact jadv cx (st_we st (Or.inl ⟨rfl, by omega⟩) (by omega)) (fun mx' mr' c' v' p' q' le s => hk i mx' mr' c' v' p' q' (by omega) (by have := k14 (by decide); omega) s)
  · rw [if_neg (fun w => z (ec.mp w)), if_neg (fun w => z ((cr c k1).mp (er.mp w))), bI_bU, bI_bI]
    exact jfail cx st h0
end PR
