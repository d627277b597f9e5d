/-! Both sides read a text: the shape of the memories, what they hold, how a step goes on. -/
def gs_wp (m : gs_M) (S : Nat) : gs_M := gs_sR (gs_sR m 1 1 (85 - S)) 0 3 S
/-- the class reads into the tale S, while T is told -/
def gs_Sx (m : gs_M) (T S : Nat) : Prop := gs_Sh m T ∧ S = 85 - T ∧ m.2.2.2 1 1 = some S
theorem wp_at (m : gs_M) (S a j : Nat) (h : ¬ ((a = 0 ∧ j = 3) ∨ (a = 1 ∧ j = 1))) : (gs_wp m S).2.2.2 a j = m.2.2.2 a j := by
  have inn : (if a = 1 then (if j = 1 then some (85 - S) else m.2.2.2 a j) else m.2.2.2 a j) = m.2.2.2 a j := by
    by_cases e : a = 1
    · rw [if_pos e, if_neg (fun y => h (Or.inr ⟨e, y⟩))]
    · rw [if_neg e]
  show (if a = 0 then (if j = 3 then some S else (if a = 1 then (if j = 1 then some (85 - S) else m.2.2.2 a j) else m.2.2.2 a j)) else (if a = 1 then (if j = 1 then some (85 - S) else m.2.2.2 a j) else m.2.2.2 a j)) = m.2.2.2 a j
  rw [inn]
  by_cases e : a = 0
  · rw [if_pos e, if_neg (fun y => h (Or.inl ⟨e, y⟩))]
  · rw [if_neg e]
theorem rpf_n : ∀ x ∈ gs_rpf, ¬ ((x.1 = 0 ∧ x.2.1 = 3) ∨ (x.1 = 1 ∧ x.2.1 = 1)) := by decide
section SX
variable {m : gs_M} {T S : Nat}
theorem sx_S (h : gs_Sx m T S) : S = 18 ∨ S = 67 := by
  have := h.1.2.1
  have := h.2.1
  omega
theorem wp_sh (h : gs_Sx m T S) : gs_Sh (gs_wp m S) S := by
  have hS := sx_S h
  obtain ⟨⟨a, b, c, e, f, g⟩, h2, h3⟩ := h
  refine ⟨a, hS, rfl, rfl, fun x hx => ?_, fun x hx => ⟨?_, ?_⟩⟩
  · rw [wp_at m S _ _ (rpf_n x hx)]
    exact f x hx
  · rw [wp_at m S _ _ (fun y => by omega)]
    exact (g x hx).1
  · rw [wp_at m S _ _ (fun y => by omega)]
    exact (g x hx).2
theorem y_n (h : gs_Sx m T S) : m.1.1 = 153 := h.1.1
theorem y_11 (h : gs_Sx m T S) : m.2.2.2 1 1 = some S := h.2.2
theorem y_18 (h : gs_Sx m T S) : m.2.2.2 1 8 = some 3 := sh_1_8 h.1
theorem y_10 (h : gs_Sx m T S) : m.2.2.2 1 0 = some 2 := sh_1_0 h.1
theorem yf1 (h : gs_Sx m T S) {k : gs_O} : gs_fld m 1 5 k = k := fl_1 h.1
theorem yf3 (h : gs_Sx m T S) {k : gs_O} : gs_fld m 3 8 k = k := fl_3 h.1
theorem yt0 (h : gs_Sx m T S) {k : gs_O} : gs_fld m S 7 k = k := fl_t0 (wp_sh h)
theorem yt1 (h : gs_Sx m T S) {k : gs_O} : gs_fld m (S + 1) 3 k = k := fl_t1 (wp_sh h)
theorem yt5 (h : gs_Sx m T S) {k : gs_O} : gs_fld m (S + 5) 3 k = k := fl_t5 (wp_sh h)
theorem yt9 (h : gs_Sx m T S) {k : gs_O} : gs_fld m (S + 9) 3 k = k := fl_t9 (wp_sh h)
theorem yt13 (h : gs_Sx m T S) {k : gs_O} : gs_fld m (S + 13) 3 k = k := fl_t13 (wp_sh h)
theorem yt17 (h : gs_Sx m T S) {k : gs_O} : gs_fld m (S + 17) 6 k = k := fl_t17 (wp_sh h)
theorem yt21 (h : gs_Sx m T S) {k : gs_O} : gs_fld m (S + 21) 9 k = k := fl_t21 (wp_sh h)
theorem ytg (h : gs_Sx m T S) {g : Nat} (hg : g < 12) {k : gs_O} : gs_fld m (S + (27 + g)) 2 k = k := fl_tg (wp_sh h) hg
theorem ytc (h : gs_Sx m T S) {g : Nat} (hg : g < 10) {k : gs_O} : gs_fld m (S + (39 + g)) 0 k = k := fl_tc (wp_sh h) hg
theorem y0_0 (h : gs_Sx m T S) : m.2.2.2 S 0 = some (S + 1) := (wp_at m S _ _ (fun y => by have := sx_S h; omega)).symm.trans (sh_t0_0 (wp_sh h))
theorem y0_1 (h : gs_Sx m T S) : m.2.2.2 S 1 = some (S + 5) := (wp_at m S _ _ (fun y => by have := sx_S h; omega)).symm.trans (sh_t0_1 (wp_sh h))
theorem y0_2 (h : gs_Sx m T S) : m.2.2.2 S 2 = some (S + 9) := (wp_at m S _ _ (fun y => by have := sx_S h; omega)).symm.trans (sh_t0_2 (wp_sh h))
theorem y0_3 (h : gs_Sx m T S) : m.2.2.2 S 3 = some (S + 13) := (wp_at m S _ _ (fun y => by have := sx_S h; omega)).symm.trans (sh_t0_3 (wp_sh h))
theorem y0_4 (h : gs_Sx m T S) : m.2.2.2 S 4 = some (S + 17) := (wp_at m S _ _ (fun y => by have := sx_S h; omega)).symm.trans (sh_t0_4 (wp_sh h))
theorem y0_5 (h : gs_Sx m T S) : m.2.2.2 S 5 = some (S + 21) := (wp_at m S _ _ (fun y => by have := sx_S h; omega)).symm.trans (sh_t0_5 (wp_sh h))
theorem y0_6 (h : gs_Sx m T S) : m.2.2.2 S 6 = some (S + 25) := (wp_at m S _ _ (fun y => by have := sx_S h; omega)).symm.trans (sh_t0_6 (wp_sh h))
theorem y0_7 (h : gs_Sx m T S) : m.2.2.2 S 7 = some (S + 26) := (wp_at m S _ _ (fun y => by have := sx_S h; omega)).symm.trans (sh_t0_7 (wp_sh h))
theorem y1_0 (h : gs_Sx m T S) : m.2.2.2 (S + 1) 0 = some (S + 2) := (wp_at m S _ _ (fun y => by have := sx_S h; omega)).symm.trans (sh_t1_0 (wp_sh h))
theorem y1_1 (h : gs_Sx m T S) : m.2.2.2 (S + 1) 1 = some (S + 3) := (wp_at m S _ _ (fun y => by have := sx_S h; omega)).symm.trans (sh_t1_1 (wp_sh h))
theorem y1_2 (h : gs_Sx m T S) : m.2.2.2 (S + 1) 2 = some (S + 4) := (wp_at m S _ _ (fun y => by have := sx_S h; omega)).symm.trans (sh_t1_2 (wp_sh h))
theorem y5_0 (h : gs_Sx m T S) : m.2.2.2 (S + 5) 0 = some (S + 6) := (wp_at m S _ _ (fun y => by have := sx_S h; omega)).symm.trans (sh_t5_0 (wp_sh h))
theorem y5_1 (h : gs_Sx m T S) : m.2.2.2 (S + 5) 1 = some (S + 7) := (wp_at m S _ _ (fun y => by have := sx_S h; omega)).symm.trans (sh_t5_1 (wp_sh h))
theorem y5_2 (h : gs_Sx m T S) : m.2.2.2 (S + 5) 2 = some (S + 8) := (wp_at m S _ _ (fun y => by have := sx_S h; omega)).symm.trans (sh_t5_2 (wp_sh h))
theorem y9_0 (h : gs_Sx m T S) : m.2.2.2 (S + 9) 0 = some (S + 10) := (wp_at m S _ _ (fun y => by have := sx_S h; omega)).symm.trans (sh_t9_0 (wp_sh h))
theorem y9_1 (h : gs_Sx m T S) : m.2.2.2 (S + 9) 1 = some (S + 11) := (wp_at m S _ _ (fun y => by have := sx_S h; omega)).symm.trans (sh_t9_1 (wp_sh h))
theorem y9_2 (h : gs_Sx m T S) : m.2.2.2 (S + 9) 2 = some (S + 12) := (wp_at m S _ _ (fun y => by have := sx_S h; omega)).symm.trans (sh_t9_2 (wp_sh h))
theorem y13_0 (h : gs_Sx m T S) : m.2.2.2 (S + 13) 0 = some (S + 14) := (wp_at m S _ _ (fun y => by have := sx_S h; omega)).symm.trans (sh_t13_0 (wp_sh h))
theorem y13_1 (h : gs_Sx m T S) : m.2.2.2 (S + 13) 1 = some (S + 15) := (wp_at m S _ _ (fun y => by have := sx_S h; omega)).symm.trans (sh_t13_1 (wp_sh h))
theorem y13_2 (h : gs_Sx m T S) : m.2.2.2 (S + 13) 2 = some (S + 16) := (wp_at m S _ _ (fun y => by have := sx_S h; omega)).symm.trans (sh_t13_2 (wp_sh h))
theorem y17_0 (h : gs_Sx m T S) : m.2.2.2 (S + 17) 0 = some (S + 18) := (wp_at m S _ _ (fun y => by have := sx_S h; omega)).symm.trans (sh_t17_0 (wp_sh h))
theorem y17_1 (h : gs_Sx m T S) : m.2.2.2 (S + 17) 1 = some (S + 19) := (wp_at m S _ _ (fun y => by have := sx_S h; omega)).symm.trans (sh_t17_1 (wp_sh h))
theorem y17_2 (h : gs_Sx m T S) : m.2.2.2 (S + 17) 2 = some (S + 20) := (wp_at m S _ _ (fun y => by have := sx_S h; omega)).symm.trans (sh_t17_2 (wp_sh h))
theorem y21_0 (h : gs_Sx m T S) : m.2.2.2 (S + 21) 0 = some (S + 22) := (wp_at m S _ _ (fun y => by have := sx_S h; omega)).symm.trans (sh_t21_0 (wp_sh h))
theorem y21_1 (h : gs_Sx m T S) : m.2.2.2 (S + 21) 1 = some (S + 23) := (wp_at m S _ _ (fun y => by have := sx_S h; omega)).symm.trans (sh_t21_1 (wp_sh h))
theorem y21_2 (h : gs_Sx m T S) : m.2.2.2 (S + 21) 2 = some (S + 24) := (wp_at m S _ _ (fun y => by have := sx_S h; omega)).symm.trans (sh_t21_2 (wp_sh h))
theorem yg (h : gs_Sx m T S) {g : Nat} (hg : g < 12) : m.2.2.2 (S + 25) g = some (S + (27 + g)) := (wp_at m S _ _ (fun y => by omega)).symm.trans (sh_guest (wp_sh h) hg)
theorem yc (h : gs_Sx m T S) {g : Nat} (hg : g < 10) : m.2.2.2 (S + 26) g = some (S + (39 + g)) := (wp_at m S _ _ (fun y => by omega)).symm.trans (sh_cloud (wp_sh h) hg)
theorem yar (h : gs_Sx m T S) (o c n : Nat) (hk : (gs_ok (18 + o) c 153 && gs_ok (67 + o) c 153 && Nat.beq (gs_len (18 + o)) n && Nat.beq (gs_len (67 + o)) n) = true) {k : Nat} (hj : k < n) {K : Nat → gs_O} : gs_ix m (S + o) c (Int32.ofNat k) K = K k := ar_t (wp_sh h) o c n hk hj
theorem ygx (h : gs_Sx m T S) {g : Nat} (hg : g < 12) {K : Nat → gs_O} : gs_ix m (S + 25) (cond (Nat.beq (gs_kind (S + 25)) 15) 15 16) (Int32.ofNat g) K = K g := x_gx (wp_sh h) hg
theorem ycx (h : gs_Sx m T S) {g : Nat} (hg : g < 10) {K : Nat → gs_O} : gs_ix m (S + 26) (cond (Nat.beq (gs_kind (S + 26)) 15) 15 16) (Int32.ofNat g) K = K g := by
  have e : (cond (Nat.beq (gs_kind (S + 26)) 15) 15 16) = 15 := by
    rcases sx_S h with e | e <;> rw [e] <;> rfl
  rw [e]
  exact yar h 26 15 10 (by decide) hg
theorem sx_sI {a j : Nat} {x : Int32} (h : gs_Sx m T S) : gs_Sx (gs_sI m a j x) T S := h
end SX
/-! Where the two sides write while they read. -/
def rsA (S x i : Nat) : Prop := (x = 1 ∧ i ≠ 9 ∧ i ≠ 10) ∨ x = 2 ∨ (x = 3 ∧ (i = 3 ∨ i = 5 ∨ i = 6 ∨ i = 7)) ∨ (S ≤ x ∧ x < S + 49)
def rsAf (S x i : Nat) : Prop := x = 1 ∨ x = 2 ∨ (x = 3 ∧ (i = 3 ∨ i = 5 ∨ i = 6 ∨ i = 7)) ∨ (S ≤ x ∧ x < S + 49)
def upr (x i : Nat) : Prop := ((x = 124 ∨ x = 125 ∨ x = 126 ∨ x = 130 ∨ x = 131) ∧ 8 ≤ i) ∨ ((x = 127 ∨ x = 128 ∨ x = 129) ∧ 10 ≤ i) ∨ (x = 132 ∧ 192 ≤ i) ∨ (x = 133 ∧ 90 ≤ i) ∨ ((x = 134 ∨ x = 135 ∨ x = 136 ∨ x = 137) ∧ 6 ≤ i) ∨ (x = 138 ∧ 18 ≤ i) ∨ ((x = 139 ∨ x = 140 ∨ x = 141) ∧ 64 ≤ i)
def rsVb (x i : Nat) : Prop := (x = 116 ∧ ((7 ≤ i ∧ i ≤ 11) ∨ i = 17 ∨ (40 ≤ i ∧ i ≤ 45))) ∨ x = 120 ∨ x = 123 ∨ upr x i ∨ x = 142 ∨ x = 143
def rsVf (x i : Nat) : Prop := (x = 116 ∧ (i = 4 ∨ i = 5)) ∨ rsVb x i
theorem rsA_f {S x i : Nat} (h : rsA S x i) : rsAf S x i := by
  unfold rsA at h
  unfold rsAf
  omega
def upf (f : Nat → Int32) (j : Nat) (x : Int32) : Nat → Int32 := fun i => if i = j then x else f i
theorem upf_e (f : Nat → Int32) (j : Nat) (x : Int32) : upf f j x j = x := if_pos rfl
theorem upf_n {f : Nat → Int32} {i j : Nat} {x : Int32} (h : i ≠ j) : upf f j x i = f i := if_neg h
theorem up2_e (f : Nat → Nat → Int32) (a j : Nat) (x : Int32) : gs_up2 f a j x a j = x := by
  unfold gs_up2
  rw [if_pos rfl, if_pos rfl]
theorem up2_n {f : Nat → Nat → Int32} {a j b i : Nat} {x : Int32} (h : b ≠ a ∨ i ≠ j) : gs_up2 f a j x b i = f b i := by
  unfold gs_up2
  split
  · next e => rw [if_neg (fun ej => h.elim (fun n => n e) (fun n => n ej))]
  · rfl
def mst (k : Nat) : Nat := if k = 0 then 8 else if k = 1 then 10 else if k = 2 then 8 else if k = 3 then 12 else if k = 4 then 0 else if k = 5 then 10 else if k = 6 then 6 else if k = 7 then 6 else 0
/-- what stands for all of a reading -/
def gs_Cn (X : gs_E) (T S TR L : Nat) (by_ : Nat → Nat) (m0 r0 : gs_M) : Prop := gs_Fu X ∧ gs_Sx m0 T S ∧ gs_Sh r0 TR ∧ gs_Bx m0 by_ L ∧ gs_Bz r0 by_ L ∧ gs_Lg m0 ∧ gs_Dc r0 ∧ ∀ k, k < 9 → r0.2.1 121 k = Int32.ofNat (mst k)
/-- the class's tale A and reader c1, c2, the reference's rows B and fields E, the token -/
def gs_Sg (S L : Nat) (m0 r0 : gs_M) (A B : Nat → Nat → Int32) (c1 c2 E : Nat → Int32) (mx mr : gs_M) (c v p q : Nat) : Prop := gs_Wx (rsA S) m0 mx ∧ gs_Wx rsVb r0 mr ∧ (∀ a i, mx.2.1 (S + a) i = A a i) ∧ (∀ a i, mr.2.1 (119 + a) i = B a i) ∧ (∀ i, mx.2.1 1 i = c1 i) ∧ (∀ i, mx.2.1 2 i = c2 i) ∧ (∀ i, ¬ (7 ≤ i ∧ i ≤ 10) → mr.2.1 116 i = E i) ∧ gs_TK mx mr L c v p q
/-- both ended: with the same fault, or well -/
def gs_jQ (S : Nat) (m0 r0 : gs_M) (Q : gs_M → gs_M → Prop) (ox oy : gs_O) : Prop := (∃ mx mr, ox = gs_th 0 (gs_gb mx) ∧ oy = gs_rI 0 mr ∧ gs_Wx (rsAf S) m0 mx ∧ gs_Wx rsVf r0 mr ∧ mx.2.1 1 9 = mr.2.1 116 4 ∧ mx.2.1 1 10 = mr.2.1 116 5) ∨ (∃ mx mr, ox = gs_rU mx ∧ oy = gs_rI 1 mr ∧ Q mx mr)
theorem bU_bU (o : gs_O) (k1 k2 : gs_M → gs_O) : gs_bU (gs_bU o gs_th k1) gs_th k2 = gs_bU o gs_th (fun m => gs_bU (k1 m) gs_th k2) := match o with
  | none => rfl
  | some (.inr _, _) => rfl
  | some (.inl none, _) => rfl
  | some (.inl (some _), _) => rfl
theorem bI_bI (o : gs_O) (k1 k2 : Int32 → gs_M → gs_O) : gs_bI (gs_bI o gs_th k1) gs_th k2 = gs_bI o gs_th (fun x m => gs_bI (k1 x m) gs_th k2) := match o with
  | none => rfl
  | some (.inr _, _) => rfl
  | some (.inl none, _) => rfl
  | some (.inl (some (.inl _)), _) => rfl
  | some (.inl (some (.inr _)), _) => rfl
theorem bI_bU (o : gs_O) (k1 : gs_M → gs_O) (k2 : Int32 → gs_M → gs_O) : gs_bI (gs_bU o gs_th k1) gs_th k2 = gs_bU o gs_th (fun m => gs_bI (k1 m) gs_th k2) := match o with
  | none => rfl
  | some (.inr _, _) => rfl
  | some (.inl none, _) => rfl
  | some (.inl (some _), _) => rfl
theorem bU_bI (o : gs_O) (k1 : Int32 → gs_M → gs_O) (k2 : gs_M → gs_O) : gs_bU (gs_bI o gs_th k1) gs_th k2 = gs_bI o gs_th (fun x m => gs_bU (k1 x m) gs_th k2) := match o with
  | none => rfl
  | some (.inr _, _) => rfl
  | some (.inl none, _) => rfl
  | some (.inl (some (.inl _)), _) => rfl
  | some (.inl (some (.inr _)), _) => rfl
section ST
variable {X : gs_E} {d d' T S TR L : Nat} {by_ : Nat → Nat} {m0 r0 mx mr : gs_M} {A B : Nat → Nat → Int32} {c1 c2 E : Nat → Int32} {c v p q : Nat} {Q Q' : gs_M → gs_M → Prop}
theorem jQ_bind {ox oy : gs_O} {Kx : gs_M → gs_O} {Kr : Int32 → gs_M → gs_O} (h : gs_jQ S m0 r0 Q ox oy) (h0 : ∀ m, Kr 0 m = gs_rI 0 m) (h1 : ∀ mx mr, Q mx mr → gs_jQ S m0 r0 Q' (Kx mx) (Kr 1 mr)) : gs_jQ S m0 r0 Q' (gs_bU ox gs_th Kx) (gs_bI oy gs_th Kr) := by
  rcases h with ⟨mx, mr, e1, e2, w⟩ | ⟨mx, mr, e1, e2, w⟩
  · rw [e1, e2]
    exact Or.inl ⟨mx, mr, rfl, h0 mr, w⟩
  · rw [e1, e2]
    exact h1 mx mr w
theorem jQ_mono {ox oy : gs_O} (h : gs_jQ S m0 r0 Q ox oy) (h1 : ∀ mx mr, Q mx mr → Q' mx mr) : gs_jQ S m0 r0 Q' ox oy := by
  rcases h with w | ⟨mx, mr, e1, e2, w⟩
  · exact Or.inl w
  · exact Or.inr ⟨mx, mr, e1, e2, h1 mx mr w⟩
theorem cx_S (cx : gs_Cn X T S TR L by_ m0 r0) : S = 18 ∨ S = 67 := sx_S cx.2.1
theorem st_sx (cx : gs_Cn X T S TR L by_ m0 r0) (st : gs_Sg S L m0 r0 A B c1 c2 E mx mr c v p q) : gs_Sx mx T S := by
  obtain ⟨h1, h2, h3⟩ := cx.2.1
  exact ⟨wc_sh h1 st.1, h2, by rw [st.1.2.1]; exact h3⟩
theorem st_sr (cx : gs_Cn X T S TR L by_ m0 r0) (st : gs_Sg S L m0 r0 A B c1 c2 E mx mr c v p q) : gs_Sh mr TR := wc_sh cx.2.2.1 st.2.1
theorem st_wx {a i : Nat} {x : Int32} (cx : gs_Cn X T S TR L by_ m0 r0) (st : gs_Sg S L m0 r0 A B c1 c2 E mx mr c v p q) (ha : a < 49) : gs_Sg S L m0 r0 (gs_up2 A a i x) B c1 c2 E (gs_sI mx (S + a) i x) mr c v p q := by
  have hS := cx_S cx
  obtain ⟨w1, w2, fA, fB, f1, f2, fE, k⟩ := st
  refine ⟨wx_sI w1 (Or.inr (Or.inr (Or.inr ⟨by omega, by omega⟩))), w2, fun b j => ?_, fB, fun j => ?_, fun j => ?_, fE, ?_⟩
  · by_cases e : b = a
    · subst e
      by_cases e2 : j = i
      · rw [e2, gs_sIe, up2_e]
      · rw [gs_sIn (Or.inr e2), up2_n (Or.inr e2)]
        exact fA b j
    · rw [gs_sIn (Or.inl (by omega)), up2_n (Or.inl e)]
      exact fA b j
  · rw [gs_sIn (Or.inl (by omega))]; exact f1 j
  · rw [gs_sIn (Or.inl (by omega))]; exact f2 j
  · unfold gs_TK at k ⊢
    rw [gs_sIn (Or.inl (by omega)), gs_sIn (Or.inl (by omega)), gs_sIn (Or.inl (by omega)), gs_sIn (Or.inl (by omega))]
    exact k
theorem st_w1 {i : Nat} {x : Int32} (cx : gs_Cn X T S TR L by_ m0 r0) (st : gs_Sg S L m0 r0 A B c1 c2 E mx mr c v p q) (hi : i ≠ 9 ∧ i ≠ 10 := by decide) : gs_Sg S L m0 r0 A B (upf c1 i x) c2 E (gs_sI mx 1 i x) mr c v p q := by
  have hS := cx_S cx
  obtain ⟨w1, w2, fA, fB, f1, f2, fE, k⟩ := st
  refine ⟨wx_sI w1 (Or.inl ⟨rfl, hi⟩), w2, fun b j => ?_, fB, fun j => ?_, fun j => ?_, fE, ?_⟩
  · rw [gs_sIn (Or.inl (by omega))]; exact fA b j
  · by_cases e2 : j = i
    · rw [e2, gs_sIe, upf_e]
    · rw [gs_sIn (Or.inr e2), upf_n e2]
      exact f1 j
  · rw [gs_sIn (Or.inl (by decide))]; exact f2 j
  · unfold gs_TK at k ⊢
    rw [gs_sIn (Or.inl (by decide)), gs_sIn (Or.inl (by decide)), gs_sIn (Or.inl (by decide)), gs_sIn (Or.inl (by decide))]
    exact k
theorem st_w2 {i : Nat} {x : Int32} (cx : gs_Cn X T S TR L by_ m0 r0) (st : gs_Sg S L m0 r0 A B c1 c2 E mx mr c v p q) : gs_Sg S L m0 r0 A B c1 (upf c2 i x) E (gs_sI mx 2 i x) mr c v p q := by
  have hS := cx_S cx
  obtain ⟨w1, w2, fA, fB, f1, f2, fE, k⟩ := st
  refine ⟨wx_sI w1 (Or.inr (Or.inl rfl)), w2, fun b j => ?_, fB, fun j => ?_, fun j => ?_, fE, ?_⟩
  · rw [gs_sIn (Or.inl (by omega))]; exact fA b j
  · rw [gs_sIn (Or.inl (by decide))]; exact f1 j
  · by_cases e2 : j = i
    · rw [e2, gs_sIe, upf_e]
    · rw [gs_sIn (Or.inr e2), upf_n e2]
      exact f2 j
  · unfold gs_TK at k ⊢
    rw [gs_sIn (Or.inl (by decide)), gs_sIn (Or.inl (by decide)), gs_sIn (Or.inl (by decide)), gs_sIn (Or.inl (by decide))]
    exact k
theorem st_wr {a i : Nat} {x : Int32} (st : gs_Sg S L m0 r0 A B c1 c2 E mx mr c v p q) (hr : rsVb (119 + a) i) : gs_Sg S L m0 r0 A (gs_up2 B a i x) c1 c2 E mx (gs_sI mr (119 + a) i x) c v p q := by
  obtain ⟨w1, w2, fA, fB, f1, f2, fE, k⟩ := st
  refine ⟨w1, wx_sI w2 hr, fA, fun b j => ?_, f1, f2, fun j hj => ?_, ?_⟩
  · by_cases e : b = a
    · subst e
      by_cases e2 : j = i
      · rw [e2, gs_sIe, up2_e]
      · rw [gs_sIn (Or.inr e2), up2_n (Or.inr e2)]
        exact fB b j
    · rw [gs_sIn (Or.inl (by omega)), up2_n (Or.inl e)]
      exact fB b j
  · rw [gs_sIn (Or.inl (by omega))]; exact fE j hj
  · unfold gs_TK at k ⊢
    rw [gs_sIn (Or.inl (by omega)), gs_sIn (Or.inl (by omega)), gs_sIn (Or.inl (by omega)), gs_sIn (Or.inl (by omega))]
    exact k
theorem st_we {i : Nat} {x : Int32} (st : gs_Sg S L m0 r0 A B c1 c2 E mx mr c v p q) (hr : rsVb 116 i) (hi : ¬ (7 ≤ i ∧ i ≤ 10)) : gs_Sg S L m0 r0 A B c1 c2 (upf E i x) mx (gs_sI mr 116 i x) c v p q := by
  obtain ⟨w1, w2, fA, fB, f1, f2, fE, k⟩ := st
  refine ⟨w1, wx_sI w2 hr, fA, fun b j => ?_, f1, f2, fun j hj => ?_, ?_⟩
  · rw [gs_sIn (Or.inl (by omega))]; exact fB b j
  · by_cases e2 : j = i
    · rw [e2, gs_sIe, upf_e]
    · rw [gs_sIn (Or.inr e2), upf_n e2]
      exact fE j hj
  · unfold gs_TK at k ⊢
    rw [gs_sIn (Or.inr (by omega)), gs_sIn (Or.inr (by omega)), gs_sIn (Or.inr (by omega)), gs_sIn (Or.inr (by omega))]
    exact k
/-- both go on to the next token -/
theorem st_adv (cx : gs_Cn X T S TR L by_ m0 r0) (st : gs_Sg S L m0 r0 A B c1 c2 E mx mr c v p q) : ∃ mx' mr' c' v' p' q', gs_exec X (d + 3) 108 [.inr (.inr 3)] mx = gs_rU mx' ∧ gs_exec X (d' + 2) 182 [.inr (.inr 116)] mr = gs_rU mr' ∧ q ≤ p' ∧ gs_Sg S L m0 r0 A B c1 c2 E mx' mr' c' v' p' q' := by
  have hS := cx_S cx
  have sx := st_sx cx st
  have sr := st_sr cx st
  obtain ⟨hX, -, -, hB, hZ, hG, hD, -⟩ := cx
  obtain ⟨w1, w2, fA, fB, f1, f2, fE, k⟩ := st
  have hBx : gs_Bx mx by_ L := by
    obtain ⟨a, b, e, f⟩ := hB
    refine ⟨a, fun j hj => ?_, ?_, f⟩
    · rw [w1.2.2 4 j (fun q => by unfold rsA at q; omega)]; exact b j hj
    · rw [w1.2.2 3 2 (fun q => by unfold rsA at q; omega)]; exact e
  have hZr : gs_Bz mr by_ L := by
    obtain ⟨a, b, e, f⟩ := hZ
    refine ⟨a, fun j hj => ?_, e, ?_⟩
    · rw [w2.2.2 117 j (fun q => by unfold rsVb upr at q; omega)]; exact b j hj
    · rw [w2.2.2 116 6 (fun q => by unfold rsVb upr at q; omega)]; exact f
  have hGx : gs_Lg mx := fun j hj => by
    rw [w1.2.2 5 j (fun q => by unfold rsA at q; omega)]; exact hG j hj
  have hDr : gs_Dc mr := fun j hj => by
    rw [w2.2.2 118 j (fun q => by unfold rsVb upr at q; omega)]; exact hD j hj
  obtain ⟨k1, k2, k3, k4, k5, k6, k7, k8, k9, k10, k11, k12, k13, k14⟩ := k
  obtain ⟨mx', mr', c', v', p', q', e1, e2, u1, u2, le, t⟩ := j_adv (X := X) (d := d) (d' := d') hX sx.1 sr hBx hZr hGx hDr k12 k4 k10
  refine ⟨mx', mr', c', v', p', q', e1, e2, le, wx_trans w1 (wx_mono u1 ?_), wx_trans w2 (wx_mono u2 ?_), fun a i => ?_, fun a i => ?_, fun i => ?_, fun i => ?_, fun i hi => ?_, t⟩
  · intro x i h
    exact Or.inr (Or.inr (Or.inl h))
  · intro x i h
    unfold rsY at h
    exact Or.inl ⟨h.1, by omega⟩
  · rw [u1.2.2 (S + a) i (fun q => by unfold rsX at q; omega)]; exact fA a i
  · rw [u2.2.2 (119 + a) i (fun q => by unfold rsY at q; omega)]; exact fB a i
  · rw [u1.2.2 1 i (fun q => by unfold rsX at q; omega)]; exact f1 i
  · rw [u1.2.2 2 i (fun q => by unfold rsX at q; omega)]; exact f2 i
  · rw [u2.2.2 116 i (fun q => by unfold rsY at q; omega)]; exact fE i hi
theorem jadv {Kx Kr : gs_M → gs_O} (cx : gs_Cn X T S TR L by_ m0 r0) (st : gs_Sg S L m0 r0 A B c1 c2 E mx mr c v p q) (hk : ∀ mx' mr' c' v' p' q', q ≤ p' → gs_Sg S L m0 r0 A B c1 c2 E mx' mr' c' v' p' q' → gs_jQ S m0 r0 Q (Kx mx') (Kr mr')) : gs_jQ S m0 r0 Q (gs_bU (gs_exec X (d + 3) 108 [.inr (.inr 3)] mx) gs_th Kx) (gs_bU (gs_exec X (d' + 2) 182 [.inr (.inr 116)] mr) gs_th Kr) := by
  obtain ⟨mx', mr', c', v', p', q', e1, e2, le, s⟩ := st_adv (d := d) (d' := d') cx st
  rw [e1, e2]
  exact hk mx' mr' c' v' p' q' le s
/-- the same fault on both sides -/
theorem jfail {k : Int32} {Kx : gs_M → gs_O} {Kr : Int32 → gs_M → gs_O} (cx : gs_Cn X T S TR L by_ m0 r0) (st : gs_Sg S L m0 r0 A B c1 c2 E mx mr c v p q) (h0 : ∀ m, Kr 0 m = gs_rI 0 m) : gs_jQ S m0 r0 Q (gs_bU (gs_exec X (d + 1) 43 [.inr (.inr 1), .inl k] mx) gs_th Kx) (gs_bI (gs_exec X (d' + 1) 178 [.inr (.inr 116), .inl k] mr) gs_th Kr) := by
  have sx := st_sx cx st
  have sr := st_sr cx st
  obtain ⟨w1, w2, fA, fB, f1, f2, fE, k1, k2, k3, k4, k5, k6, k7, k8, k9, k10, -⟩ := st
  refine Or.inl ⟨gs_sI (gs_sI mx 1 9 k) 1 10 (Int32.ofNat p), gs_sI (gs_sI mr 116 4 k) 116 5 (Int32.ofNat p), ?_, ?_, wx_sI (wx_sI (wx_mono w1 (fun x i h => rsA_f h)) (Or.inl rfl)) (Or.inl rfl), wx_sI (wx_sI (wx_mono w2 (fun x i h => Or.inr h)) (Or.inl ⟨rfl, Or.inl rfl⟩)) (Or.inl ⟨rfl, Or.inr rfl⟩), ?_, ?_⟩
  · have e : (gs_sI mx 1 9 k).2.1 3 6 = Int32.ofNat p := by rw [gs_sIn (Or.inl (by decide))]; exact k3
    rw [eq_X5_fail]
    simp only [gs_fld_sI, yf1 sx, yf3 sx, gs_sI22, y_18 sx, gs_nn_s, e]
    rfl
  · have e : (gs_sI mr 116 4 k).2.1 116 10 = Int32.ofNat p := by rw [gs_sIn (Or.inr (by decide))]; exact k9
    rw [eq_X12_wrong]
    simp only [gs_fld_sI, fl_116 sr, e, gs_bt0, gs_bI_s]
    exact h0 _
  · rw [gs_sIn (Or.inr (by decide)), gs_sIe, gs_sIn (Or.inr (by decide)), gs_sIe]
  · rw [gs_sIe, gs_sIe]
end ST
