/-! The row of one guest or cloud, while it is read. -/
def owA (A : Nat → Nat → Int32) (r : Nat) (f : Nat → Int32) : Nat → Nat → Int32 := fun a i => if a = r then f i else A a i
def owB (B : Nat → Nat → Int32) (r o w : Nat) (f : Nat → Int32) : Nat → Nat → Int32 := fun b j => if b = r ∧ o ≤ j ∧ j < o + w then f (j - o) else B b j
section RWS
variable {A B : Nat → Nat → Int32} {r o w i : Nat} {f : Nat → Int32} {x : Int32}
theorem sA_self : owA A r (A r) = A := by
  funext a i
  unfold owA
  by_cases e : a = r
  · rw [if_pos e, e]
  · rw [if_neg e]
theorem sB_self : owB B r o w (fun i => B r (o + i)) = B := by
  funext b j
  unfold owB
  by_cases e : b = r ∧ o ≤ j ∧ j < o + w
  · rw [if_pos e, e.1]
    show B r (o + (j - o)) = B r j
    rw [show o + (j - o) = j by omega]
  · rw [if_neg e]
theorem sA_e : owA A r f r i = f i := if_pos rfl
theorem sA_n {a : Nat} (h : a ≠ r) : owA A r f a = A a := funext (fun _ => if_neg h)
theorem sB_e (h : i < w) : owB B r o w f r (o + i) = f i := by
  unfold owB
  rw [if_pos ⟨rfl, by omega, by omega⟩, show o + i - o = i by omega]
theorem sB_n {b : Nat} (h : b ≠ r) : owB B r o w f b = B b := funext (fun _ => if_neg (fun y => h y.1))
theorem sB_o {j : Nat} (h : j < o ∨ o + w ≤ j) : owB B r o w f r j = B r j := if_neg (fun y => by omega)
theorem up2_sA : gs_up2 (owA A r f) r i x = owA A r (upf f i x) := by
  funext a j
  unfold gs_up2 owA upf
  by_cases e : a = r
  · rw [if_pos e, if_pos e, if_pos e]
  · rw [if_neg e, if_neg e, if_neg e]
theorem up2_sB (hi : i < w) : gs_up2 (owB B r o w f) r (o + i) x = owB B r o w (upf f i x) := by
  funext b j
  unfold gs_up2 owB upf
  by_cases e : b = r
  · by_cases e2 : j = o + i
    · rw [if_pos e, if_pos e2, if_pos ⟨e, by omega, by omega⟩, if_pos (by omega)]
    · rw [if_pos e, if_neg e2]
      by_cases e3 : b = r ∧ o ≤ j ∧ j < o + w
      · rw [if_pos e3, if_pos e3, if_neg (by omega)]
      · rw [if_neg e3, if_neg e3]
  · rw [if_neg e, if_neg (fun y => e y.1), if_neg (fun y => e y.1)]
end RWS
section RWT
variable {X : gs_E} {d d' T S TR L : Nat} {by_ : Nat → Nat} {m0 r0 mx mr : gs_M} {A B : Nat → Nat → Int32} {c1 c2 E f : Nat → Int32} {c v p q r o w i g : Nat} {x : Int32} {Q : gs_M → gs_M → Prop}
theorem jQ_U {ox oy : gs_O} (h : gs_jQ S m0 r0 Q ox oy) : gs_jQ S m0 r0 Q (gs_bU ox gs_th (fun m => gs_rU m)) oy := by
  rcases h with ⟨mx, mr, e1, e2, w⟩ | ⟨mx, mr, e1, e2, w⟩
  · rw [e1]
    exact Or.inl ⟨mx, mr, rfl, e2, w⟩
  · rw [e1]
    exact Or.inr ⟨mx, mr, rfl, e2, w⟩
theorem st_sA (st : gs_Sg S L m0 r0 A B c1 c2 E mx mr c v p q) (r : Nat) : gs_Sg S L m0 r0 (owA A r (A r)) B c1 c2 E mx mr c v p q := by
  rw [sA_self]
  exact st
theorem st_sB (st : gs_Sg S L m0 r0 A B c1 c2 E mx mr c v p q) (r o w : Nat) : gs_Sg S L m0 r0 A (owB B r o w (fun i => B r (o + i))) c1 c2 E mx mr c v p q := by
  rw [sB_self]
  exact st
theorem st_wg (cx : gs_Cn X T S TR L by_ m0 r0) (st : gs_Sg S L m0 r0 (owA A r f) B c1 c2 E mx mr c v p q) (hr : r < 49) (i : Nat) (x : Int32) : gs_Sg S L m0 r0 (owA A r (upf f i x)) B c1 c2 E (gs_sI mx (S + r) i x) mr c v p q := by
  have h := st_wx (a := r) (i := i) (x := x) cx st hr
  rw [up2_sA] at h
  exact h
theorem st_wb (st : gs_Sg S L m0 r0 A (owB B r o w f) c1 c2 E mx mr c v p q) (i : Nat) (x : Int32) (hi : i < w) (hs : rsVb (119 + r) (o + i)) : gs_Sg S L m0 r0 A (owB B r o w (upf f i x)) c1 c2 E mx (gs_sI mr (119 + r) (o + i) x) c v p q := by
  have h := st_wr (a := r) (i := o + i) (x := x) st hs
  rw [up2_sB hi] at h
  exact h
def clr (i : Nat) : Int32 := if i = 0 then -1 else if i = 5 then -1 else if i = 14 then 9 else if i = 15 then -1 else 0
def pln (i : Nat) : Int32 := if i = 0 then -1 else if i = 4 then -1 else if i = 11 then 9 else if i = 12 then -1 else 0
theorem st_clear (cx : gs_Cn X T S TR L by_ m0 r0) (st : gs_Sg S L m0 r0 (owA A (27 + g) f) B c1 c2 E mx mr c v p q) (hg : g < 12) : ∃ mx' f', gs_exec X (d + 1) 18 [.inr (.inr (S + (27 + g)))] mx = gs_rU mx' ∧ gs_Sg S L m0 r0 (owA A (27 + g) f') B c1 c2 E mx' mr c v p q ∧ ∀ i, i < 16 → f' i = clr i := by
  have sx := st_sx cx st
  refine ⟨_, _, ?_, st_wg cx (st_wg cx (st_wg cx (st_wg cx (st_wg cx (st_wg cx (st_wg cx (st_wg cx (st_wg cx (st_wg cx (st_wg cx (st_wg cx (st_wg cx (st_wg cx (st_wg cx (st_wg cx (st) (show 27 + g < 49 by omega) 0 (-1)) (show 27 + g < 49 by omega) 1 (0)) (show 27 + g < 49 by omega) 2 (0)) (show 27 + g < 49 by omega) 3 (0)) (show 27 + g < 49 by omega) 4 (0)) (show 27 + g < 49 by omega) 5 (-1)) (show 27 + g < 49 by omega) 6 (0)) (show 27 + g < 49 by omega) 7 (0)) (show 27 + g < 49 by omega) 8 (0)) (show 27 + g < 49 by omega) 9 (0)) (show 27 + g < 49 by omega) 10 (0)) (show 27 + g < 49 by omega) 11 (0)) (show 27 + g < 49 by omega) 12 (0)) (show 27 + g < 49 by omega) 13 (0)) (show 27 + g < 49 by omega) 14 (9)) (show 27 + g < 49 by omega) 15 (-1), ?_⟩
  · rw [eq_X2_clear]
    simp only [gs_fld_sI, ytg sx hg]
  · intro i hi
    have h : i = 0 ∨ i = 1 ∨ i = 2 ∨ i = 3 ∨ i = 4 ∨ i = 5 ∨ i = 6 ∨ i = 7 ∨ i = 8 ∨ i = 9 ∨ i = 10 ∨ i = 11 ∨ i = 12 ∨ i = 13 ∨ i = 14 ∨ i = 15 := by omega
    rcases h with h | h | h | h | h | h | h | h | h | h | h | h | h | h | h | h <;> (subst h; rfl)
theorem r_plainG_loop (cx : gs_Cn X T S TR L by_ m0 r0) (hg : g < 12) : ∀ (k j F : Nat) (mr : gs_M) (f : Nat → Int32), j + k = 16 → k < F → gs_Sg S L m0 r0 A (owB B 13 (192 + 16 * g) 16 f) c1 c2 E mx mr c v p q → (∀ i, i < j → f i = 0) →
    ∃ mr' f', gs_iter X (gs_exec X d) gT_X12_plainGuest F 2 [(0, .inr (.inr 116)), (1, .inl (Int32.ofNat (192 + 16 * g))), (2, .inl (Int32.ofNat j))] [] mr = gs_rU mr' ∧ gs_Sg S L m0 r0 A (owB B 13 (192 + 16 * g) 16 f') c1 c2 E mx mr' c v p q ∧ ∀ i, i < 16 → f' i = pln i := by
  intro k
  induction k with
  | zero =>
    intro j F mr f hj hF st hz
    obtain ⟨F, rfl⟩ : ∃ y, F = y + 1 := ⟨F - 1, by omega⟩
    have sr := st_sr cx st
    have ej : j = 16 := by omega
    subst ej
    have e4 : Int32.ofNat (192 + 16 * g) + (4 : Int32) = Int32.ofNat (192 + 16 * g + 4) := n_add _ 4
    have e11 : Int32.ofNat (192 + 16 * g) + (11 : Int32) = Int32.ofNat (192 + 16 * g + 11) := n_add _ 11
    have e12 : Int32.ofNat (192 + 16 * g) + (12 : Int32) = Int32.ofNat (192 + 16 * g + 12) := n_add _ 12
    have ix : ∀ i, i < 16 → ∀ K : Nat → gs_O, gs_ix mr 132 13 (Int32.ofNat (192 + 16 * g + i)) K = K (192 + 16 * g + i) := fun i hi K => gs_ixn sr.1 rfl (show 192 + 16 * g + i < 384 by omega)
    have ix0 : ∀ K : Nat → gs_O, gs_ix mr 132 13 (Int32.ofNat (192 + 16 * g)) K = K (192 + 16 * g) := fun K => ix 0 (by decide) K
    have rs : ∀ i, rsVb (119 + 13) (192 + 16 * g + i) := fun i => by unfold rsVb upr; omega
    have st1 : gs_Sg S L m0 r0 A (owB B 13 (192 + 16 * g) 16 (upf f 0 (-1))) c1 c2 E mx (gs_sI mr 132 (192 + 16 * g) (-1)) c v p q := st_wb st 0 (-1) (by decide) (rs 0)
    refine ⟨_, _, ?_, st_wb (st_wb (st_wb st1 4 (-1) (by decide) (rs 4)) 11 9 (by decide) (rs 11)) 12 (-1) (by decide) (rs 12), ?_⟩
    · rw [eq_X12_plainGuest_2, if_neg (by decide)]
      simp only [gs_fld_sI, gs_ix_sI, gs_sI22, fl_116 sr, sh_116_26 sr, gs_nn_s, e4, e11, e12, ix0, ix 4 (by decide), ix 11 (by decide), ix 12 (by decide)]
    · intro i hi
      unfold pln upf
      rw [hz i hi]
      by_cases h0 : i = 0
      · subst h0; rfl
      by_cases h4 : i = 4
      · subst h4; rfl
      by_cases h11 : i = 11
      · subst h11; rfl
      by_cases h12 : i = 12
      · subst h12; rfl
      rw [if_neg h12, if_neg h11, if_neg h4, if_neg h0, if_neg h0, if_neg h4, if_neg h11, if_neg h12]
  | succ k ih =>
    intro j F mr f hj hF st hz
    obtain ⟨F, rfl⟩ : ∃ y, F = y + 1 := ⟨F - 1, by omega⟩
    have sr := st_sr cx st
    have l16 : Int32.ofNat j < (16 : Int32) ↔ j < 16 := gs_nlt (b := 16) (by omega) (by decide)
    rw [eq_X12_plainGuest_2, if_pos (l16.mpr (by omega)), fl_116 sr, sh_116_26 sr, gs_nn_s, n_add, gs_ixn sr.1 (show gs_ok 132 13 153 = true from rfl) (show 192 + 16 * g + j < 384 by omega), gs_ns]
    refine ih (j + 1) F _ _ (by omega) (by omega) (st_wb st j 0 (by omega) (by unfold rsVb upr; omega)) (fun i hi => ?_)
    by_cases e : i = j
    · rw [e, upf_e]
    · rw [upf_n e]
      exact hz i (by omega)
theorem r_plainG (cx : gs_Cn X T S TR L by_ m0 r0) (hg : g < 12) (st : gs_Sg S L m0 r0 A (owB B 13 (192 + 16 * g) 16 f) c1 c2 E mx mr c v p q) : ∃ mr' f', gs_exec X (d + 1) 198 [.inr (.inr 116), .inl (Int32.ofNat (192 + 16 * g))] mr = gs_rU mr' ∧ gs_Sg S L m0 r0 A (owB B 13 (192 + 16 * g) 16 f') c1 c2 E mx mr' c v p q ∧ ∀ i, i < 16 → f' i = pln i := by
  rw [eq_X12_plainGuest]
  exact r_plainG_loop cx hg 16 0 X.1 mr f (by omega) (by have := cx.1; unfold gs_Fu at this; omega) st (fun i hi => by omega)
theorem x_tellSides {m : gs_M} {a : Int32} (sx : gs_Sx m T S) (hg : g < 12) : gs_exec X (d + 1) 23 [.inr (.inr (S + (27 + g))), .inl a] m = gs_rU (gs_sI (gs_sI (gs_sI m (S + (27 + g)) 7 a) (S + (27 + g)) 8 (f_east a)) (S + (27 + g)) 9 (f_north a)) := by
  rw [eq_X2_tellSides]
  simp only [gs_fld_sI, ytg sx hg]
  unfold f_east f_north
  repeat' split
  all_goals rfl
end RWT
/-! How a guest's row goes on. -/
section GUP
variable {a b : Nat → Int32} {n0 n1 n2 : Nat} {x : Int32}
theorem cm_up {i j : Nat} (h : ∀ y ∈ gs_cm, a y.1 = b y.2) (hc : ∀ y ∈ gs_cm, (y.1 = i ↔ y.2 = j)) : ∀ y ∈ gs_cm, upf a i x y.1 = upf b j x y.2 := by
  intro y hy
  by_cases e : y.1 = i
  · rw [e, (hc y hy).mp e, upf_e, upf_e]
  · rw [upf_n e, upf_n (fun z => e ((hc y hy).mpr z))]
    exact h y hy
theorem gRl_12 (h : gRl a b n0 n1 n2) (hx : isO x n2) : gRl (upf a 15 x) (upf b 12 x) n0 n1 n2 := by
  obtain ⟨h1, h2, e0, e1, e13, e2, e3, e4, e5, e6, e7, e8, e9, e10, e11, e12⟩ := h
  exact ⟨cm_up h1 (by decide), h2, e0, e1, e13, e2, e3, e4, e5, e6, e7, e8, e9, e10, e11, hx⟩
theorem gRl_4 (h : gRl a b n0 n1 n2) (hx : isO x n1) : gRl (upf a 5 x) (upf b 4 x) n0 n1 n2 := by
  obtain ⟨h1, h2, e0, e1, e13, e2, e3, e4, e5, e6, e7, e8, e9, e10, e11, e12⟩ := h
  exact ⟨cm_up h1 (by decide), h2, e0, e1, e13, e2, e3, hx, e5, e6, e7, e8, e9, e10, e11, e12⟩
theorem gRl_5 (h : gRl a b n0 n1 n2) (hx : isN x 21) : gRl (upf a 6 x) (upf b 5 x) n0 n1 n2 := by
  obtain ⟨h1, h2, e0, e1, e13, e2, e3, e4, e5, e6, e7, e8, e9, e10, e11, e12⟩ := h
  exact ⟨cm_up h1 (by decide), h2, e0, e1, e13, e2, e3, e4, hx, e6, e7, e8, e9, e10, e11, e12⟩
theorem gRl_11 (h : gRl a b n0 n1 n2) (hx : ∃ w : Nat, 1 ≤ w ∧ w ≤ 9 ∧ x = Int32.ofNat w) : gRl (upf a 14 x) (upf b 11 x) n0 n1 n2 := by
  obtain ⟨h1, h2, e0, e1, e13, e2, e3, e4, e5, e6, e7, e8, e9, e10, e11, e12⟩ := h
  exact ⟨cm_up h1 (by decide), h2, e0, e1, e13, e2, e3, e4, e5, e6, e7, e8, e9, e10, hx, e12⟩
theorem gRl_7 (h : gRl a b n0 n1 n2) (hx : isN x 1000) : gRl (upf a 10 x) (upf b 7 x) n0 n1 n2 := by
  obtain ⟨h1, h2, e0, e1, e13, e2, e3, e4, e5, e6, e7, e8, e9, e10, e11, e12⟩ := h
  exact ⟨cm_up h1 (by decide), h2, e0, e1, e13, e2, e3, e4, e5, e6, hx, e8, e9, e10, e11, e12⟩
theorem gRl_8 (h : gRl a b n0 n1 n2) (hx : isN x 21) : gRl (upf a 11 x) (upf b 8 x) n0 n1 n2 := by
  obtain ⟨h1, h2, e0, e1, e13, e2, e3, e4, e5, e6, e7, e8, e9, e10, e11, e12⟩ := h
  exact ⟨cm_up h1 (by decide), h2, e0, e1, e13, e2, e3, e4, e5, e6, e7, hx, e9, e10, e11, e12⟩
theorem gRl_9 (h : gRl a b n0 n1 n2) (hx : isN x 100) : gRl (upf a 12 x) (upf b 9 x) n0 n1 n2 := by
  obtain ⟨h1, h2, e0, e1, e13, e2, e3, e4, e5, e6, e7, e8, e9, e10, e11, e12⟩ := h
  exact ⟨cm_up h1 (by decide), h2, e0, e1, e13, e2, e3, e4, e5, e6, e7, e8, hx, e10, e11, e12⟩
theorem gRl_10 (h : gRl a b n0 n1 n2) (hx : isN x 2) : gRl (upf a 13 x) (upf b 10 x) n0 n1 n2 := by
  obtain ⟨h1, h2, e0, e1, e13, e2, e3, e4, e5, e6, e7, e8, e9, e10, e11, e12⟩ := h
  exact ⟨cm_up h1 (by decide), h2, e0, e1, e13, e2, e3, e4, e5, e6, e7, e8, e9, hx, e11, e12⟩
theorem gRl_6 (h : gRl a b n0 n1 n2) (hx : ∃ s ∈ gs_vs, x = Int32.ofNat s) : gRl (upf (upf (upf a 7 x) 8 (f_east x)) 9 (f_north x)) (upf b 6 x) n0 n1 n2 := by
  obtain ⟨h1, h2, e0, e1, e13, e2, e3, e4, e5, e6, e7, e8, e9, e10, e11, e12⟩ := h
  refine ⟨fun y hy => ?_, ⟨rfl, rfl⟩, e0, e1, e13, e2, e3, e4, e5, hx, e7, e8, e9, e10, e11, e12⟩
  have n8 : ∀ y ∈ gs_cm, y.1 ≠ 8 ∧ y.1 ≠ 9 := by decide
  rw [upf_n (n8 y hy).2, upf_n (n8 y hy).1]
  exact cm_up h1 (by decide) y hy
end GUP
