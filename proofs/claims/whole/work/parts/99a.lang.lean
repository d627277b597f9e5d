/-! The class looks a word up among the words of the language. -/
def gs_lang : List Nat := [609525184, 236590080, 83340288, 220705792, 257085056, 619817984, 316669952, 475056128, 404345440, 86285588, 452662880, 788091136, 672444416, 113759360, 549507232, 650632192, 680635392, 653873152, 773459200, 693712896, 556043424, 412526208, 80398336, 486101248, 653971712, 169463808, 777637888, 522190848, 48365568, 486146048, 316776627, 452415744]
abbrev lng (k : Nat) : Nat := gs_lang.getD k 0
theorem lng_lt : ∀ k, k < 32 → lng k < 1073741824 := by decide
def gs_Lg (m : gs_M) : Prop := ∀ k, k < 32 → m.2.1 5 k = Int32.ofNat (lng k)
/-- the last of the first i words that is v, or 32 -/
def kWd (v : Nat) : Nat → Nat
  | 0 => 32
  | k + 1 => if lng k = v then k else kWd v k
theorem pkV_lt {by_ : Nat → Nat} {a : Nat} : ∀ c, (∀ j, j < c → isSm (by_ (a + j))) → pkV by_ a c < 32 ^ c
  | 0, _ => by
    show 0 < 1
    decide
  | c + 1, h => by
    have i := pkV_lt c (fun j hj => h j (by omega))
    have := (h c (by omega)).2
    rw [pkV_s, Nat.pow_succ]
    omega
theorem pk_bnd {by_ : Nat → Nat} {a c : Nat} (hc : c ≤ 6) (h : ∀ j, j < c → isSm (by_ (a + j))) : pkV by_ a c * 32 ^ (6 - c) < 1073741824 := by
  have i := pkV_lt c h
  have e : 32 ^ c * 32 ^ (6 - c) = 1073741824 := by
    rw [← Nat.pow_add, show c + (6 - c) = 6 by omega]
  rw [← e]
  exact Nat.mul_lt_mul_of_pos_right i (Nat.pow_pos (by decide))
section LA
variable {X : gs_E} {d : Nat} {m M : gs_M} {T L p v a len : Nat} {by_ : Nat → Nat}
theorem x_lang_loop (h : gs_Sh m T) (hG : gs_Lg m) (hv : v < 1073741824) : ∀ (q i F : Nat) (M : gs_M), i + q = 32 → q < F → gs_Wx rsX m M → M.2.1 3 7 = Int32.ofNat v → M.2.1 3 5 = Int32.ofNat (kWd v i) →
    ∃ M', gs_iter X (gs_exec X d) gT_X9_takeWord F 142 [(0, .inr (.inr 3)), (2, .inl (Int32.ofNat i))] [] M = gs_rU M' ∧ gs_Wx rsX m M' ∧ M'.2.1 3 5 = Int32.ofNat (kWd v 32) ∧ M'.2.1 3 7 = Int32.ofNat v ∧ M'.2.1 3 3 = M.2.1 3 3 ∧ M'.2.1 3 6 = M.2.1 3 6 := by
  intro q
  induction q with
  | zero =>
    intro i F M hi hF hW h7 h5
    obtain ⟨F, rfl⟩ : ∃ y, F = y + 1 := ⟨F - 1, by omega⟩
    have ei : i = 32 := by omega
    subst ei
    refine ⟨M, ?_, hW, h5, h7, rfl, rfl⟩
    rw [eq_X9_takeWord_142, if_neg (by decide)]
  | succ q ih =>
    intro i F M hi hF hW h7 h5
    obtain ⟨F, rfl⟩ : ∃ y, F = y + 1 := ⟨F - 1, by omega⟩
    have hM := wc_sh h hW
    have hg : M.2.1 5 i = Int32.ofNat (lng i) := (hW.2.2 5 i (fun q => by unfold rsX at q; omega)).trans (hG i (by omega))
    have bl := lng_lt i (by omega)
    have l32 : Int32.ofNat i < (32 : Int32) ↔ i < 32 := gs_nlt (b := 32) (by omega) (by decide)
    have e : kWd v (i + 1) = if lng i = v then i else kWd v i := rfl
    have eq := n_eq (a := lng i) (b := v) (by omega) (by omega)
    rw [eq_X9_takeWord_142, if_pos (l32.mpr (by omega)), fl_3 hM, sh_3_1 hM, gs_nn_s, gs_ixn hM.1 (show gs_ok 5 13 153 = true from rfl) (show i < 32 by omega), fl_3 hM, hg, h7, gs_ns]
    by_cases z : lng i = v
    · rw [if_pos z] at e
      rw [if_pos (eq.mpr z), fl_3 hM]
      obtain ⟨M', a1, a2, a3, a4, a5, a6⟩ := ih (i + 1) F (gs_sI M 3 5 (Int32.ofNat i)) (by omega) (by omega) (wx_sI hW ⟨rfl, Or.inr (Or.inl rfl)⟩) (by rw [gs_sIn (Or.inr (by decide))]; exact h7) (by rw [gs_sIe, e])
      exact ⟨M', a1, a2, a3, a4, by rw [a5, gs_sIn (Or.inr (by decide))], by rw [a6, gs_sIn (Or.inr (by decide))]⟩
    · rw [if_neg z] at e
      rw [if_neg (fun y => z (eq.mp y))]
      exact ih (i + 1) F M (by omega) (by omega) hW h7 (by rw [e]; exact h5)
/-- the class's kind and value of a word from a to e -/
theorem x_takeWord (hX : gs_Fu X) (h : gs_Sh m T) (hB : gs_Bx m by_ L) (hG : gs_Lg m) (ha : a ≤ L) (h3 : m.2.1 3 3 = Int32.ofNat a) (h6 : m.2.1 3 6 = Int32.ofNat a) : ∃ M', gs_exec X (d + 1) 109 [.inr (.inr 3)] m = gs_rU M' ∧ gs_Wx rsX m M' ∧ M'.2.1 3 3 = Int32.ofNat (wEnd by_ (L - a) a) ∧ M'.2.1 3 6 = Int32.ofNat a ∧ (6 < wEnd by_ (L - a) a - a → M'.2.1 3 5 = 35) ∧ (wEnd by_ (L - a) a - a ≤ 6 → M'.2.1 3 5 = Int32.ofNat (kWd (pkV by_ a (wEnd by_ (L - a) a - a) * 32 ^ (6 - (wEnd by_ (L - a) a - a))) 32) ∧ M'.2.1 3 7 = Int32.ofNat (pkV by_ a (wEnd by_ (L - a) a - a) * 32 ^ (6 - (wEnd by_ (L - a) a - a)))) := by
  have hL := hB.1
  have le := wEnd_le (by_ := by_) (L - a) a
  have sm := wEnd_sm (by_ := by_) (L - a) a
  obtain ⟨M1, F1, f1, w1, g3, g6, e1, c1, c2⟩ := x_word_loop (X := X) (d := d) (a := a) h hB (L - a) a X.1 (gs_sI m 3 7 0) (by omega) (Nat.le_refl _) (by unfold gs_Fu at hX; omega) (wx_sI (wx_refl m) ⟨rfl, Or.inr (Or.inr (Or.inr rfl))⟩) (by rw [gs_sIn (Or.inr (by decide))]; exact h3) (by rw [gs_sIn (Or.inr (by decide))]; exact h6) (by rw [gs_sIe, Nat.sub_self]; rfl)
  rw [eq_X9_takeWord, fl_3 h]
  generalize wEnd by_ (L - a) a = e at le sm g3 e1 c1 c2 ⊢
  show ∃ M', gs_iter X (gs_exec X d) gT_X9_takeWord X.1 5 [(0, .inr (.inr 3))] [] (gs_sI m 3 7 0) = gs_rU M' ∧ _
  rw [e1]
  by_cases z : 6 < e - a
  · rw [if_pos z]
    exact ⟨M1, rfl, w1, g3, g6, c1, fun y => by omega⟩
  · rw [if_neg z]
    obtain ⟨k5, k7⟩ := c2 (by omega)
    obtain ⟨M2, b1, b2, b3, b4, b5, b6⟩ := x_lang_loop (X := X) (d := d) (m := m) h hG (pk_bnd (by_ := by_) (a := a) (c := e - a) (by omega) (fun j hj => sm (a + j) (by omega) (by omega))) 32 0 F1 M1 (by omega) (by omega) w1 k7 k5
    exact ⟨M2, b1, b2, b5.trans g3, b6.trans g6, fun y => absurd y z, fun _ => ⟨b3, b4⟩⟩
end LA
