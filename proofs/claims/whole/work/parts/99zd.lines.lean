/-! Births of the tale that is read; the lines of a text. -/
section BIR
variable {X : gs_E} {d : Nat} {m : gs_M} {T0 T c blur : Nat} {x w : Int32}
theorem x_cornerAge2 {a y s l z : Nat} (hc : c < 10) (h : gs_Sx m T0 T) (h2 : m.2.1 (T + (39 + c)) 2 = Int32.ofNat y) (h3 : m.2.1 (T + (39 + c)) 3 = Int32.ofNat s) (hy : y ≤ z) (hz : z < 3000) (hs : s ≤ 9999) (hl : l < 100000000) (hb : blur < 100) (ha : a < 4) :
    gs_exec X (d + 3) 3 [.inr (.inr (T + (39 + c))), .inl (Int32.ofNat a), .inl (Int32.ofNat z), .inl (Int32.ofNat l), .inl (Int32.ofNat blur)] m = gs_rI (Int32.ofNat (nCor s l blur (z - y) (3 - a))) m := by
  have p1 : (s + blur) * (z - y) < 2147483648 := Nat.lt_of_le_of_lt (Nat.mul_le_mul (show s + blur ≤ 10098 by omega) (show z - y ≤ 3000 by omega)) (by decide)
  have p2 : (s - blur) * (z - y) < 2147483648 := Nat.lt_of_le_of_lt (Nat.mul_le_mul (show s - blur ≤ 10098 by omega) (show z - y ≤ 3000 by omega)) (by decide)
  have q1 : s + blur < 200000000 := by omega
  have q2 : s - blur < 200000000 := by omega
  have q3 : l + blur < 200000000 := by omega
  have q4 : l - blur < 200000000 := by omega
  rw [eq_X0_cornerAge, ytc h hc]
  simp only [x_max, gs_bI_s, ytc h hc, h2, h3, n_max0 (show s < 1000000000 by omega) (show blur < 1000 by omega), n_max0 (show l < 1000000000 by omega) (show blur < 1000 by omega), n_max1 (show s < 1000000000 by omega) (show blur < 1000 by omega), n_max1 (show l < 1000000000 by omega) (show blur < 1000 by omega), n_sub hy, x_ageOf q1 q3 p1, x_ageOf q1 q4 p1, x_ageOf q2 q3 p2, x_ageOf q2 q4 p2]
  unfold nCor
  rcases (show a = 0 ∨ a = 1 ∨ a = 2 ∨ a = 3 by omega) with rfl | rfl | rfl | rfl <;> rfl
theorem x_earliest2 {y s l z : Nat} (hX : gs_Fu X) (hc : c < 10) (h : gs_Sx m T0 T) (h2 : m.2.1 (T + (39 + c)) 2 = Int32.ofNat y) (h3 : m.2.1 (T + (39 + c)) 3 = Int32.ofNat s) (hy : y ≤ z) (hz : z < 3000) (hs : s ≤ 9999) (hl : l < 100000000) (hb : blur < 100) :
    gs_exec X (d + 4) 4 [.inr (.inr (T + (39 + c))), .inl (Int32.ofNat z), .inl (Int32.ofNat l), .inl (Int32.ofNat blur)] m = gs_rI (f_bf y s z l blur) m := by
  obtain ⟨F, hF⟩ : ∃ z, X.1 = z + 5 := ⟨X.1 - 5, by unfold gs_Fu at hX; omega⟩
  have k0 := x_cornerAge2 (X := X) (d := d) (m := m) hc h h2 h3 hy hz hs hl hb (show 0 < 4 by decide)
  have k1 := x_cornerAge2 (X := X) (d := d) (m := m) hc h h2 h3 hy hz hs hl hb (show 1 < 4 by decide)
  have k2 := x_cornerAge2 (X := X) (d := d) (m := m) hc h h2 h3 hy hz hs hl hb (show 2 < 4 by decide)
  have k3 := x_cornerAge2 (X := X) (d := d) (m := m) hc h h2 h3 hy hz hs hl hb (show 3 < 4 by decide)
  have b := nCor_le s l blur (z - y)
  have hy3 : y < 3000 := by omega
  have st : ∀ (n v k : Nat) (u : Int32), v < 4 → gs_iter X (gs_exec X (d + 3)) gT_X0_earliestBirth (n + 1) 7 [(0, .inr (.inr (T + (39 + c)))), (1, .inl (Int32.ofNat z)), (2, .inl (Int32.ofNat l)), (3, .inl (Int32.ofNat blur)), (4, .inl u), (5, .inl (Int32.ofNat v))] [] m = gs_iter X (gs_exec X (d + 3)) gT_X0_earliestBirth n 7 [(0, .inr (.inr (T + (39 + c)))), (1, .inl (Int32.ofNat z)), (2, .inl (Int32.ofNat l)), (3, .inl (Int32.ofNat blur)), (4, .inl (if Int32.ofNat y - Int32.ofNat (nCor s l blur (z - y) (3 - v)) < u then Int32.ofNat y - Int32.ofNat (nCor s l blur (z - y) (3 - v)) else u)), (5, .inl (Int32.ofNat (v + 1)))] [] m := by
    intro n v k u hv
    rw [eq_X0_earliestBirth_7, if_pos (by show _ < Int32.ofNat 4; rw [gs_nlt (by omega) (by omega)]; omega), ytc h hc, ytc h hc, x_cornerAge2 hc h h2 h3 hy hz hs hl hb hv, gs_bI_s, h2, x_min, gs_bI_s, gs_ns]
  rw [eq_X0_earliestBirth, hF]
  show gs_iter X (gs_exec X (d + 3)) gT_X0_earliestBirth (F + 4 + 1) 7 [(0, .inr (.inr (T + (39 + c)))), (1, .inl (Int32.ofNat z)), (2, .inl (Int32.ofNat l)), (3, .inl (Int32.ofNat blur)), (4, .inl 2147483647), (5, .inl (Int32.ofNat 0))] [] m = _
  rw [st (F + 4) 0 0 _ (by decide), st (F + 3) 1 0 _ (by decide), st (F + 2) 2 0 _ (by decide), st (F + 1) 3 0 _ (by decide), i_dtop hy3 (b _), i_dm hy3 (b _) (b _), i_dm hy3 (b _) (Nat.max_le.mpr ⟨b _, b _⟩), i_dm hy3 (b _) (Nat.max_le.mpr ⟨b _, Nat.max_le.mpr ⟨b _, b _⟩⟩), eq_X0_earliestBirth_7, if_neg (by decide)]
  unfold f_bf nOld
  congr 3
  show max (nCor s l blur (z - y) 0) (max (nCor s l blur (z - y) 1) (max (nCor s l blur (z - y) 2) (nCor s l blur (z - y) 3))) = _
  omega
theorem x_latest2 {y s l z w : Nat} (hX : gs_Fu X) (hc : c < 10) (h : gs_Sx m T0 T) (h2 : m.2.1 (T + (39 + c)) 2 = Int32.ofNat y) (h3 : m.2.1 (T + (39 + c)) 3 = Int32.ofNat s) (h6 : m.2.1 (T + (39 + c)) 6 = Int32.ofNat w) (hw : w ≤ 10) (hy : y ≤ z) (hz : z < 3000) (hs : s ≤ 9999) (hl : l < 100000000) (hb : blur < 100) :
    gs_exec X (d + 4) 5 [.inr (.inr (T + (39 + c))), .inl (Int32.ofNat z), .inl (Int32.ofNat l), .inl (Int32.ofNat blur)] m = gs_rI (f_bt y s z l w blur) m := by
  obtain ⟨F, hF⟩ : ∃ z, X.1 = z + 5 := ⟨X.1 - 5, by unfold gs_Fu at hX; omega⟩
  have b0 := nCor_le s l blur (z - y)
  have bm : ∀ k, nCor s l blur (z - y) k * w ≤ 99990 := fun k => Nat.mul_le_mul (b0 k) hw
  have b : ∀ k, nCor s l blur (z - y) k * w / 10 ≤ 9999 := fun k => by have := bm k; omega
  have hy3 : y < 3000 := by omega
  have st : ∀ (n v : Nat) (u : Int32), v < 4 → gs_iter X (gs_exec X (d + 3)) gT_X0_latestBirth (n + 1) 7 [(0, .inr (.inr (T + (39 + c)))), (1, .inl (Int32.ofNat z)), (2, .inl (Int32.ofNat l)), (3, .inl (Int32.ofNat blur)), (4, .inl u), (5, .inl (Int32.ofNat v))] [] m = gs_iter X (gs_exec X (d + 3)) gT_X0_latestBirth n 7 [(0, .inr (.inr (T + (39 + c)))), (1, .inl (Int32.ofNat z)), (2, .inl (Int32.ofNat l)), (3, .inl (Int32.ofNat blur)), (4, .inl (if u < Int32.ofNat y - Int32.ofNat (nCor s l blur (z - y) (3 - v) * w / 10) then Int32.ofNat y - Int32.ofNat (nCor s l blur (z - y) (3 - v) * w / 10) else u)), (5, .inl (Int32.ofNat (v + 1)))] [] m := by
    intro n v u hv
    have e10 : Int32.ofNat (nCor s l blur (z - y) (3 - v) * w) / (10 : Int32) = Int32.ofNat (nCor s l blur (z - y) (3 - v) * w / 10) := n_div (b := 10) (by have := bm (3 - v); omega) (by decide)
    rw [eq_X0_latestBirth_7, if_pos (by show _ < Int32.ofNat 4; rw [gs_nlt (by omega) (by omega)]; omega), ytc h hc, ytc h hc, x_cornerAge2 hc h h2 h3 hy hz hs hl hb hv, gs_bI_s, ytc h hc, gs_nz_n (by decide), h2, h6, n_mul, e10, x_max, gs_bI_s, gs_ns]
  rw [eq_X0_latestBirth, hF]
  show gs_iter X (gs_exec X (d + 3)) gT_X0_latestBirth (F + 4 + 1) 7 [(0, .inr (.inr (T + (39 + c)))), (1, .inl (Int32.ofNat z)), (2, .inl (Int32.ofNat l)), (3, .inl (Int32.ofNat blur)), (4, .inl (-2147483648)), (5, .inl (Int32.ofNat 0))] [] m = _
  rw [st (F + 4) 0 _ (by decide), st (F + 3) 1 _ (by decide), st (F + 2) 2 _ (by decide), st (F + 1) 3 _ (by decide), i_dbot hy3 (b _), i_dn hy3 (b _) (b _), i_dn hy3 (b _) (Nat.le_trans (Nat.min_le_left _ _) (b _)), i_dn hy3 (b _) (Nat.le_trans (Nat.min_le_left _ _) (b _)), eq_X0_latestBirth_7, if_neg (by decide)]
  unfold f_bt nNew
  congr 3
  show min (nCor s l blur (z - y) 0 * w / 10) (min (nCor s l blur (z - y) 1 * w / 10) (min (nCor s l blur (z - y) 2 * w / 10) (nCor s l blur (z - y) 3 * w / 10))) = _
  omega
end BIR
/-- births stand for the first k clouds, else A is A0 -/
def gs_BP (A A0 B : Nat → Nat → Int32) (blur k : Nat) : Prop := (∀ a i, ¬ (39 ≤ a ∧ a < 49 ∧ (i = 9 ∨ i = 10)) → A a i = A0 a i) ∧ ∀ c, c < k → A (39 + c) 9 = f_bf (bN (bc B c) 2) (bN (bc B c) 3) (bN (bc B c) 4) (bN (bc B c) 5) blur ∧ A (39 + c) 10 = f_bt (bN (bc B c) 2) (bN (bc B c) 3) (bN (bc B c) 4) (bN (bc B c) 5) (bN (bc B c) 6) blur
theorem bU_fld (m : gs_M) (a c : Nat) (o : gs_O) (k : gs_M → gs_O) : gs_bU (gs_fld m a c o) gs_th k = gs_fld m a c (gs_bU o gs_th k) := by
  unfold gs_fld
  cases gs_ok a c m.1.1 <;> rfl
theorem bI_id {o : gs_O} {x : Int32} {m : gs_M} (h : gs_bI o gs_th (fun x m => gs_rI x m) = gs_rI x m) : o = gs_rI x m := by
  match o, h with
  | none, h => exact h
  | some (.inr _, _), h => exact h
  | some (.inl none, _), h => exact absurd h (by simp [gs_bI, gs_rI])
  | some (.inl (some (.inl _)), _), h => exact h
  | some (.inl (some (.inr _)), _), h => exact absurd h (by simp [gs_bI, gs_rI])
section LNS
variable {X : gs_E} {d d' T S TR L : Nat} {by_ : Nat → Nat} {m0 r0 mx mr : gs_M} {A B : Nat → Nat → Int32} {c1 c2 E : Nat → Int32} {c v p q n0 n1 n2 n3 n5 n6 n7 n8 : Nat} {Q : gs_M → gs_M → Prop}
theorem j_birth {A0 : Nat → Nat → Int32} {blur : Nat} {x : Int32} (cx : gs_Cn X T S TR L by_ m0 r0) (rC : rRC A0 B n5) (hn : n5 ≤ 10) (e9 : A0 0 9 = Int32.ofNat n5) (e13 : A0 0 13 = Int32.ofNat blur) (hb : blur < 100) : ∀ (r k F : Nat) (A : Nat → Nat → Int32) (mx : gs_M), k + r = n5 → r < F → gs_Sg S L m0 r0 A B c1 c2 E mx mr c v p q → gs_BP A A0 B blur k →
    ∃ mx' A', gs_iter X (gs_exec X (d + 5)) gT_X5_readLines F 74 [(0, .inr (.inr 1)), (2, .inl x), (3, .inl (Int32.ofNat k))] [] mx = gs_rI x mx' ∧ gs_Sg S L m0 r0 A' B c1 c2 E mx' mr c v p q ∧ gs_BP A' A0 B blur n5 := by
  have hX := cx.1
  intro r
  induction r with
  | zero =>
    intro k F A mx hk hF st bp
    obtain ⟨F, rfl⟩ : ∃ y, F = y + 1 := ⟨F - 1, by omega⟩
    have sx := st_sx cx st
    have i9 : mx.2.1 S 9 = Int32.ofNat n5 := (st.2.2.1 0 9).trans ((bp.1 0 9 (by omega)).trans e9)
    have ek : k = n5 := by omega
    subst ek
    refine ⟨mx, A, ?_, st, bp⟩
    rw [eq_X5_readLines_74, yf1 sx, y_11 sx, gs_nn_s, yt0 sx, i9, if_neg (by rw [gs_nlt (by omega) (by omega)]; omega)]
  | succ r ih =>
    intro k F A mx hk hF st bp
    obtain ⟨F, rfl⟩ : ∃ y, F = y + 1 := ⟨F - 1, by omega⟩
    have sx := st_sx cx st
    have i9 : mx.2.1 S 9 = Int32.ofNat n5 := (st.2.2.1 0 9).trans ((bp.1 0 9 (by omega)).trans e9)
    have i13 : mx.2.1 S 13 = Int32.ofNat blur := (st.2.2.1 0 13).trans ((bp.1 0 13 (by omega)).trans e13)
    have k10 : k < 10 := by omega
    obtain ⟨ha, hv, v0, v1, v2, v4, v3, v5, v55, v6, v66, v7, v8, v78⟩ := rC k (by omega)
    have cell : ∀ i, i < 9 → mx.2.1 (S + (39 + k)) i = Int32.ofNat (bN (bc B k) i) := fun i hi => (st.2.2.1 (39 + k) i).trans ((bp.1 (39 + k) i (by omega)).trans ((ha i hi).trans (hv i hi)))
    have x1 := x_earliest2 (X := X) (d := d) (c := k) (blur := blur) hX k10 sx (cell 2 (by decide)) (cell 3 (by decide)) (show bN (bc B k) 2 ≤ bN (bc B k) 4 by omega) (by omega) (by omega) (show bN (bc B k) 5 < 100000000 by omega) hb
    have s1 := st_wx (a := 39 + k) (i := 9) (x := f_bf (bN (bc B k) 2) (bN (bc B k) 3) (bN (bc B k) 4) (bN (bc B k) 5) blur) cx st (by omega)
    have sx1 := st_sx cx s1
    have cell1 : ∀ i, i < 9 → (gs_sI mx (S + (39 + k)) 9 (f_bf (bN (bc B k) 2) (bN (bc B k) 3) (bN (bc B k) 4) (bN (bc B k) 5) blur)).2.1 (S + (39 + k)) i = Int32.ofNat (bN (bc B k) i) := fun i hi => by
      rw [gs_sIn (Or.inr (by omega))]
      exact cell i hi
    have x2 := x_latest2 (X := X) (d := d) (c := k) (blur := blur) hX k10 sx1 (cell1 2 (by decide)) (cell1 3 (by decide)) (cell1 6 (by decide)) v66 (show bN (bc B k) 2 ≤ bN (bc B k) 4 by omega) (by omega) (by omega) (show bN (bc B k) 5 < 100000000 by omega) hb
    have s2 := st_wx (a := 39 + k) (i := 10) (x := f_bt (bN (bc B k) 2) (bN (bc B k) 3) (bN (bc B k) 4) (bN (bc B k) 5) (bN (bc B k) 6) blur) cx s1 (by omega)
    rw [eq_X5_readLines_74]
    simp only [yf1 sx, y_11 sx, gs_nn_s, yt0 sx, i9, i13, y0_7 sx, ycx sx k10, yc sx k10, ytc sx k10]
    rw [if_pos (by rw [gs_nlt (by omega) (by omega)]; omega), eq_X0_reckonBirth]
    simp only [ytc sx k10, cell 4 (by decide), cell 5 (by decide), x1, gs_bI_s, gs_fld_sI, cell1 4 (by decide), cell1 5 (by decide), x2, gs_bU_s, gs_ns]
    refine ih (k + 1) F _ _ (by omega) (by omega) s2 ⟨fun a i h => ?_, fun c hc => ?_⟩
    · rw [up2_n (by omega), up2_n (by omega)]
      exact bp.1 a i h
    · by_cases e : c = k
      · subst e
        rw [up2_e, up2_n (Or.inr (by decide)), up2_e]
        exact ⟨rfl, rfl⟩
      · rw [up2_n (Or.inl (by omega)), up2_n (Or.inl (by omega)), up2_n (Or.inl (by omega)), up2_n (Or.inl (by omega))]
        exact bp.2 c (by omega)
theorem j_lines (cx : gs_Cn X T S TR L by_ m0 r0) : ∀ (r F F' k : Nat) (A B : Nat → Nat → Int32) (c1 c2 E : Nat → Int32) (n0 n1 n2 n3 n5 n6 n7 n8 : Nat) (mx mr : gs_M) (c v p q : Nat), L < p + r → r + 20 < F → r + 5 < F' → k ≤ p → gs_Sg S L m0 r0 A B c1 c2 E mx mr c v p q → gs_Rl A B c1 E n0 n1 n2 n3 n5 n6 n7 n8 →
    (∃ mx' mr', gs_iter X (gs_exec X (d + 7)) gT_X5_readLines F 37 [(0, .inr (.inr 1)), (2, .inl (Int32.ofNat k))] [] mx = gs_th 0 (gs_gb mx') ∧ gs_iter X (gs_exec X (d' + 9)) gT_X12_text F' 55 [(0, .inr (.inr 116)), (2, .inl (Int32.ofNat k))] [] mr = gs_rI (-1) mr' ∧ gs_Wx (rsAf S) m0 mx' ∧ gs_Wx rsVf r0 mr' ∧ mx'.2.1 1 9 = mr'.2.1 116 4 ∧ mx'.2.1 1 10 = mr'.2.1 116 5) ∨
    (∃ (kk : Nat) (mx' mr' : gs_M) (A' A0 B' : Nat → Nat → Int32) (c1' c2' E' : Nat → Int32) (n0' n1' n2' n3' n5' n6' n7' n8' blur c' v' p' q' : Nat), gs_iter X (gs_exec X (d + 7)) gT_X5_readLines F 37 [(0, .inr (.inr 1)), (2, .inl (Int32.ofNat k))] [] mx = gs_rI (Int32.ofNat kk) mx' ∧ gs_iter X (gs_exec X (d' + 9)) gT_X12_text F' 55 [(0, .inr (.inr 116)), (2, .inl (Int32.ofNat k))] [] mr = gs_bU (gs_exec X (d' + 9) 190 [.inr (.inr 116)] mr') gs_th (fun m1 => gs_rI (Int32.ofNat kk) m1) ∧ gs_Sg S L m0 r0 A' B' c1' c2' E' mx' mr' c' v' p' q' ∧ gs_Rl A0 B' c1' E' n0' n1' n2' n3' n5' n6' n7' n8' ∧ (B' 4 3 = Int32.ofNat blur ∧ blur < 100) ∧ gs_BP A' A0 B' blur n5') := by
  have L8 : L ≤ 800 := cx.2.2.2.1.1
  intro r
  induction r with
  | zero =>
    intro F F' k A B c1 c2 E n0 n1 n2 n3 n5 n6 n7 n8 mx mr c v p q hL hF hF' hk st rl
    have := st.2.2.2.2.2.2.2.2.2.2.2.2.2.2.2.2.2.1
    omega
  | succ r ih =>
    intro F F' k A B c1 c2 E n0 n1 n2 n3 n5 n6 n7 n8 mx mr c v p q hL hF hF' hk st rl
    obtain ⟨F, rfl⟩ : ∃ y, F = y + 1 := ⟨F - 1, by omega⟩
    obtain ⟨F', rfl⟩ : ∃ y, F' = y + 1 := ⟨F' - 1, by omega⟩
    have sx := st_sx cx st
    have sr := st_sr cx st
    have t := st.2.2.2.2.2.2.2
    have hc := t.1
    have q5 : mx.2.1 3 5 = Int32.ofNat c := t.2.1
    have q8 : mr.2.1 116 8 = Int32.ofNat (rk c) := t.2.2.2.2.2.2.1
    have pL : p ≤ L := st.2.2.2.2.2.2.2.2.2.2.2.2.2.2.2.2.2.1
    have qL : q ≤ L := st.2.2.2.2.2.2.2.2.2.2.2.2.2.2.2.2.2.2.1
    have c34 : Int32.ofNat c = (34 : Int32) ↔ c = 34 := n_eq (b := 34) (by omega) (by decide)
    have r0' : Int32.ofNat (rk c) = (0 : Int32) ↔ rk c = 0 := n_eq (b := 0) (by have := rk_lt c hc; omega) (by decide)
    have cr : ∀ c, c < 49 → (rk c = 0 ↔ c = 34) := by decide
    rw [eq_X5_readLines_37, eq_X12_text_55]
    simp only [yf1 sx, y_18 sx, gs_nn_s, yf3 sx, q5, fl_116 sr, q8]
    by_cases z : c = 34
    · rw [if_pos (c34.mpr z), if_pos (r0'.mpr ((cr c hc).mpr z))]
      obtain ⟨⟨⟨a0, a1, a2, a3, a5, a6, a7, a8⟩, ⟨b0, b1, b2, b3, b5, b6, b7, b8⟩, bd⟩, rR, rP, rB, rG, rC, rW, rK, rS, rU, u4, u43⟩ := id rl
      obtain ⟨-, -, -, ⟨x3, blur, hbl, ebl⟩, -⟩ := rU
      obtain ⟨mx', A', e1, s1, bp⟩ := j_birth (X := X) (d := d + 2) (A0 := A) (blur := blur) (x := Int32.ofNat k) cx rC bd.2.2.2.2.1 a5 (x3.trans ebl) hbl n5 0 F A mx (by omega) (by omega) st ⟨fun _ _ _ => rfl, fun c hc => by omega⟩
      exact Or.inr ⟨k, mx', mr, A', A, B, c1, c2, E, n0, n1, n2, n3, n5, n6, n7, n8, blur, c, v, p, q, e1, rfl, s1, rl, ⟨ebl, hbl⟩, bp⟩
    · have pq := st_pq st z
      have l8 : Int32.ofNat k < (800 : Int32) := (gs_nlt (b := 800) (by omega) (by decide)).mpr (by omega)
      rw [if_neg (fun y => z (c34.mp y)), if_pos l8, if_neg (fun y => z ((cr c hc).mp (r0'.mp y)))]
      have jl := j_line (X := X) (d := d) (d' := d') (Q := fun mx' mr' => ∃ (A' B' : Nat → Nat → Int32) (c1' c2' E' : Nat → Int32) (n0' n1' n2' n3' n5' n6' n7' n8' c' v' p' q' : Nat), p < p' ∧ gs_Sg S L m0 r0 A' B' c1' c2' E' mx' mr' c' v' p' q' ∧ gs_Rl A' B' c1' E' n0' n1' n2' n3' n5' n6' n7' n8') (Kx := fun m => gs_rU m) (Kr := fun x m => gs_rI x m) cx st rl z (fun m => rfl) (fun A' B' c1' c2' E' n0' n1' n2' n3' n5' n6' n7' n8' mx' mr' c' v' p' q' hp s' rl' => Or.inr ⟨mx', mr', rfl, rfl, A', B', c1', c2', E', n0', n1', n2', n3', n5', n6', n7', n8', c', v', p', q', hp, s', rl'⟩)
      have ec : ∀ G : gs_M → gs_O, gs_bU (gs_exec X (d + 7) 49 [.inr (.inr 1)] mx) gs_th (fun m2 => gs_fld m2 1 5 (gs_bU (gs_exec X (d + 7) 44 [.inr (.inr 1), .inl (36 : Int32)] m2) gs_th G)) = gs_bU (gs_bU (gs_exec X (d + 7) 49 [.inr (.inr 1)] mx) gs_th (fun m2 => gs_fld m2 1 5 (gs_bU (gs_exec X (d + 7) 44 [.inr (.inr 1), .inl (36 : Int32)] m2) gs_th (fun m => gs_rU m)))) gs_th G := fun G => by
        simp only [bU_bU, bU_fld, gs_bU_s]
      rw [ec]
      rcases jl with ⟨mx', mr', e1, e2, w1, w2, f1, f2⟩ | ⟨mx', mr', e1, e2, A', B', c1', c2', E', n0', n1', n2', n3', n5', n6', n7', n8', c', v', p', q', hp, s', rl'⟩
      · rw [e1, bI_id e2, gs_bI_s, if_pos rfl]
        exact Or.inl ⟨mx', mr', rfl, rfl, w1, w2, f1, f2⟩
      · rw [e1, bI_id e2, gs_bI_s, if_neg i10, gs_bU_s, gs_ns]
        exact ih F F' (k + 1) A' B' c1' c2' E' n0' n1' n2' n3' n5' n6' n7' n8' mx' mr' c' v' p' q' (by omega) (by omega) (by omega) (by omega) s' rl'
end LNS
