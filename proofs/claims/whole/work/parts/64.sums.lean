/-! The rules of sorts in the reference; sort and odds. -/
section SUM
variable {X : gs_E} {d : Nat} {m M : gs_M} {T n n0 n1 n2 n6 n8 turn g k l f q F s p o j : Nat} {x w y : Int32}
theorem r_i139 (h : gs_Sh m T) (hk : k < 64) {K : Nat → gs_O} : gs_ix m 139 13 (Int32.ofNat k) K = K k := gs_ixn h.1 rfl (by show k < 128; omega)
theorem r_i140 (h : gs_Sh m T) (hk : k < 64) {K : Nat → gs_O} : gs_ix m 140 13 (Int32.ofNat k) K = K k := gs_ixn h.1 rfl (by show k < 128; omega)
theorem r_i141 (h : gs_Sh m T) (hk : k < 64) {K : Nat → gs_O} : gs_ix m 141 13 (Int32.ofNat k) K = K k := gs_ixn h.1 rfl (by show k < 128; omega)
theorem r_i144 (h : gs_Sh m T) (hk : p < 6) {K : Nat → gs_O} : gs_ix m 144 14 (Int32.ofNat p) K = K p := gs_ixn h.1 rfl hk
theorem r_i145 (h : gs_Sh m T) (hk : p < 64) {K : Nat → gs_O} : gs_ix m 145 14 (Int32.ofNat p) K = K p := gs_ixn h.1 rfl hk
theorem r_vo0 (h : gs_Sh m T) (hk : k < 64) (e1 : m.2.1 139 k = Int32.ofNat 0) (e2 : m.2.1 140 k = Int32.ofNat p) (hp : p ≤ 9999) : gs_exec X (d + 2) 225 [.inr (.inr 116), .inl (Int32.ofNat k)] m = gs_rJ (Int64.ofNat p) m := by
  rw [eq_X12_valueOf, fl_116 h, sh_116_33 h, gs_nn_s, r_i139 h hk, e1, if_pos (show Int32.ofNat 0 = 0 from rfl), fl_116 h, sh_116_34 h, gs_nn_s, r_i140 h hk, e2, l_32 (by omega)]
theorem r_vo1 (h : gs_Sh m T) (hk : k < 64) (e1 : m.2.1 139 k = Int32.ofNat 1) (e2 : m.2.1 140 k = Int32.ofNat p) (hp : p < 6) : gs_exec X (d + 2) 225 [.inr (.inr 116), .inl (Int32.ofNat k)] m = gs_rJ (m.2.2.1 144 p) m := by
  rw [eq_X12_valueOf, fl_116 h, sh_116_33 h, gs_nn_s, r_i139 h hk, e1, if_neg (show ¬ Int32.ofNat 1 = 0 by decide), fl_116 h, gs_nn_s, r_i139 h hk, e1, if_pos (show Int32.ofNat 1 = 1 from rfl), fl_116 h, sh_116_46 h, gs_nn_s, fl_116 h, sh_116_34 h, gs_nn_s, r_i140 h hk, e2, r_i144 h hp]
theorem r_vo2 (h : gs_Sh m T) (hk : k < 64) (e1 : m.2.1 139 k = Int32.ofNat 2) (e2 : m.2.1 140 k = Int32.ofNat p) (hp : p < 64) : gs_exec X (d + 2) 225 [.inr (.inr 116), .inl (Int32.ofNat k)] m = gs_rJ (if lg_cmp (m.2.2.1 145 p) 0 = 0 then 1 else 0) m := by
  rw [eq_X12_valueOf, fl_116 h, sh_116_33 h, gs_nn_s, r_i139 h hk, e1, if_neg (show ¬ Int32.ofNat 2 = 0 by decide), fl_116 h, gs_nn_s, r_i139 h hk, e1, if_neg (show ¬ Int32.ofNat 2 = 1 by decide), fl_116 h, sh_116_47 h, gs_nn_s, fl_116 h, sh_116_34 h, gs_nn_s, r_i140 h hk, e2, r_i145 h hp, fl_116 h, gs_nn_s, r_i139 h hk, e1, if_pos (show Int32.ofNat 2 = 2 from rfl), gs_if_rJ]
abbrev r_v3 (X : gs_E) (d : Nat) (m : gs_M) (j : Nat) (a b : Int64) : gs_O := if Int32.ofNat j = 3 then if (lg_cmp a (0 : Int64)) = 0 then gs_rJ (0 : Int64) m else if (lg_cmp b (0 : Int64)) = 0 then gs_rJ (0 : Int64) m else gs_rJ (1 : Int64) m else if Int32.ofNat j = 4 then if (lg_cmp a (0 : Int64)) = 0 then if (lg_cmp b (0 : Int64)) = 0 then gs_rJ (0 : Int64) m else gs_rJ (1 : Int64) m else gs_rJ (1 : Int64) m else if Int32.ofNat j = 11 then gs_fld m 116 11 (gs_bJ (gs_exec X d 222 [.inr (.inr 116), .inr (.inl (a + b))] m) gs_th (fun x24 m23 => gs_rJ x24 m23)) else if Int32.ofNat j = 12 then gs_fld m 116 11 (gs_bJ (gs_exec X d 222 [.inr (.inr 116), .inr (.inl (a - b))] m) gs_th (fun x26 m25 => gs_rJ x26 m25)) else if Int32.ofNat j = 13 then gs_fld m 116 11 (gs_bJ (gs_exec X d 224 [.inr (.inr 116), .inr (.inl a), .inr (.inl b)] m) gs_th (fun x28 m27 => gs_rJ x28 m27)) else if Int32.ofNat j = 14 then gs_fld m 116 11 (if (m.2.1 116 48) = 0 then if (lg_cmp b (0 : Int64)) = 0 then gs_fld m 116 11 (gs_bt (1 : Int32) (gs_fld (gs_sI m 116 48 (1 : Int32)) 116 11 (if ((gs_sI m 116 48 (1 : Int32)).2.1 116 48) = 0 then gs_nzL b (gs_rJ (a / b) (gs_sI m 116 48 (1 : Int32))) else gs_rJ (0 : Int64) (gs_sI m 116 48 (1 : Int32))))) else gs_fld m 116 11 (gs_bt (0 : Int32) (gs_fld (gs_sI m 116 48 (0 : Int32)) 116 11 (if ((gs_sI m 116 48 (0 : Int32)).2.1 116 48) = 0 then gs_nzL b (gs_rJ (a / b) (gs_sI m 116 48 (0 : Int32))) else gs_rJ (0 : Int64) (gs_sI m 116 48 (0 : Int32))))) else gs_fld m 116 11 (gs_bt (1 : Int32) (gs_fld (gs_sI m 116 48 (1 : Int32)) 116 11 (if ((gs_sI m 116 48 (1 : Int32)).2.1 116 48) = 0 then gs_nzL b (gs_rJ (a / b) (gs_sI m 116 48 (1 : Int32))) else gs_rJ (0 : Int64) (gs_sI m 116 48 (1 : Int32)))))) else gs_bI (gs_exec X d 223 [.inl (Int32.ofNat j), .inr (.inl a), .inr (.inl b)] m) gs_nt (fun x35 m34 => if x35 = 0 then gs_rJ (0 : Int64) m34 else gs_rJ (1 : Int64) m34)
theorem n_j15 : ∀ j, j ≤ 14 → 3 ≤ j → ¬ Int32.ofNat j = 0 ∧ ¬ Int32.ofNat j = 1 ∧ ¬ Int32.ofNat j = 2 := by decide
theorem r_vo3x (h : gs_Sh m T) (hk : k < 64) (e1 : m.2.1 139 k = Int32.ofNat j) (h3 : 3 ≤ j) (h14 : j ≤ 14) (e2 : m.2.1 140 k = Int32.ofNat p) (hp : p < 64) (e3 : m.2.1 141 k = Int32.ofNat o) (ho : o < 64) : gs_exec X (d + 2) 225 [.inr (.inr 116), .inl (Int32.ofNat k)] m = r_v3 X (d + 1) m j (m.2.2.1 145 p) (m.2.2.1 145 o) := by
  obtain ⟨c0, c1, c2⟩ := n_j15 j h14 h3
  rw [eq_X12_valueOf, fl_116 h, sh_116_33 h, gs_nn_s, r_i139 h hk, e1, if_neg c0, fl_116 h, gs_nn_s, r_i139 h hk, e1, if_neg c1, fl_116 h, sh_116_47 h, gs_nn_s, fl_116 h, sh_116_34 h, gs_nn_s, r_i140 h hk, e2, r_i145 h hp, fl_116 h, gs_nn_s, r_i139 h hk, e1, if_neg c2, fl_116 h, gs_nn_s, fl_116 h, sh_116_35 h, gs_nn_s, r_i141 h hk, e3, r_i145 h ho, fl_116 h, gs_nn_s, r_i139 h hk, e1, fl_116 h (k := gs_nn _ _), gs_nn_s, r_i139 h hk, e1]
theorem r_v3_0 {a b : Int64} (hX : gs_Fu X) (h : gs_Sh m T) (he : m.2.1 116 48 = 0) (h3 : 3 ≤ j) (h14 : j ≤ 14) : r_v3 X (d + 1) m j a b = r_re m (f_ap j a b) := by
  have h1 : ∀ x : Int32, gs_Sh (gs_sI m 116 48 x) T := fun x => h
  unfold r_v3
  rcases (show j = 3 ∨ j = 4 ∨ (5 ≤ j ∧ j ≤ 10) ∨ j = 11 ∨ j = 12 ∨ j = 13 ∨ j = 14 by omega) with rfl | rfl | hj | rfl | rfl | rfl | rfl
  · rw [if_pos (show Int32.ofNat 3 = 3 from rfl)]
    show _ = r_re m (some (if lg_cmp a 0 = 0 then 0 else if lg_cmp b 0 = 0 then 0 else 1))
    by_cases u : lg_cmp a 0 = 0
    · rw [if_pos u, if_pos u]; rfl
    · rw [if_neg u, if_neg u]
      by_cases v : lg_cmp b 0 = 0
      · rw [if_pos v, if_pos v]; rfl
      · rw [if_neg v, if_neg v]; rfl
  · rw [if_neg (show ¬ Int32.ofNat 4 = 3 by decide), if_pos (show Int32.ofNat 4 = 4 from rfl)]
    show _ = r_re m (some (if lg_cmp a 0 = 0 then (if lg_cmp b 0 = 0 then 0 else 1) else 1))
    by_cases u : lg_cmp a 0 = 0
    · rw [if_pos u, if_pos u]
      by_cases v : lg_cmp b 0 = 0
      · rw [if_pos v, if_pos v]; rfl
      · rw [if_neg v, if_neg v]; rfl
    · rw [if_neg u, if_neg u]; rfl
  · have c : ∀ i, i ≤ 10 → 5 ≤ i → ¬ Int32.ofNat i = 3 ∧ ¬ Int32.ofNat i = 4 ∧ ¬ Int32.ofNat i = 11 ∧ ¬ Int32.ofNat i = 12 ∧ ¬ Int32.ofNat i = 13 ∧ ¬ Int32.ofNat i = 14 := by decide
    obtain ⟨a1, a2, a3, a4, a5, a6⟩ := c j hj.2 hj.1
    obtain ⟨v, e, e'⟩ := r_compares (X := X) (d := d) (m := m) (a := a) (b := b) hj.1 hj.2
    rw [if_neg a1, if_neg a2, if_neg a3, if_neg a4, if_neg a5, if_neg a6, e, gs_bI_s]
    exact e'
  · rw [if_neg (show ¬ Int32.ofNat 11 = 3 by decide), if_neg (show ¬ Int32.ofNat 11 = 4 by decide), if_pos (show Int32.ofNat 11 = 11 from rfl), fl_116 h, r_bounded h he, r_re_b]
    rfl
  · rw [if_neg (show ¬ Int32.ofNat 12 = 3 by decide), if_neg (show ¬ Int32.ofNat 12 = 4 by decide), if_neg (show ¬ Int32.ofNat 12 = 11 by decide), if_pos (show Int32.ofNat 12 = 12 from rfl), fl_116 h, r_bounded h he, r_re_b]
    rfl
  · rw [if_neg (show ¬ Int32.ofNat 13 = 3 by decide), if_neg (show ¬ Int32.ofNat 13 = 4 by decide), if_neg (show ¬ Int32.ofNat 13 = 11 by decide), if_neg (show ¬ Int32.ofNat 13 = 12 by decide), if_pos (show Int32.ofNat 13 = 13 from rfl), fl_116 h, r_times hX h he, r_re_b]
    rfl
  · rw [if_neg (show ¬ Int32.ofNat 14 = 3 by decide), if_neg (show ¬ Int32.ofNat 14 = 4 by decide), if_neg (show ¬ Int32.ofNat 14 = 11 by decide), if_neg (show ¬ Int32.ofNat 14 = 12 by decide), if_neg (show ¬ Int32.ofNat 14 = 13 by decide), if_pos (show Int32.ofNat 14 = 14 from rfl)]
    show _ = r_re m (if lg_cmp b 0 = 0 then none else some (a / b))
    simp only [fl_116 h, fl_116 (h1 0), fl_116 (h1 1), gs_bt0, gs_bt1, gs_sIe, gs_sI_id he, he, if_pos (show (0 : Int32) = 0 from rfl), if_neg (show ¬ (1 : Int32) = 0 by decide)]
    by_cases v : lg_cmp b 0 = 0
    · rw [if_pos v, if_pos v]; rfl
    · rw [if_neg v, if_neg v, gs_nzL_n (fun q => v (j_ce.mpr q))]; rfl
theorem r_v3_1 {a b : Int64} (hX : gs_Fu X) (h : gs_Sh m T) (he : m.2.1 116 48 = 1) (h3 : 3 ≤ j) (h14 : j ≤ 14) : ∃ v, r_v3 X (d + 1) m j a b = gs_rJ v m := by
  unfold r_v3
  rcases (show j = 3 ∨ j = 4 ∨ (5 ≤ j ∧ j ≤ 10) ∨ j = 11 ∨ j = 12 ∨ j = 13 ∨ j = 14 by omega) with rfl | rfl | hj | rfl | rfl | rfl | rfl
  · rw [if_pos (show Int32.ofNat 3 = 3 from rfl)]
    split
    · exact ⟨_, rfl⟩
    · split <;> exact ⟨_, rfl⟩
  · rw [if_neg (show ¬ Int32.ofNat 4 = 3 by decide), if_pos (show Int32.ofNat 4 = 4 from rfl)]
    split
    · split <;> exact ⟨_, rfl⟩
    · exact ⟨_, rfl⟩
  · have c : ∀ i, i ≤ 10 → 5 ≤ i → ¬ Int32.ofNat i = 3 ∧ ¬ Int32.ofNat i = 4 ∧ ¬ Int32.ofNat i = 11 ∧ ¬ Int32.ofNat i = 12 ∧ ¬ Int32.ofNat i = 13 ∧ ¬ Int32.ofNat i = 14 := by decide
    obtain ⟨a1, a2, a3, a4, a5, a6⟩ := c j hj.2 hj.1
    obtain ⟨v, e, -⟩ := r_compares (X := X) (d := d) (m := m) (a := a) (b := b) hj.1 hj.2
    rw [if_neg a1, if_neg a2, if_neg a3, if_neg a4, if_neg a5, if_neg a6, e, gs_bI_s]
    split <;> exact ⟨_, rfl⟩
  · rw [if_neg (show ¬ Int32.ofNat 11 = 3 by decide), if_neg (show ¬ Int32.ofNat 11 = 4 by decide), if_pos (show Int32.ofNat 11 = 11 from rfl), fl_116 h, r_bounded1 h he]
    exact ⟨_, rfl⟩
  · rw [if_neg (show ¬ Int32.ofNat 12 = 3 by decide), if_neg (show ¬ Int32.ofNat 12 = 4 by decide), if_neg (show ¬ Int32.ofNat 12 = 11 by decide), if_pos (show Int32.ofNat 12 = 12 from rfl), fl_116 h, r_bounded1 h he]
    exact ⟨_, rfl⟩
  · rw [if_neg (show ¬ Int32.ofNat 13 = 3 by decide), if_neg (show ¬ Int32.ofNat 13 = 4 by decide), if_neg (show ¬ Int32.ofNat 13 = 11 by decide), if_neg (show ¬ Int32.ofNat 13 = 12 by decide), if_pos (show Int32.ofNat 13 = 13 from rfl), fl_116 h, r_times1 hX h he]
    exact ⟨_, rfl⟩
  · rw [if_neg (show ¬ Int32.ofNat 14 = 3 by decide), if_neg (show ¬ Int32.ofNat 14 = 4 by decide), if_neg (show ¬ Int32.ofNat 14 = 11 by decide), if_neg (show ¬ Int32.ofNat 14 = 12 by decide), if_neg (show ¬ Int32.ofNat 14 = 13 by decide), if_pos (show Int32.ofNat 14 = 14 from rfl), fl_116 h, if_neg (show ¬ m.2.1 116 48 = 0 by rw [he]; decide), fl_116 h, gs_sI_id he, gs_bt1, fl_116 h, if_neg (show ¬ m.2.1 116 48 = 0 by rw [he]; decide)]
    exact ⟨_, rfl⟩
abbrev r_sf (X : gs_E) (d s k F : Nat) (m : gs_M) : gs_O := gs_iter X (gs_exec X (d + 2)) gT_X12_sumFor F 124 [(0, .inr (.inr 116)), (2, .inl (Int32.ofNat s)), (3, .inl (Int32.ofNat k))] [] m
theorem r_sf_step {v : Int64} {M' : gs_M} (h : gs_Sh m T) (hs : s < 6) (el : m.2.1 137 s = Int32.ofNat l) (hl : l ≤ 64) (hk : k < l) (h' : gs_Sh M' T) (e : gs_exec X (d + 2) 225 [.inr (.inr 116), .inl (Int32.ofNat k)] m = gs_rJ v M') :
    r_sf X d s k (F + 1) m = r_sf X d s (k + 1) F (gs_sJ M' 145 k v) := by
  unfold r_sf
  rw [eq_X12_sumFor_124, fl_116 h, sh_116_31 h, gs_nn_s, gs_ixn h.1 (show gs_ok 137 13 153 = true from rfl) (show s < 12 by omega), el, if_pos ((gs_nlt (by omega) (by omega)).mpr hk), fl_116 h, sh_116_47 h, gs_nn_s, fl_116 h, e, gs_bJ_s, r_i145 h' (by omega), gs_ns]
theorem r_sf_end (h : gs_Sh m T) (hs : s < 6) (el : m.2.1 137 s = Int32.ofNat l) (hl : l ≤ 64) (h0 : 0 < l) : r_sf X d s l (F + 1) m = gs_rJ (m.2.2.1 145 (l - 1)) m := by
  unfold r_sf
  have e1 : Int32.ofNat l - (1 : Int32) = Int32.ofNat (l - 1) := n_sub (a := l) (b := 1) (by omega)
  have i137 : ∀ K : Nat → gs_O, gs_ix m 137 13 (Int32.ofNat s) K = K s := fun K => gs_ixn h.1 (show gs_ok 137 13 153 = true from rfl) (show s < 12 by omega)
  rw [eq_X12_sumFor_124, fl_116 h, sh_116_31 h, gs_nn_s, i137, el, if_neg (show ¬ Int32.ofNat l < Int32.ofNat l from fun q => by have := (gs_nlt (by omega) (by omega)).mp q; omega), fl_116 h, sh_116_47 h, gs_nn_s, fl_116 h, gs_nn_s, i137, el, e1, r_i145 h (by omega)]
/-- working places of sums alone -/
def gs_Ws (m M : gs_M) : Prop := gs_Wr m M ∧ M.2.1 151 = m.2.1 151
theorem ws_refl (m : gs_M) : gs_Ws m m := ⟨wr_refl m, rfl⟩
theorem ws_trans {m m' m'' : gs_M} (h1 : gs_Ws m m') (h2 : gs_Ws m' m'') : gs_Ws m m'' := ⟨wr_trans h1.1 h2.1, h2.2.trans h1.2⟩
theorem ws_sJ {m M : gs_M} {a j : Nat} {x : Int64} (h : gs_Ws m M) : gs_Ws m (gs_sJ M a j x) := h
theorem ws_sI {m M : gs_M} {x : Int32} (h : gs_Ws m M) : gs_Ws m (gs_sI M 116 48 x) := ⟨wr_sI h.1 (Or.inl ⟨rfl, by decide, by decide, by decide, by decide, by decide, by decide⟩), (funext fun i => gs_sIn (Or.inl (by decide))).trans h.2⟩
theorem r_sf_err (hX : gs_Fu X) (h : gs_Sh m T) (hs : s < 6) (el : m.2.1 137 s = Int32.ofNat l) (hl : l ≤ n8) (b8 : n8 ≤ 64) (h0 : 0 < l) (hK : gs_RK m T n8) (hw : ∀ q, f + q < l → ∃ S S', gs_wks (kj m) (pj m) (oj m) f q = some S ∧ wstep (kj m) (pj m) (oj m) (f + q) S = some S') :
    ∀ (r q F : Nat) (M : gs_M), gs_Ws m M → f + q + r = l → r < F → M.2.1 116 48 = 1 → ∃ v M', r_sf X d s (f + q) F M = gs_rJ v M' ∧ gs_Ws m M' ∧ M'.2.1 116 48 = 1 := by
  intro r
  induction r with
  | zero =>
    intro q F M hW hq hF he
    obtain ⟨F, rfl⟩ : ∃ z, F = z + 1 := ⟨F - 1, by omega⟩
    have elM : M.2.1 137 s = Int32.ofNat l := by rw [wr_cell hW.1 137 (by decide) (by decide)]; exact el
    rw [show f + q = l by omega, r_sf_end (wr_sh h hW.1) hs elM (by omega) h0]
    exact ⟨_, M, rfl, hW, he⟩
  | succ r ih =>
    intro q F M hW hq hF he
    obtain ⟨F, rfl⟩ : ∃ z, F = z + 1 := ⟨F - 1, by omega⟩
    have hsM := wr_sh h hW.1
    have elM : M.2.1 137 s = Int32.ofNat l := by rw [wr_cell hW.1 137 (by decide) (by decide)]; exact el
    obtain ⟨a1, a2, a3, a4, a5, a6, a7, a8⟩ := hK (f + q) (by omega)
    have b1 : M.2.1 139 (f + q) = Int32.ofNat (kj m (f + q)) := by rw [wr_cell hW.1 139 (by decide) (by decide)]; exact a1
    have b2 : M.2.1 140 (f + q) = Int32.ofNat (pj m (f + q)) := by rw [wr_cell hW.1 140 (by decide) (by decide)]; exact a3
    have ev : ∃ v, gs_exec X (d + 2) 225 [.inr (.inr 116), .inl (Int32.ofNat (f + q))] M = gs_rJ v M := by
      obtain ⟨S, S', hS, hS'⟩ := hw q (by omega)
      have hlt := gs_wks_lt q S hS
      by_cases k0 : kj m (f + q) = 0
      · rw [k0] at b1
        exact ⟨_, r_vo0 hsM (by omega) b1 b2 a4⟩
      · by_cases k1 : kj m (f + q) = 1
        · rw [k1] at b1
          exact ⟨_, r_vo1 hsM (by omega) b1 b2 (a8 k1)⟩
        · by_cases k2 : kj m (f + q) = 2
          · obtain ⟨a, R, rfl, ea, -⟩ := wstep_2 hS' k2
            have := hlt a (List.mem_cons_self ..)
            rw [k2] at b1
            exact ⟨_, r_vo2 hsM (by omega) b1 b2 (by omega)⟩
          · obtain ⟨a, b, R, rfl, ea, eb, -⟩ := wstep_3 hS' (by omega)
            have l1 := hlt b (List.mem_cons_self ..)
            have l2 := hlt a (List.mem_cons_of_mem _ (List.mem_cons_self ..))
            have b3 : M.2.1 141 (f + q) = Int32.ofNat (oj m (f + q)) := by rw [wr_cell hW.1 141 (by decide) (by decide)]; exact a5 (by omega)
            obtain ⟨v, e⟩ := r_v3_1 (X := X) (d := d) (a := M.2.2.1 145 (pj m (f + q))) (b := M.2.2.1 145 (oj m (f + q))) hX hsM he (show 3 ≤ kj m (f + q) by omega) a2
            exact ⟨v, (r_vo3x hsM (by omega) b1 (by omega) a2 b2 (by omega) b3 (by omega)).trans e⟩
    obtain ⟨v, e⟩ := ev
    rw [r_sf_step hsM hs elM (by omega) (by omega) hsM e]
    exact ih (q + 1) F _ (ws_sJ hW) (by omega) (by omega) he
theorem r_sf_loop (hX : gs_Fu X) (h : gs_Sh m T) (hs : s < 6) (el : m.2.1 137 s = Int32.ofNat l) (hl : l ≤ n8) (b8 : n8 ≤ 64) (hfl : f < l) (hK : gs_RK m T n8) (hw : gs_wks (kj m) (pj m) (oj m) f (l - f) = some [l - 1]) :
    ∀ (r q F : Nat) (M : gs_M) (S : List Nat) (V : List Int64), gs_Ws m M → f + q + r = l → r < F → gs_wks (kj m) (pj m) (oj m) f q = some S → gs_sv (kj m) (pj m) (nmv m g) f q = some V → gs_vls (M.2.2.1 145) S V → (∀ p, p < 6 → M.2.2.1 144 p = nmv m g p) → M.2.1 116 48 = 0 →
      (∀ v, gs_sv (kj m) (pj m) (nmv m g) f (l - f) = some [v] → ∃ M', r_sf X d s (f + q) F M = gs_rJ v M' ∧ gs_Ws m M' ∧ M'.2.1 116 48 = 0) ∧
      (gs_sv (kj m) (pj m) (nmv m g) f (l - f) = none → ∃ v M', r_sf X d s (f + q) F M = gs_rJ v M' ∧ gs_Ws m M' ∧ M'.2.1 116 48 = 1) := by
  have hwq : ∀ q, f + q < l → ∃ S S', gs_wks (kj m) (pj m) (oj m) f q = some S ∧ wstep (kj m) (pj m) (oj m) (f + q) S = some S' := by
    intro q hq
    obtain ⟨S1, hS1⟩ := gs_wks_pre (l - f - (q + 1)) (q + 1) [l - 1] (show gs_wks (kj m) (pj m) (oj m) f (q + 1 + (l - f - (q + 1))) = _ by rw [show q + 1 + (l - f - (q + 1)) = l - f by omega]; exact hw)
    obtain ⟨S, hS⟩ := gs_wks_pre 1 q S1 hS1
    exact ⟨S, S1, hS, (gs_wks_s hS).symm.trans hS1⟩
  intro r
  induction r with
  | zero =>
    intro q F M S V hW hq hF hS hV hvl hnm he
    obtain ⟨F, rfl⟩ : ∃ z, F = z + 1 := ⟨F - 1, by omega⟩
    have elM : M.2.1 137 s = Int32.ofNat l := by rw [wr_cell hW.1 137 (by decide) (by decide)]; exact el
    have eqq : l - f = q := by omega
    rw [eqq] at hw ⊢
    rw [hw] at hS
    cases hS
    rw [hV]
    refine ⟨fun v hv => ?_, fun hv => (by cases hv)⟩
    cases hv
    rw [show f + q = l by omega, r_sf_end (wr_sh h hW.1) hs elM (by omega) (by omega), hvl.1]
    exact ⟨M, rfl, hW, he⟩
  | succ r ih =>
    intro q F M S V hW hq hF hS hV hvl hnm he
    obtain ⟨F, rfl⟩ : ∃ z, F = z + 1 := ⟨F - 1, by omega⟩
    have hsM := wr_sh h hW.1
    have elM : M.2.1 137 s = Int32.ofNat l := by rw [wr_cell hW.1 137 (by decide) (by decide)]; exact el
    obtain ⟨S0, S', hS0, hS'⟩ := hwq q (by omega)
    rw [hS] at hS0
    cases hS0
    have hlt := gs_wks_lt q S hS
    obtain ⟨a1, a2, a3, a4, a5, a6, a7, a8⟩ := hK (f + q) (by omega)
    have b1 : M.2.1 139 (f + q) = Int32.ofNat (kj m (f + q)) := by rw [wr_cell hW.1 139 (by decide) (by decide)]; exact a1
    have b2 : M.2.1 140 (f + q) = Int32.ofNat (pj m (f + q)) := by rw [wr_cell hW.1 140 (by decide) (by decide)]; exact a3
    have go : ∀ (v : Int64) (R : List Nat) (W : List Int64), gs_exec X (d + 2) 225 [.inr (.inr 116), .inl (Int32.ofNat (f + q))] M = gs_rJ v M → S' = (f + q) :: R → (∀ t, t ∈ R → t ∈ S) → gs_vls (M.2.2.1 145) R W → vstep (kj m) (pj m) (nmv m g) (f + q) V = some (v :: W) →
        (∀ v, gs_sv (kj m) (pj m) (nmv m g) f (l - f) = some [v] → ∃ M', r_sf X d s (f + q) (F + 1) M = gs_rJ v M' ∧ gs_Ws m M' ∧ M'.2.1 116 48 = 0) ∧
        (gs_sv (kj m) (pj m) (nmv m g) f (l - f) = none → ∃ v M', r_sf X d s (f + q) (F + 1) M = gs_rJ v M' ∧ gs_Ws m M' ∧ M'.2.1 116 48 = 1) := by
      intro v R W e eS hsub hvl' hv
      rw [r_sf_step hsM hs elM (by omega) (by omega) hsM e]
      refine ih (q + 1) F (gs_sJ M 145 (f + q) v) S' (v :: W) (ws_sJ hW) (by omega) (by omega) ((gs_wks_s hS).trans hS') ((gs_sv_s hV).trans hv) ?_ (fun p hp => ?_) he
      · rw [eS]
        refine ⟨gs_sJe _ _ _ _, gs_vls_congr R W (fun t ht => ?_) hvl'⟩
        have := hlt t (hsub t ht)
        rw [gs_sJg, if_pos rfl, if_neg (by omega)]
      · rw [gs_sJg, if_neg (by decide)]
        exact hnm p hp
    by_cases k0 : kj m (f + q) = 0
    · rw [k0] at b1
      exact go _ S V (r_vo0 hsM (by omega) b1 b2 a4) (wstep_1 hS' (by omega)) (fun t ht => ht) hvl (by unfold vstep; rw [if_pos k0])
    · by_cases k1 : kj m (f + q) = 1
      · rw [k1] at b1
        refine go _ S V ((r_vo1 hsM (by omega) b1 b2 (a8 k1)).trans (by rw [hnm _ (a8 k1)])) (wstep_1 hS' (by omega)) (fun t ht => ht) hvl (by unfold vstep; rw [if_neg k0, if_pos k1])
      · by_cases k2 : kj m (f + q) = 2
        · obtain ⟨a, R, rfl, ea, eS⟩ := wstep_2 hS' k2
          have hp := hlt a (List.mem_cons_self ..)
          rw [k2] at b1
          match V, hV, hvl, go with
          | [], _, hvl, _ => exact hvl.elim
          | u :: W, hV, hvl, go =>
            refine go (if lg_cmp u 0 = 0 then 1 else 0) R W ((r_vo2 hsM (by omega) b1 b2 (by omega)).trans ?_) eS (fun t ht => List.mem_cons_of_mem _ ht) hvl.2 (by unfold vstep; rw [if_neg k0, if_neg k1, if_pos k2])
            rw [ea, hvl.1]
        · have k3 : 3 ≤ kj m (f + q) := by omega
          obtain ⟨a, b, R, rfl, ea, eb, eS⟩ := wstep_3 hS' k3
          have l1 := hlt b (List.mem_cons_self ..)
          have l2 := hlt a (List.mem_cons_of_mem _ (List.mem_cons_self ..))
          have b3 : M.2.1 141 (f + q) = Int32.ofNat (oj m (f + q)) := by rw [wr_cell hW.1 141 (by decide) (by decide)]; exact a5 k3
          have e0 := (r_vo3x (X := X) (d := d) hsM (by omega) b1 k3 a2 b2 (by omega) b3 (by omega)).trans (r_v3_0 (d := d) hX hsM he k3 a2)
          match V, hV, hvl, go with
          | [], _, hvl, _ => exact hvl.elim
          | [_], _, hvl, _ => exact hvl.2.elim
          | y :: x :: W, hV, hvl, go =>
            have q1 : M.2.2.1 145 b = y := hvl.1
            have q2 : M.2.2.1 145 a = x := hvl.2.1
            rw [ea, eb, q1, q2] at e0
            cases ha : f_ap (kj m (f + q)) x y with
            | some v =>
              rw [ha] at e0
              exact go v R W e0 eS (fun t ht => List.mem_cons_of_mem _ (List.mem_cons_of_mem _ ht)) hvl.2.2 (by unfold vstep; rw [if_neg k0, if_neg k1, if_neg k2]; simp only [ha])
            | none =>
              rw [ha] at e0
              have hn1 : gs_sv (kj m) (pj m) (nmv m g) f (l - f) = none := by
                rw [show l - f = q + 1 + r by omega]
                refine gs_sv_none r (q + 1) ?_
                rw [gs_sv_s hV]
                unfold vstep
                rw [if_neg k0, if_neg k1, if_neg k2]
                simp only [ha]
              refine ⟨fun v hv => (by rw [hn1] at hv; cases hv), fun _ => ?_⟩
              have hW' : gs_Ws m (gs_sI M 116 48 1) := ws_sI hW
              rw [r_sf_step hsM hs elM (by omega) (by omega) (wr_sh h hW'.1) e0]
              exact r_sf_err hX h hs el hl b8 (by omega) hK hwq r (q + 1) F _ (ws_sJ hW') (by omega) (by omega) (gs_sIe M 116 48 1)
theorem gs_fld_sJ (m : gs_M) (a j b c : Nat) (x : Int64) (K : gs_O) : gs_fld (gs_sJ m a j x) b c K = gs_fld m b c K := rfl
theorem gs_ix_sJ (m : gs_M) (a j b c : Nat) (x : Int64) (i : Int32) (K : Nat → gs_O) : gs_ix (gs_sJ m a j x) b c i K = gs_ix m b c i K := rfl
theorem gs_fld_sI (m : gs_M) (a j b c : Nat) (x : Int32) (K : gs_O) : gs_fld (gs_sI m a j x) b c K = gs_fld m b c K := rfl
theorem gs_ix_sI (m : gs_M) (a j b c : Nat) (x : Int32) (i : Int32) (K : Nat → gs_O) : gs_ix (gs_sI m a j x) b c i K = gs_ix m b c i K := rfl
theorem gs_sI222 (m : gs_M) (a j : Nat) (x : Int32) : (gs_sI m a j x).2.2.2 = m.2.2.2 := rfl
theorem r_sumFor (hX : gs_Fu X) (hO : gs_So m T n n0 n1 n2 turn n6 n8) (hg : g < n) (hs : s < n6) :
    ∃ v M', gs_exec X (d + 3) 226 [.inr (.inr 116), .inl (Int32.ofNat g), .inl (Int32.ofNat s)] m = gs_rJ v M' ∧ gs_Ws m M' ∧ M'.2.1 116 48 = f_er (sumO m g s) ∧ (∀ u, sumO m g s = some u → v = u) := by
  obtain ⟨⟨h, -, -, hn, -, -, -, -, -, -, hR, -, -⟩, -, -, h6, h8, -, b8, hS⟩ := hO
  obtain ⟨-, -, -, e16, ef, el, hlt, hl8, s0, s1, hw⟩ := hS.2 s hs
  have hg12 : g < 12 := by omega
  rw [eq_X12_sumFor]
  have i0 : ∀ (M : gs_M), gs_Sh M T → ∀ K : Nat → gs_O, gs_ix M 144 14 0 K = K 0 := fun M hM K => r_i144 (p := 0) hM (by decide)
  have i1 : ∀ (M : gs_M), gs_Sh M T → ∀ K : Nat → gs_O, gs_ix M 144 14 1 K = K 1 := fun M hM K => r_i144 (p := 1) hM (by decide)
  have i2 : ∀ (M : gs_M), gs_Sh M T → ∀ K : Nat → gs_O, gs_ix M 144 14 2 K = K 2 := fun M hM K => r_i144 (p := 2) hM (by decide)
  have i3 : ∀ (M : gs_M), gs_Sh M T → ∀ K : Nat → gs_O, gs_ix M 144 14 3 K = K 3 := fun M hM K => r_i144 (p := 3) hM (by decide)
  have i4 : ∀ (M : gs_M), gs_Sh M T → ∀ K : Nat → gs_O, gs_ix M 144 14 4 K = K 4 := fun M hM K => r_i144 (p := 4) hM (by decide)
  have i5 : ∀ (M : gs_M), gs_Sh M T → ∀ K : Nat → gs_O, gs_ix M 144 14 5 K = K 5 := fun M hM K => r_i144 (p := 5) hM (by decide)
  simp only [gs_fld_sJ, gs_ix_sJ, gs_fld_sI, gs_ix_sI, gs_sI222, gs_sJ21, gs_sJ222, fl_116 h, sh_116_46 h, sh_116_26 h, sh_116_30 h, gs_nn_s, gs_bt0, r_gx h hg12 (c := 7) (cl := 7) rfl (by decide), r_gx h hg12 (c := 8) (cl := 8) rfl (by decide), r_gx h hg12 (c := 9) (cl := 9) rfl (by decide), r_gx h hg12 (c := 10) (cl := 10) rfl (by decide), r_gx h hg12 (c := 5) (cl := 5) rfl (by decide), r_gx h hg12 (c := 2) (cl := 2) rfl (by decide), i0 _ h, i1 _ h, i2 _ h, i3 _ h, i4 _ h, i5 _ h, gs_ixn h.1 (show gs_ok 136 13 153 = true from rfl) (show s < 12 by omega)]
  have hnm0 : ∀ p, p < 6 → (gs_sJ (gs_sJ (gs_sJ (gs_sJ (gs_sJ (gs_sJ m 144 0 (Int32.toInt64 (m.2.1 132 (16 * g + 7)))) 144 1 (Int32.toInt64 (m.2.1 132 (16 * g + 8)))) 144 2 (Int32.toInt64 (m.2.1 132 (16 * g + 9)))) 144 3 (Int32.toInt64 (m.2.1 132 (16 * g + 10)))) 144 4 (Int32.toInt64 (m.2.1 132 (16 * g + 5)))) 144 5 (Int32.toInt64 (m.2.1 132 (16 * g + 2)))).2.2.1 144 p = nmv m g p := by
    intro p hp
    rcases (show p = 0 ∨ p = 1 ∨ p = 2 ∨ p = 3 ∨ p = 4 ∨ p = 5 by omega) with rfl | rfl | rfl | rfl | rfl | rfl <;> rfl
  have hW6 : gs_Ws m (gs_sJ (gs_sJ (gs_sJ (gs_sJ (gs_sJ (gs_sJ m 144 0 (Int32.toInt64 (m.2.1 132 (16 * g + 7)))) 144 1 (Int32.toInt64 (m.2.1 132 (16 * g + 8)))) 144 2 (Int32.toInt64 (m.2.1 132 (16 * g + 9)))) 144 3 (Int32.toInt64 (m.2.1 132 (16 * g + 10)))) 144 4 (Int32.toInt64 (m.2.1 132 (16 * g + 5)))) 144 5 (Int32.toInt64 (m.2.1 132 (16 * g + 2)))) := ws_refl m
  generalize (gs_sJ (gs_sJ (gs_sJ (gs_sJ (gs_sJ (gs_sJ m 144 0 (Int32.toInt64 (m.2.1 132 (16 * g + 7)))) 144 1 (Int32.toInt64 (m.2.1 132 (16 * g + 8)))) 144 2 (Int32.toInt64 (m.2.1 132 (16 * g + 9)))) 144 3 (Int32.toInt64 (m.2.1 132 (16 * g + 10)))) 144 4 (Int32.toInt64 (m.2.1 132 (16 * g + 5)))) 144 5 (Int32.toInt64 (m.2.1 132 (16 * g + 2)))) = M6 at hnm0 hW6 ⊢
  have hW : gs_Ws m (gs_sI M6 116 48 0) := ws_sI hW6
  have hnm : ∀ p, p < 6 → (gs_sI M6 116 48 0).2.2.1 144 p = nmv m g p := hnm0
  have e36 : (gs_sI M6 116 48 0).2.1 136 s = Int32.ofNat (sbg m s) := by rw [gs_sIn (Or.inl (by decide)), wr_cell hW6.1 136 (by decide) (by decide)]; exact ef
  rw [e36]
  have key := r_sf_loop (X := X) (d := d) (g := g) hX h (show s < 6 by omega) el hl8 b8 hlt hS.1 hw (sen m s - sbg m s) 0 X.1 _ [] [] hW (by omega) (by unfold gs_Fu at hX; omega) rfl rfl trivial hnm (gs_sIe _ _ _ _)
  rcases sumO_c (g := g) hS hs with ⟨v, e1, e2⟩ | ⟨e1, e2⟩
  · obtain ⟨M', k1, k2, k3⟩ := key.1 v e1
    rw [e2]
    exact ⟨v, M', k1, k2, k3, fun u hu => (by cases hu; rfl)⟩
  · obtain ⟨v, M', k1, k2, k3⟩ := key.2 e1
    rw [e2]
    exact ⟨v, M', k1, k2, k3, fun u hu => (by cases hu)⟩
end SUM
