/-! The reference lays a cloud's birth; born, asked. -/
theorem gs_sI_same (m : gs_M) (a j : Nat) (x y : Int32) : gs_sI (gs_sI m a j x) a j y = gs_sI m a j y := by
  refine Prod.ext rfl (Prod.ext (funext fun b => funext fun i => ?_) rfl)
  show (gs_sI (gs_sI m a j x) a j y).2.1 b i = (gs_sI m a j y).2.1 b i
  rw [gs_sIg, gs_sIg, gs_sIg]
  by_cases h1 : b = a
  · rw [if_pos h1, if_pos h1, if_pos h1]
    by_cases h2 : i = j
    · rw [if_pos h2, if_pos h2]
    · rw [if_neg h2, if_neg h2, if_neg h2]
  · rw [if_neg h1, if_neg h1, if_neg h1]
theorem gs_sI_id {m : gs_M} {a j : Nat} {x : Int32} (h : m.2.1 a j = x) : gs_sI m a j x = m := by
  refine Prod.ext rfl (Prod.ext (funext fun b => funext fun i => ?_) rfl)
  show (gs_sI m a j x).2.1 b i = m.2.1 b i
  rw [gs_sIg]
  by_cases h1 : b = a
  · rw [if_pos h1]
    by_cases h2 : i = j
    · rw [if_pos h2, h1, h2, h]
    · rw [if_neg h2]
  · rw [if_neg h1]
theorem gs_sI_comm {m : gs_M} {a j b k : Nat} {x y : Int32} (h : a ≠ b ∨ j ≠ k) : gs_sI (gs_sI m a j x) b k y = gs_sI (gs_sI m b k y) a j x := by
  refine Prod.ext rfl (Prod.ext (funext fun c => funext fun i => ?_) rfl)
  show (gs_sI (gs_sI m a j x) b k y).2.1 c i = (gs_sI (gs_sI m b k y) a j x).2.1 c i
  by_cases h1 : c = b ∧ i = k
  · obtain ⟨rfl, rfl⟩ := h1
    rw [gs_sIe, gs_sIn (h.elim (fun q => Or.inl (fun e => q e.symm)) (fun q => Or.inr (fun e => q e.symm))), gs_sIe]
  · have h1 : c ≠ b ∨ i ≠ k := by
      by_cases q : c = b
      · exact Or.inr fun e => h1 ⟨q, e⟩
      · exact Or.inl q
    by_cases h2 : c = a ∧ i = j
    · obtain ⟨rfl, rfl⟩ := h2
      rw [gs_sIe, gs_sIn h1, gs_sIe]
    · have h2 : c ≠ a ∨ i ≠ j := by
        by_cases q : c = a
        · exact Or.inr fun e => h2 ⟨q, e⟩
        · exact Or.inl q
      rw [gs_sIn h1, gs_sIn h2, gs_sIn h2, gs_sIn h1]
/-- the reference's birth, laid -/
def gs_lay (m : gs_M) (a b : Int32) : gs_M := gs_sI (gs_sI m 116 49 a) 116 50 b
theorem lay49 (m : gs_M) (a b : Int32) : (gs_lay m a b).2.1 116 49 = a := by
  unfold gs_lay
  rw [gs_sIn (Or.inr (by decide)), gs_sIe]
theorem lay50 (m : gs_M) (a b : Int32) : (gs_lay m a b).2.1 116 50 = b := gs_sIe _ _ _ _
theorem layn (m : gs_M) (a b : Int32) (x i : Nat) (h : x ≠ 116 ∨ (i ≠ 49 ∧ i ≠ 50)) : (gs_lay m a b).2.1 x i = m.2.1 x i := by
  unfold gs_lay
  rw [gs_sIn (h.imp id (fun q => q.2)), gs_sIn (h.imp id (fun q => q.1))]
theorem lay_s49 (m : gs_M) (a b c : Int32) : gs_sI (gs_lay m a b) 116 49 c = gs_lay m c b := by
  unfold gs_lay
  rw [gs_sI_comm (Or.inr (by decide)), gs_sI_same]
theorem lay_s50 (m : gs_M) (a b c : Int32) : gs_sI (gs_lay m a b) 116 50 c = gs_lay m a c := gs_sI_same _ _ _ _ _
theorem lay_lay (m : gs_M) (a b c e : Int32) : gs_lay (gs_lay m a b) c e = gs_lay m c e := by
  show gs_sI (gs_sI (gs_lay m a b) 116 49 c) 116 50 e = _
  rw [lay_s49, lay_s50]
theorem sh_lay {m : gs_M} {T : Nat} (h : gs_Sh m T) (a b : Int32) : gs_Sh (gs_lay m a b) T := h
/-! What a call may leave otherwise: working places. -/
def gs_rs (x i : Nat) : Prop := (x = 116 ∧ i ≠ 1 ∧ i ≠ 4 ∧ i ≠ 5 ∧ i ≠ 36 ∧ i ≠ 37 ∧ i ≠ 51) ∨ (142 ≤ x ∧ x ≤ 151) ∨ (x = 0 ∧ i = 4) ∨ ((x = 35 ∨ x = 84) ∧ i = 4)
def gs_Wr (m m' : gs_M) : Prop := m'.1 = m.1 ∧ m'.2.2.2 = m.2.2.2 ∧ ∀ x i, ¬ gs_rs x i → m'.2.1 x i = m.2.1 x i
theorem wr_refl (m : gs_M) : gs_Wr m m := ⟨rfl, rfl, fun _ _ _ => rfl⟩
theorem wr_trans {m m' m'' : gs_M} (h1 : gs_Wr m m') (h2 : gs_Wr m' m'') : gs_Wr m m'' := ⟨h2.1.trans h1.1, h2.2.1.trans h1.2.1, fun x i h => (h2.2.2 x i h).trans (h1.2.2 x i h)⟩
theorem wr_sI {m m' : gs_M} {a j : Nat} {x : Int32} (h : gs_Wr m m') (hs : gs_rs a j) : gs_Wr m (gs_sI m' a j x) := ⟨h.1, h.2.1, fun y i hn => by
  rw [gs_sIn, h.2.2 y i hn]
  by_cases e : y = a
  · exact Or.inr fun e2 => hn (by rw [e, e2]; exact hs)
  · exact Or.inl e⟩
theorem wr_sJ {m m' : gs_M} {a j : Nat} {x : Int64} (h : gs_Wr m m') : gs_Wr m (gs_sJ m' a j x) := h
theorem wr_lay {m m' : gs_M} {a b : Int32} (h : gs_Wr m m') : gs_Wr m (gs_lay m' a b) := wr_sI (wr_sI h (Or.inl ⟨rfl, by decide, by decide, by decide, by decide, by decide, by decide⟩)) (Or.inl ⟨rfl, by decide, by decide, by decide, by decide, by decide, by decide⟩)
theorem wr_thr {m : gs_M} {x : Int32} : gs_Wr m (gs_sI m 116 2 x) := wr_sI (wr_refl m) (Or.inl ⟨rfl, by decide, by decide, by decide, by decide, by decide, by decide⟩)
theorem wr_cell {m m' : gs_M} (h : gs_Wr m m') (x : Nat) (hx : x ≠ 116 ∧ x ≠ 0 ∧ x ≠ 35 ∧ x ≠ 84) (hx2 : x < 142 ∨ 151 < x) : m'.2.1 x = m.2.1 x := funext fun i => h.2.2 x i (fun q => by unfold gs_rs at q; omega)
theorem wr_sh {m m' : gs_M} {T : Nat} (h : gs_Sh m T) (hW : gs_Wr m m') : gs_Sh m' T := by
  unfold gs_Sh at h ⊢
  rw [hW.1, hW.2.1]
  exact h
theorem wr_t {m m' : gs_M} {T : Nat} (h : gs_Sh m T) (hW : gs_Wr m m') (o : Nat) (ho : o < 49 ∧ o ≠ 17) : m'.2.1 (T + o) = m.2.1 (T + o) := by
  rcases h.2.1 with e | e <;> exact wr_cell hW _ (by omega) (by omega)
section BRN
variable {X : gs_E} {d : Nat} {m : gs_M} {T c n5 blur : Nat} {x w : Int32}
theorem r_lessBy {a b : Nat} (ha : a < 2147483648) (hb : b < 2147483648) : gs_exec X (d + 1) 259 [.inl (Int32.ofNat a), .inl (Int32.ofNat b)] m = gs_rI (Int32.ofNat (a - b)) m := by
  rw [eq_X12_lessBy]
  by_cases h : b < a
  · rw [if_pos ((gs_nlt hb ha).mpr h), n_sub (by omega)]
  · rw [if_neg (fun q => h ((gs_nlt hb ha).mp q)), Nat.sub_eq_zero_of_le (by omega)]
    rfl
theorem r_layBorn {y s z t w : Nat} (hX : gs_Fu X) (h : gs_Sh m T) (h3 : m.2.1 122 3 = Int32.ofNat blur) (hb : blur < 100) (hy : y ≤ z) (hz : z < 3000) (hs : s ≤ 9999) (ht : t < 100000000) (hw : w ≤ 10) :
    gs_exec X (d + 2) 260 [.inr (.inr 116), .inl (Int32.ofNat y), .inl (Int32.ofNat s), .inl (Int32.ofNat z), .inl (Int32.ofNat t), .inl (Int32.ofNat w)] m = gs_rU (gs_lay m (f_bf y s z t blur) (f_bt y s z t w blur)) := by
  obtain ⟨F, hF⟩ : ∃ z, X.1 = z + 9 := ⟨X.1 - 9, by unfold gs_Fu at hX; omega⟩
  have i3 : ∀ K : Nat → gs_O, gs_ix m 122 13 3 K = K 3 := fun K => gs_ixe h.1 rfl rfl
  have b0 := nCor_le s t blur (z - y)
  have bm : ∀ k, nCor s t blur (z - y) k * w ≤ 99990 := fun k => Nat.mul_le_mul (b0 k) hw
  have b1 : ∀ k, nCor s t blur (z - y) k * w / 10 ≤ 9999 := fun k => by have := bm k; omega
  have hy3 : y < 3000 := by omega
  have s11 : ∀ (n k : Nat) (M : gs_M), k < 4 → gs_iter X (gs_exec X (d + 1)) gT_X12_layBorn (n + 1) 11 [(0, .inr (.inr 116)), (1, .inl (Int32.ofNat y)), (2, .inl (Int32.ofNat s)), (3, .inl (Int32.ofNat z)), (4, .inl (Int32.ofNat t)), (5, .inl (Int32.ofNat w)), (6, .inl (Int32.ofNat blur)), (7, .inl (Int32.ofNat k))] [] M = gs_iter X (gs_exec X (d + 1)) gT_X12_layBorn n 60 [(0, .inr (.inr 116)), (1, .inl (Int32.ofNat y)), (2, .inl (Int32.ofNat s)), (3, .inl (Int32.ofNat z)), (4, .inl (Int32.ofNat t)), (5, .inl (Int32.ofNat w)), (6, .inl (Int32.ofNat blur)), (7, .inl (Int32.ofNat k)), (8, .inl (Int32.ofNat (if k % 2 = 0 then s - blur else s + blur)))] [.inl (Int32.ofNat (if k < 2 then t - blur else t + blur))] M := by
    intro n k M hk
    rw [eq_X12_layBorn_11]
    simp only [r_lessBy (show s < 2147483648 by omega) (show blur < 2147483648 by omega), r_lessBy (show t < 2147483648 by omega) (show blur < 2147483648 by omega), gs_bI_s, n_add, gs_nz_n (show (2 : Int32) ≠ 0 by decide)]
    rcases (show k = 0 ∨ k = 1 ∨ k = 2 ∨ k = 3 by omega) with rfl | rfl | rfl | rfl <;> rfl
  have hage : ∀ (k : Nat) (M : gs_M), gs_exec X (d + 1) 258 [.inl (Int32.ofNat (if k % 2 = 0 then s - blur else s + blur)), .inl (Int32.ofNat (if k < 2 then t - blur else t + blur)), .inl (Int32.ofNat y), .inl (Int32.ofNat z)] M = gs_rI (Int32.ofNat (nCor s t blur (z - y) k)) M := by
    intro k M
    have q : (if k % 2 = 0 then s - blur else s + blur) ≤ 10098 := by split <;> omega
    exact r_ageOf (by omega) (by split <;> omega) hy (by omega) (Nat.lt_of_le_of_lt (Nat.mul_le_mul q (show z - y ≤ 3000 by omega)) (by decide))
  have e10 : ∀ k, Int32.ofNat (nCor s t blur (z - y) k) * Int32.ofNat w / (10 : Int32) = Int32.ofNat (nCor s t blur (z - y) k * w / 10) := fun k => by
    rw [n_mul]
    exact n_div (b := 10) (by have := bm k; omega) (by decide)
  have s60 : ∀ (n : Nat) (M : gs_M), gs_Sh M T → ∀ (v8 s0 : Int32), v8 = Int32.ofNat (if 0 % 2 = 0 then s - blur else s + blur) → s0 = Int32.ofNat (if 0 < 2 then t - blur else t + blur) → gs_iter X (gs_exec X (d + 1)) gT_X12_layBorn (n + 1) 60 [(0, .inr (.inr 116)), (1, .inl (Int32.ofNat y)), (2, .inl (Int32.ofNat s)), (3, .inl (Int32.ofNat z)), (4, .inl (Int32.ofNat t)), (5, .inl (Int32.ofNat w)), (6, .inl (Int32.ofNat blur)), (7, .inl (Int32.ofNat 0)), (8, .inl v8)] [.inl s0] M = gs_iter X (gs_exec X (d + 1)) gT_X12_layBorn n 11 [(0, .inr (.inr 116)), (1, .inl (Int32.ofNat y)), (2, .inl (Int32.ofNat s)), (3, .inl (Int32.ofNat z)), (4, .inl (Int32.ofNat t)), (5, .inl (Int32.ofNat w)), (6, .inl (Int32.ofNat blur)), (7, .inl (Int32.ofNat 1))] [] (gs_lay M (Int32.ofNat y - Int32.ofNat (nCor s t blur (z - y) 0)) (Int32.ofNat y - Int32.ofNat (nCor s t blur (z - y) 0 * w / 10))) := by
    intro n M hM v8 s0 e8 e0
    subst e8 e0
    rw [eq_X12_layBorn_60, hage 0, gs_bI_s, gs_nz_n (by decide), if_pos (show Int32.ofNat 0 = 0 from rfl), fl_116 hM, e10]
    show (if Int32.ofNat 0 = 0 then gs_fld (gs_sI M 116 49 _) 116 11 _ else _) = _
    rw [if_pos (show Int32.ofNat 0 = 0 from rfl), fl_116 (sh_sI hM)]
    rfl
  have s60b : ∀ (n k p q : Nat), 1 ≤ k → k < 4 → p ≤ 9999 → q ≤ 9999 → gs_iter X (gs_exec X (d + 1)) gT_X12_layBorn (n + 1) 60 [(0, .inr (.inr 116)), (1, .inl (Int32.ofNat y)), (2, .inl (Int32.ofNat s)), (3, .inl (Int32.ofNat z)), (4, .inl (Int32.ofNat t)), (5, .inl (Int32.ofNat w)), (6, .inl (Int32.ofNat blur)), (7, .inl (Int32.ofNat k)), (8, .inl (Int32.ofNat (if k % 2 = 0 then s - blur else s + blur)))] [.inl (Int32.ofNat (if k < 2 then t - blur else t + blur))] (gs_lay m (Int32.ofNat y - Int32.ofNat p) (Int32.ofNat y - Int32.ofNat q)) = gs_iter X (gs_exec X (d + 1)) gT_X12_layBorn n 11 [(0, .inr (.inr 116)), (1, .inl (Int32.ofNat y)), (2, .inl (Int32.ofNat s)), (3, .inl (Int32.ofNat z)), (4, .inl (Int32.ofNat t)), (5, .inl (Int32.ofNat w)), (6, .inl (Int32.ofNat blur)), (7, .inl (Int32.ofNat (k + 1)))] [] (gs_lay m (Int32.ofNat y - Int32.ofNat (max (nCor s t blur (z - y) k) p)) (Int32.ofNat y - Int32.ofNat (min (nCor s t blur (z - y) k * w / 10) q))) := by
    intro n k p q hk1 hk4 hp hq
    have hne : ¬ Int32.ofNat k = 0 := fun e => by
      have := (n_eq (a := k) (b := 0) (by omega) (by decide)).mp e
      omega
    have hL := fun a b => sh_lay h a b
    rw [eq_X12_layBorn_60, hage k, gs_bI_s, gs_nz_n (by decide), if_neg hne, e10]
    simp only [if_neg hne, fl_116 (hL _ _), lay49, lay50, lay_s49, lay_s50, gs_ns]
    rw [← i_dm hy3 (b0 k) hp, ← i_dn hy3 (b1 k) hq]
    split <;> split <;> rfl
  rw [eq_X12_layBorn, fl_116 h, sh_116_15 h, gs_nn_s, i3, h3, hF]
  show gs_iter X (gs_exec X (d + 1)) gT_X12_layBorn (F + 8 + 1) 11 [(0, .inr (.inr 116)), (1, .inl (Int32.ofNat y)), (2, .inl (Int32.ofNat s)), (3, .inl (Int32.ofNat z)), (4, .inl (Int32.ofNat t)), (5, .inl (Int32.ofNat w)), (6, .inl (Int32.ofNat blur)), (7, .inl (Int32.ofNat 0))] [] m = _
  rw [s11 _ 0 _ (by decide), s60 (F + 7) m h _ _ rfl rfl, s11 _ 1 _ (by decide), s60b (F + 5) 1 _ _ (by decide) (by decide) (b0 _) (b1 _), s11 _ 2 _ (by decide), s60b (F + 3) 2 _ _ (by decide) (by decide) (Nat.max_le.mpr ⟨b0 _, b0 _⟩) (Nat.le_trans (Nat.min_le_left _ _) (b1 _)), s11 _ 3 _ (by decide), s60b (F + 1) 3 _ _ (by decide) (by decide) (Nat.max_le.mpr ⟨b0 _, Nat.max_le.mpr ⟨b0 _, b0 _⟩⟩) (Nat.le_trans (Nat.min_le_left _ _) (b1 _)), eq_X12_layBorn_11, if_neg (by decide)]
  have e1 : max (nCor s t blur (z - y) 3) (max (nCor s t blur (z - y) 2) (max (nCor s t blur (z - y) 1) (nCor s t blur (z - y) 0))) = nOld s t blur (z - y) := by
    unfold nOld
    omega
  have e2 : min (nCor s t blur (z - y) 3 * w / 10) (min (nCor s t blur (z - y) 2 * w / 10) (min (nCor s t blur (z - y) 1 * w / 10) (nCor s t blur (z - y) 0 * w / 10))) = nNew s t blur (z - y) w := by
    unfold nNew
    omega
  rw [e1, e2]
  rfl
theorem r_cx (h : gs_Sh m T) (hc : c < 10) {i : Nat} {il : Int32} (hi : il = Int32.ofNat i) (hi9 : i < 9) {K : Nat → gs_O} : gs_ix m 133 13 ((9 : Int32) * Int32.ofNat c + il) K = K (9 * c + i) := by
  subst hi
  show gs_ix m 133 13 (Int32.ofNat 9 * Int32.ofNat c + Int32.ofNat i) K = _
  rw [n_mul, n_add]
  exact gs_ixn h.1 rfl (by show _ < 180; omega)
theorem r_cx0 (h : gs_Sh m T) (hc : c < 10) {K : Nat → gs_O} : gs_ix m 133 13 ((9 : Int32) * Int32.ofNat c) K = K (9 * c + 0) := by
  show gs_ix m 133 13 (Int32.ofNat 9 * Int32.ofNat c) K = _
  rw [n_mul]
  exact gs_ixn h.1 rfl (by show _ < 180; omega)
theorem x_cx (h : gs_Sh m T) (hc : c < 10) {K : Nat → gs_O} : gs_ix m (T + 26) (cond (Nat.beq (gs_kind (T + 26)) 15) 15 16) (Int32.ofNat c) K = K c := by
  have e : (cond (Nat.beq (gs_kind (T + 26)) 15) 15 16) = 15 ∨ (cond (Nat.beq (gs_kind (T + 26)) 15) 15 16) = 16 := by
    rcases h.2.1 with e | e <;> rw [e] <;> decide
  rcases h.2.1 with e | e <;> rw [e]
  · exact gs_ixn h.1 rfl (by show _ < 10; omega)
  · exact gs_ixn h.1 rfl (by show _ < 10; omega)
theorem r_layCloud (hX : gs_Fu X) (h : gs_Sh m T) (hc : c < 10) (hV : gs_CV m c) (h3 : m.2.1 122 3 = Int32.ofNat blur) (hb : blur < 100) :
    ∃ M, gs_exec X (d + 3) 261 [.inr (.inr 116), .inl (Int32.ofNat c)] m = gs_rU M ∧ gs_Wr m M ∧ M.2.1 116 49 = f_bf (cn m c 2) (cn m c 3) (cn m c 4) (cn m c 5) blur ∧ M.2.1 116 50 = f_bt (cn m c 2) (cn m c 3) (cn m c 4) (cn m c 5) (cn m c 6) blur ∧ ∀ x i, (x ≠ 116 ∨ (i ≠ 49 ∧ i ≠ 50)) → M.2.1 x i = m.2.1 x i := by
  obtain ⟨hv, v0, v1, v2, v4, v3, v5, v6, v7, v8, v9, v10, v11⟩ := hV
  have e2 : m.2.1 133 (9 * c + 2) = Int32.ofNat (cn m c 2) := hv 2 (by decide)
  have e3 : m.2.1 133 (9 * c + 3) = Int32.ofNat (cn m c 3) := hv 3 (by decide)
  have e4 : m.2.1 133 (9 * c + 4) = Int32.ofNat (cn m c 4) := hv 4 (by decide)
  have e5 : m.2.1 133 (9 * c + 5) = Int32.ofNat (cn m c 5) := hv 5 (by decide)
  have e6 : m.2.1 133 (9 * c + 6) = Int32.ofNat (cn m c 6) := hv 6 (by decide)
  refine ⟨_, ?_, wr_lay (wr_refl m), lay49 _ _ _, lay50 _ _ _, layn _ _ _⟩
  rw [eq_X12_layCloud]
  simp only [fl_116 h, sh_116_27 h, gs_nn_s, r_cx h hc (i := 2) (il := 2) rfl (by decide), r_cx h hc (i := 3) (il := 3) rfl (by decide), r_cx h hc (i := 4) (il := 4) rfl (by decide), r_cx h hc (i := 5) (il := 5) rfl (by decide), r_cx h hc (i := 6) (il := 6) rfl (by decide)]
  rw [e2, e3, e4, e5, e6, r_layBorn hX h h3 hb (by omega) v4 (by omega) (by omega) v8, gs_bU_s]
def f_tk (z p q : Nat) : Int32 := if q = 0 then -2147483648 else Int32.ofNat z - Int32.ofNat (min 9999 (p * 100 / (2 * q)))
theorem x_ticks {z p q : Nat} (h : gs_Sh m T) (hc : c < 10) (h4 : m.2.1 (T + (39 + c)) 4 = Int32.ofNat z) (h7 : m.2.1 (T + (39 + c)) 7 = Int32.ofNat p) (h8 : m.2.1 (T + (39 + c)) 8 = Int32.ofNat q) (hp : p ≤ 9999) (hq : q ≤ 9999) :
    gs_exec X (d + 2) 6 [.inr (.inr (T + (39 + c)))] m = gs_rI (f_tk z p q) m := by
  unfold f_tk
  rw [eq_X0_bornByTicks]
  simp only [fl_tc h hc, h4, h7, h8]
  by_cases h0 : q = 0
  · subst h0
    rw [if_neg (show ¬ (0 : Int32) < Int32.ofNat 0 by decide), if_pos rfl]
  · have hd : p * 100 / (2 * q) ≤ p * 100 := Nat.div_le_self _ _
    have e1 : (2 : Int32) * Int32.ofNat q = Int32.ofNat (2 * q) := n_mul 2 q
    have e2 : Int32.ofNat p * (100 : Int32) = Int32.ofNat (p * 100) := n_mul p 100
    have hne : Int32.ofNat (2 * q) ≠ 0 := fun e => by
      have := (n_eq (a := 2 * q) (b := 0) (by omega) (by decide)).mp e
      omega
    rw [if_pos (show (0 : Int32) < Int32.ofNat q from (gs_nlt (a := 0) (by decide) (by omega)).mpr (by omega)), if_neg h0, e1, gs_nz_n hne, e2, n_div (by omega) (by omega), x_min, gs_bI_s]
    show gs_rI (_ - (if Int32.ofNat (p * 100 / (2 * q)) < Int32.ofNat 9999 then _ else Int32.ofNat 9999)) m = _
    rw [n_min (by decide) (by omega)]
def f_bornA (m : gs_M) (blur c : Nat) (w : Int32) : Int32 := if w = 0 then Int32.ofNat (nAge (cn m c 3) (cn m c 5) (cn m c 4 - cn m c 2)) else if w = 1 then f_bf (cn m c 2) (cn m c 3) (cn m c 4) (cn m c 5) blur else if w = 2 then f_bt (cn m c 2) (cn m c 3) (cn m c 4) (cn m c 5) (cn m c 6) blur else if w = 3 then f_tk (cn m c 4) (cn m c 7) (cn m c 8) else if w = 4 then cd m c 0 else if w = 5 then cd m c 1 else -2147483648
/-- all that clouds' answers need of the state -/
def gs_Ca (m : gs_M) (T n5 blur : Nat) : Prop := gs_Sh m T ∧ m.2.1 T 9 = Int32.ofNat n5 ∧ m.2.1 119 5 = Int32.ofNat n5 ∧ n5 ≤ 10 ∧ m.2.1 T 13 = Int32.ofNat blur ∧ m.2.1 122 3 = Int32.ofNat blur ∧ blur < 100 ∧ gs_RC m T n5 blur ∧ ∀ c, c < n5 → gs_CV m c
def f_born (m : gs_M) (blur : Nat) (n x w : Int32) : Int32 := if isIx x n then f_bornA m blur x.toInt.toNat w else -2147483648
theorem x_born (hC : gs_Ca m T n5 blur) : gs_exec X (d + 3) 130 [.inr (.inr 0), .inl x, .inl w] m = gs_rI (f_born m blur (Int32.ofNat n5) x w) m := by
  obtain ⟨h, hn, -, hn5, hb, -, bb, hR, hV⟩ := hC
  unfold f_born
  rw [eq_X11_born, fl_0 h, x_isCloud h, gs_bI_s, b2_if, hn]
  by_cases hc : isIx x (Int32.ofNat n5)
  · obtain ⟨c, hc5, rfl, ec⟩ := i_gst hc (by omega)
    have hc10 : c < 10 := by omega
    obtain ⟨hr, r9, r10⟩ := hR c hc5
    obtain ⟨hv, v0, v1, v2, v4, v3, v5, v6, v7, v8, v9, v10, v11⟩ := hV c hc5
    have e : ∀ i, i < 9 → m.2.1 (T + (39 + c)) i = Int32.ofNat (cn m c i) := fun i hi => (hr i hi).trans (hv i hi)
    rw [if_pos hc, if_pos hc, ec]
    simp only [fl_0 h, sh_told h, gs_nn_s, fl_t0 h, sh_t0_7 h, x_cx h hc10, sh_cloud h hc10, fl_tc h hc10, x_ticks h hc10 (e 4 (by decide)) (e 7 (by decide)) (e 8 (by decide)) v9 v10, gs_bI_s]
    rw [e 3 (by decide), e 5 (by decide), e 4 (by decide), e 2 (by decide), n_sub (by omega), x_ageOf (by omega) (by omega) (Nat.lt_of_le_of_lt (Nat.mul_le_mul (show cn m c 3 ≤ 10000 by omega) (show cn m c 4 - cn m c 2 ≤ 3000 by omega)) (by decide)), gs_bI_s, r9, r10, hr 0 (by decide), hr 1 (by decide)]
    simp only [gs_if_rI]
    rfl
  · rw [if_neg hc, if_neg hc]
theorem wr_ca {m' : gs_M} (hC : gs_Ca m T n5 blur) (hW : gs_Wr m m') : gs_Ca m' T n5 blur := by
  obtain ⟨h, h1, h2, h3, h4, h5, h6, hR, hV⟩ := hC
  have e133 : m'.2.1 133 = m.2.1 133 := wr_cell hW 133 (by decide) (by decide)
  have eT : m'.2.1 T = m.2.1 T := wr_t h hW 0 (by decide)
  refine ⟨wr_sh h hW, by rw [eT]; exact h1, by rw [wr_cell hW 119 (by decide) (by decide)]; exact h2, h3, by rw [eT]; exact h4, by rw [wr_cell hW 122 (by decide) (by decide)]; exact h5, h6, fun c hc => ?_, fun c hc => ?_⟩
  · have q := hR c hc
    have ec : m'.2.1 (T + (39 + c)) = m.2.1 (T + (39 + c)) := wr_t h hW (39 + c) (by omega)
    unfold cn cd at q ⊢
    rw [ec, e133]
    exact q
  · have q := hV c hc
    unfold gs_CV cn cd at q ⊢
    rw [e133]
    exact q
theorem wr_bornA {m' : gs_M} (hW : gs_Wr m m') (w : Int32) : f_bornA m' blur c w = f_bornA m blur c w := by
  unfold f_bornA cn cd
  rw [wr_cell hW 133 (by decide) (by decide)]
theorem r_born (hX : gs_Fu X) (hC : gs_Ca m T n5 blur) : ∃ m', gs_exec X (d + 4) 262 [.inr (.inr 116), .inl x, .inl w] m = gs_rI (f_born m blur (Int32.ofNat n5) x w) m' ∧ gs_Wr m m' := by
  have hW : gs_Wr m (gs_sI m 116 2 0) := wr_thr
  obtain ⟨hs, -, e5, -, -, e3, -, -, hV2⟩ := wr_ca hC hW
  obtain ⟨h, hn, -, hn5, hb, -, bb, hR, hV⟩ := hC
  unfold f_born
  rw [eq_X12_born, fl_116 h]
  show ∃ m', gs_fld (gs_sI m 116 2 0) 116 11 _ = _ ∧ _
  rw [fl_116 hs, r_isCloud hs, gs_bI_s, b2_if, e5]
  by_cases hc : isIx x (Int32.ofNat n5)
  · obtain ⟨c, hc5, rfl, ec⟩ := i_gst hc (by omega)
    have hc10 : c < 10 := by omega
    rw [if_pos hc, if_pos hc, ec, r_isIn, gs_bI_s, b2_if]
    by_cases hw : isBt w 0 5
    · obtain ⟨M, eM, hM, l49, l50, -⟩ := r_layCloud (d := d) hX hs hc10 (hV2 c hc5) e3 bb
      rw [if_pos hw, fl_116 hs, eM, gs_bU_s]
      have hW2 := wr_trans hW hM
      refine ⟨M, ?_, hW2⟩
      have hh := wr_sh h hW2
      have e133 : M.2.1 133 = m.2.1 133 := wr_cell hW2 133 (by decide) (by decide)
      have l49 : M.2.1 116 49 = f_bf (cn m c 2) (cn m c 3) (cn m c 4) (cn m c 5) blur := l49
      have l50 : M.2.1 116 50 = f_bt (cn m c 2) (cn m c 3) (cn m c 4) (cn m c 5) (cn m c 6) blur := l50
      obtain ⟨hv, v0, v1, v2, v4, v3, v5, v6, v7, v8, v9, v10, v11⟩ := hV c hc5
      have k : ∀ i, i < 9 → m.2.1 133 (9 * c + i) = Int32.ofNat (cn m c i) := hv
      simp only [fl_116 hh, sh_116_27 hh, gs_nn_s, r_cx hh hc10 (i := 2) (il := 2) rfl (by decide), r_cx hh hc10 (i := 3) (il := 3) rfl (by decide), r_cx hh hc10 (i := 4) (il := 4) rfl (by decide), r_cx hh hc10 (i := 5) (il := 5) rfl (by decide), r_cx hh hc10 (i := 7) (il := 7) rfl (by decide), r_cx hh hc10 (i := 8) (il := 8) rfl (by decide), r_cx hh hc10 (i := 1) (il := 1) rfl (by decide), r_cx0 hh hc10, e133, l49, l50]
      rw [k 2 (by decide), k 3 (by decide), k 4 (by decide), k 5 (by decide), k 7 (by decide), k 8 (by decide), r_ageOf (by omega) (by omega) (by omega) (by omega) (Nat.lt_of_le_of_lt (Nat.mul_le_mul (show cn m c 3 ≤ 10000 by omega) (show cn m c 4 - cn m c 2 ≤ 3000 by omega)) (by decide)), gs_bI_s]
      have et : (if Int32.ofNat (cn m c 7) = 0 then gs_rI (-2147483648) M else gs_nz (2 * Int32.ofNat (cn m c 8)) (if 9999 < Int32.ofNat (cn m c 7) * 100 / (2 * Int32.ofNat (cn m c 8)) then gs_rI (Int32.ofNat (cn m c 4) - 9999) M else gs_rI (Int32.ofNat (cn m c 4) - Int32.ofNat (cn m c 7) * 100 / (2 * Int32.ofNat (cn m c 8))) M)) = gs_rI (f_tk (cn m c 4) (cn m c 7) (cn m c 8)) M := by
        unfold f_tk
        by_cases h0 : cn m c 8 = 0
        · rw [if_pos h0, if_pos (show Int32.ofNat (cn m c 7) = 0 by rw [v11.mpr h0]; rfl)]
        · have hd : cn m c 7 * 100 / (2 * cn m c 8) ≤ cn m c 7 * 100 := Nat.div_le_self _ _
          have e1 : (2 : Int32) * Int32.ofNat (cn m c 8) = Int32.ofNat (2 * cn m c 8) := n_mul 2 _
          have e2 : Int32.ofNat (cn m c 7) * (100 : Int32) = Int32.ofNat (cn m c 7 * 100) := n_mul _ 100
          have hne : Int32.ofNat (2 * cn m c 8) ≠ 0 := fun e => by
            have := (n_eq (a := 2 * cn m c 8) (b := 0) (by omega) (by decide)).mp e
            omega
          have hn7 : ¬ Int32.ofNat (cn m c 7) = 0 := fun e => by
            have := (n_eq (a := cn m c 7) (b := 0) (by omega) (by decide)).mp e
            omega
          rw [if_neg h0, if_neg hn7, e1, gs_nz_n hne, e2, n_div (by omega) (by omega), ← n_min (by decide) (by omega), show (9999 : Int32) = Int32.ofNat 9999 from rfl]
          by_cases hq : 9999 < cn m c 7 * 100 / (2 * cn m c 8)
          · rw [if_pos ((gs_nlt (a := 9999) (by decide) (by omega)).mpr hq), if_neg (fun q => by have := (gs_nlt (b := 9999) (by omega) (by decide)).mp q; omega)]
          · rw [if_neg (fun q => hq ((gs_nlt (a := 9999) (by decide) (by omega)).mp q))]
            by_cases hq2 : cn m c 7 * 100 / (2 * cn m c 8) < 9999
            · rw [if_pos ((gs_nlt (b := 9999) (by omega) (by decide)).mpr hq2)]
            · rw [if_neg (fun q => hq2 ((gs_nlt (b := 9999) (by omega) (by decide)).mp q)), show cn m c 7 * 100 / (2 * cn m c 8) = 9999 by omega]
      rw [et]
      unfold f_bornA
      have e5 : ¬ w = 0 → ¬ w = 1 → ¬ w = 2 → ¬ w = 3 → ¬ w = 4 → w = 5 := by
        have hb := i_bt.mp hw
        have k0 : (0 : Int32).toInt = 0 := rfl
        have k1 : (1 : Int32).toInt = 1 := rfl
        have k2 : (2 : Int32).toInt = 2 := rfl
        have k3 : (3 : Int32).toInt = 3 := rfl
        have k4 : (4 : Int32).toInt = 4 := rfl
        have k5 : (5 : Int32).toInt = 5 := rfl
        simp only [i_eq]
        omega
      by_cases a0 : w = 0
      · rw [if_pos a0, if_pos a0]
      rw [if_neg a0, if_neg a0]
      by_cases a1 : w = 1
      · rw [if_pos a1, if_pos a1]
      rw [if_neg a1, if_neg a1]
      by_cases a2 : w = 2
      · rw [if_pos a2, if_pos a2]
      rw [if_neg a2, if_neg a2]
      by_cases a3 : w = 3
      · rw [if_pos a3, if_pos a3]
      rw [if_neg a3, if_neg a3]
      by_cases a4 : w = 4
      · rw [if_pos a4, if_pos a4]
      rw [if_neg a4, if_neg a4, if_pos (e5 a0 a1 a2 a3 a4)]
    · rw [if_neg hw]
      refine ⟨_, ?_, hW⟩
      have nn : ∀ k : Nat, k ≤ 5 → ¬ w = Int32.ofNat k := fun k hk e => hw (by
        rw [e, i_bt, gs_n32 (by omega)]
        show (0 : Int) ≤ k ∧ (k : Int) ≤ 5
        omega)
      unfold f_bornA
      rw [if_neg (show ¬ w = 0 from nn 0 (by decide)), if_neg (show ¬ w = 1 from nn 1 (by decide)), if_neg (show ¬ w = 2 from nn 2 (by decide)), if_neg (show ¬ w = 3 from nn 3 (by decide)), if_neg (show ¬ w = 4 from nn 4 (by decide)), if_neg (show ¬ w = 5 from nn 5 (by decide))]
  · rw [if_neg hc, if_neg hc]
    exact ⟨_, rfl, hW⟩
end BRN
