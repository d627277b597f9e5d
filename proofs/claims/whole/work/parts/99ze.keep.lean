/-! The reference keeps what it has read. -/
def wdt : List Nat := [8, 8, 8, 10, 10, 10, 8, 8, 192, 90, 6, 6, 6, 6, 18, 64, 64, 64]
def wdr (j : Nat) : Nat := wdt.getD j 0
def rsKp (x i : Nat) : Prop := x = 119 ∨ x = 122 ∨ (124 ≤ x ∧ x ≤ 141)
theorem wdr_l : ∀ j, j < 18 → gs_len (124 + j) = 2 * wdr j ∧ gs_ok (124 + j) 13 153 = true ∧ wdr j < 200 := by decide +kernel
section KP
variable {X : gs_E} {d T : Nat} {m M : gs_M}
theorem wx_sh2 {R : Nat → Nat → Prop} (h : gs_Sh m T) (hW : gs_Wx R m M) : gs_Sh M T := wc_sh h hW
theorem r_copies (hX : gs_Fu X) (h : gs_Sh m T) {x n : Nat} (hk : gs_ok x 13 153 = true) (hl : gs_len x = 2 * n) (hn : n < 200) : ∀ (r j F : Nat) (M : gs_M), j + r = n → r < F → gs_Wx (fun y _ => y = x) m M → (∀ k, k < j → M.2.1 x k = m.2.1 x (n + k)) → (∀ k, j ≤ k → M.2.1 x k = m.2.1 x k) →
    ∃ M', gs_iter X (gs_exec X d) gT_X12_copies F 2 [(0, .inr (.inr x)), (1, .inl (Int32.ofNat n)), (2, .inl (Int32.ofNat j))] [] M = gs_rU M' ∧ gs_Wx (fun y _ => y = x) m M' ∧ (∀ k, k < n → M'.2.1 x k = m.2.1 x (n + k)) := by
  intro r
  induction r with
  | zero =>
    intro j F M hj hF hW h1 h2
    obtain ⟨F, rfl⟩ : ∃ y, F = y + 1 := ⟨F - 1, by omega⟩
    refine ⟨M, ?_, hW, fun k hk => h1 k (by omega)⟩
    rw [eq_X12_copies_2, if_neg (by rw [gs_nlt (by omega) (by omega)]; omega)]
  | succ r ih =>
    intro j F M hj hF hW h1 h2
    obtain ⟨F, rfl⟩ : ∃ y, F = y + 1 := ⟨F - 1, by omega⟩
    have hM := wc_sh h hW
    rw [eq_X12_copies_2, if_pos (by rw [gs_nlt (by omega) (by omega)]; omega), n_add, gs_ixn hM.1 hk (show n + j < gs_len x by omega), gs_ixn hM.1 hk (show j < gs_len x by omega), gs_ns]
    refine ih (j + 1) F _ (by omega) (by omega) (wx_sI hW rfl) (fun k hk' => ?_) (fun k hk' => ?_)
    · by_cases e : k = j
      · subst e
        rw [gs_sIe]
        exact h2 (n + k) (by omega)
      · rw [gs_sIn (Or.inr e)]
        exact h1 k (by omega)
    · rw [gs_sIn (Or.inr (by omega))]
      exact h2 k (by omega)
/-- t rows are kept -/
def gs_KI (m M : gs_M) (t : Nat) : Prop := gs_Wx rsKp m M ∧ (∀ k, k < 9 → M.2.1 119 k = m.2.1 120 k) ∧ (∀ k, k < 4 → M.2.1 122 k = m.2.1 123 k) ∧ (∀ j, j < t → ∀ k, k < wdr j → M.2.1 (124 + j) k = m.2.1 (124 + j) (wdr j + k)) ∧ (∀ j, t ≤ j → ∀ i, M.2.1 (124 + j) i = m.2.1 (124 + j) i)
theorem r_keep1 {t : Nat} {a : Int32} (hX : gs_Fu X) (h : gs_Sh m T) (ht : t < 18) (ea : a = Int32.ofNat (wdr t)) (hK : gs_KI m M t) : ∃ M', gs_exec X (d + 1) 189 [.inr (.inr (124 + t)), .inl a] M = gs_rU M' ∧ gs_KI m M' (t + 1) := by
  obtain ⟨l1, l2, l3⟩ := wdr_l t ht
  have hM := wc_sh h hK.1
  obtain ⟨M', e, w1, w2⟩ := r_copies (X := X) (d := d) hX hM l2 l1 l3 (wdr t) 0 X.1 M (by omega) (by unfold gs_Fu at hX; omega) (wx_refl M) (fun k hk => by omega) (fun k _ => rfl)
  obtain ⟨k1, k2, k3, k4, k5⟩ := hK
  refine ⟨M', ?_, wx_trans k1 (wx_mono w1 (fun x i hx => ?_)), fun k hk => ?_, fun k hk => ?_, fun j hj k hk => ?_, fun j hj i => ?_⟩
  · rw [eq_X12_copies, ea]
    exact e
  · exact Or.inr (Or.inr ⟨by omega, by omega⟩)
  · rw [w1.2.2 119 k (by omega)]
    exact k2 k hk
  · rw [w1.2.2 122 k (by omega)]
    exact k3 k hk
  · by_cases y : j = t
    · subst y
      rw [w2 k hk]
      exact k5 j (Nat.le_refl _) _
    · rw [w1.2.2 (124 + j) k (by omega)]
      exact k4 j (by omega) k hk
  · rw [w1.2.2 (124 + j) i (by omega)]
    exact k5 j (by omega) i
theorem r_keepA (h : gs_Sh m T) : ∀ (r k F : Nat) (M : gs_M), k + r = 9 → gs_Wx (fun y _ => y = 119) m M → (∀ i, i < k → M.2.1 119 i = m.2.1 120 i) → ∃ M', gs_iter X (gs_exec X d) gT_X12_keep (F + r) 2 [(0, .inr (.inr 116)), (1, .inl (Int32.ofNat k))] [] M = gs_iter X (gs_exec X d) gT_X12_keep F 2 [(0, .inr (.inr 116)), (1, .inl (Int32.ofNat 9))] [] M' ∧ gs_Wx (fun y _ => y = 119) m M' ∧ (∀ i, i < 9 → M'.2.1 119 i = m.2.1 120 i) := by
  intro r
  induction r with
  | zero =>
    intro k F M hk hW h1
    have e : k = 9 := by omega
    subst e
    exact ⟨M, rfl, hW, h1⟩
  | succ r ih =>
    intro k F M hk hW h1
    have hM := wc_sh h hW
    have l9 : Int32.ofNat k < (9 : Int32) := (gs_nlt (b := 9) (by omega) (by decide)).mpr (by omega)
    rw [show F + (r + 1) = (F + r) + 1 from rfl, eq_X12_keep_2, if_pos l9, fl_116 hM, sh_116_12 hM, gs_nn_s, fl_116 hM, sh_116_13 hM, gs_nn_s, gs_ixn hM.1 (show gs_ok 120 13 153 = true from rfl) (show k < 9 by omega), gs_ixn hM.1 (show gs_ok 119 13 153 = true from rfl) (show k < 9 by omega), gs_ns]
    refine ih (k + 1) F _ (by omega) (wx_sI hW rfl) (fun i hi => ?_)
    by_cases e : i = k
    · subst e
      rw [gs_sIe]
      exact hW.2.2 120 i (show ¬ (120 : Nat) = 119 by decide)
    · rw [gs_sIn (Or.inr e)]
      exact h1 i (by omega)
theorem r_keepB (h : gs_Sh m T) : ∀ (r k F : Nat) (M : gs_M), k + r = 4 → gs_Wx (fun y _ => y = 122) m M → (∀ i, i < k → M.2.1 122 i = m.2.1 123 i) → ∃ M', gs_iter X (gs_exec X d) gT_X12_keep (F + r) 28 [(0, .inr (.inr 116)), (1, .inl (Int32.ofNat k))] [] M = gs_iter X (gs_exec X d) gT_X12_keep F 28 [(0, .inr (.inr 116)), (1, .inl (Int32.ofNat 4))] [] M' ∧ gs_Wx (fun y _ => y = 122) m M' ∧ (∀ i, i < 4 → M'.2.1 122 i = m.2.1 123 i) := by
  intro r
  induction r with
  | zero =>
    intro k F M hk hW h1
    have e : k = 4 := by omega
    subst e
    exact ⟨M, rfl, hW, h1⟩
  | succ r ih =>
    intro k F M hk hW h1
    have hM := wc_sh h hW
    have l9 : Int32.ofNat k < (4 : Int32) := (gs_nlt (b := 4) (by omega) (by decide)).mpr (by omega)
    rw [show F + (r + 1) = (F + r) + 1 from rfl, eq_X12_keep_28, if_pos l9, fl_116 hM, sh_116_15 hM, gs_nn_s, fl_116 hM, sh_116_16 hM, gs_nn_s, gs_ixn hM.1 (show gs_ok 123 13 153 = true from rfl) (show k < 4 by omega), gs_ixn hM.1 (show gs_ok 122 13 153 = true from rfl) (show k < 4 by omega), gs_ns]
    refine ih (k + 1) F _ (by omega) (wx_sI hW rfl) (fun i hi => ?_)
    by_cases e : i = k
    · subst e
      rw [gs_sIe]
      exact hW.2.2 123 i (show ¬ (123 : Nat) = 122 by decide)
    · rw [gs_sIn (Or.inr e)]
      exact h1 i (by omega)
/-- what keep leaves -/
def gs_Kept (m M : gs_M) : Prop := gs_Wx (fun x i => rsKp x i ∨ (x = 116 ∧ (i = 36 ∨ i = 37))) m M ∧ (∀ k, k < 9 → M.2.1 119 k = m.2.1 120 k) ∧ (∀ k, k < 4 → M.2.1 122 k = m.2.1 123 k) ∧ (∀ j, j < 18 → ∀ k, k < wdr j → M.2.1 (124 + j) k = m.2.1 (124 + j) (wdr j + k)) ∧ M.2.1 116 36 = 0 ∧ M.2.1 116 37 = -1
theorem r_keep (hX : gs_Fu X) (h : gs_Sh m T) : ∃ M, gs_exec X (d + 2) 190 [.inr (.inr 116)] m = gs_rU M ∧ gs_Kept m M := by
  obtain ⟨F, hF⟩ : ∃ F, X.1 = ((F + 1) + 4 + 1) + 9 := ⟨X.1 - 15, by unfold gs_Fu at hX; omega⟩
  obtain ⟨M1, e1, w1, v1⟩ := r_keepA (X := X) (d := d + 1) h 9 0 ((F + 1) + 4 + 1) m (by omega) (wx_refl m) (fun i hi => by omega)
  have h1 := wc_sh h w1
  obtain ⟨M2, e2, w2, v2⟩ := r_keepB (X := X) (d := d + 1) h1 4 0 (F + 1) M1 (by omega) (wx_refl M1) (fun i hi => by omega)
  have k0 : gs_KI m M2 0 := by
    refine ⟨wx_trans (wx_mono w1 (fun x i hx => Or.inl hx)) (wx_mono w2 (fun x i hx => Or.inr (Or.inl hx))), fun k hk => ?_, fun k hk => ?_, fun j hj => by omega, fun j hj i => ?_⟩
    · rw [w2.2.2 119 k (show ¬ (119 : Nat) = 122 by decide)]
      exact v1 k hk
    · rw [v2 k hk]
      exact w1.2.2 123 k (show ¬ (123 : Nat) = 119 by decide)
    · rw [w2.2.2 (124 + j) i (by omega), w1.2.2 (124 + j) i (by omega)]
  have s0 := wc_sh h k0.1
  obtain ⟨N0, f0, k1⟩ := r_keep1 (X := X) (d := d) (t := 0) (a := (8 : Int32)) hX h (by decide) rfl k0
  have s1 := wc_sh h k1.1
  obtain ⟨N1, f1, k2⟩ := r_keep1 (X := X) (d := d) (t := 1) (a := (8 : Int32)) hX h (by decide) rfl k1
  have s2 := wc_sh h k2.1
  obtain ⟨N2, f2, k3⟩ := r_keep1 (X := X) (d := d) (t := 2) (a := (8 : Int32)) hX h (by decide) rfl k2
  have s3 := wc_sh h k3.1
  obtain ⟨N3, f3, k4⟩ := r_keep1 (X := X) (d := d) (t := 3) (a := (10 : Int32)) hX h (by decide) rfl k3
  have s4 := wc_sh h k4.1
  obtain ⟨N4, f4, k5⟩ := r_keep1 (X := X) (d := d) (t := 4) (a := (10 : Int32)) hX h (by decide) rfl k4
  have s5 := wc_sh h k5.1
  obtain ⟨N5, f5, k6⟩ := r_keep1 (X := X) (d := d) (t := 5) (a := (10 : Int32)) hX h (by decide) rfl k5
  have s6 := wc_sh h k6.1
  obtain ⟨N6, f6, k7⟩ := r_keep1 (X := X) (d := d) (t := 6) (a := (8 : Int32)) hX h (by decide) rfl k6
  have s7 := wc_sh h k7.1
  obtain ⟨N7, f7, k8⟩ := r_keep1 (X := X) (d := d) (t := 7) (a := (8 : Int32)) hX h (by decide) rfl k7
  have s8 := wc_sh h k8.1
  obtain ⟨N8, f8, k9⟩ := r_keep1 (X := X) (d := d) (t := 8) (a := (192 : Int32)) hX h (by decide) rfl k8
  have s9 := wc_sh h k9.1
  obtain ⟨N9, f9, k10⟩ := r_keep1 (X := X) (d := d) (t := 9) (a := (90 : Int32)) hX h (by decide) rfl k9
  have s10 := wc_sh h k10.1
  obtain ⟨N10, f10, k11⟩ := r_keep1 (X := X) (d := d) (t := 10) (a := (6 : Int32)) hX h (by decide) rfl k10
  have s11 := wc_sh h k11.1
  obtain ⟨N11, f11, k12⟩ := r_keep1 (X := X) (d := d) (t := 11) (a := (6 : Int32)) hX h (by decide) rfl k11
  have s12 := wc_sh h k12.1
  obtain ⟨N12, f12, k13⟩ := r_keep1 (X := X) (d := d) (t := 12) (a := (6 : Int32)) hX h (by decide) rfl k12
  have s13 := wc_sh h k13.1
  obtain ⟨N13, f13, k14⟩ := r_keep1 (X := X) (d := d) (t := 13) (a := (6 : Int32)) hX h (by decide) rfl k13
  have s14 := wc_sh h k14.1
  obtain ⟨N14, f14, k15⟩ := r_keep1 (X := X) (d := d) (t := 14) (a := (18 : Int32)) hX h (by decide) rfl k14
  have s15 := wc_sh h k15.1
  obtain ⟨N15, f15, k16⟩ := r_keep1 (X := X) (d := d) (t := 15) (a := (64 : Int32)) hX h (by decide) rfl k15
  have s16 := wc_sh h k16.1
  obtain ⟨N16, f16, k17⟩ := r_keep1 (X := X) (d := d) (t := 16) (a := (64 : Int32)) hX h (by decide) rfl k16
  have s17 := wc_sh h k17.1
  obtain ⟨N17, f17, k18⟩ := r_keep1 (X := X) (d := d) (t := 17) (a := (64 : Int32)) hX h (by decide) rfl k17
  have s18 := wc_sh h k18.1
  obtain ⟨q1, q2, q3, q4, q5⟩ := k18
  refine ⟨gs_sI (gs_sI N17 116 36 0) 116 37 (-1), ?_, wx_sI (wx_sI (wx_mono q1 (fun x i hx => Or.inl hx)) (Or.inr ⟨rfl, Or.inl rfl⟩)) (Or.inr ⟨rfl, Or.inr rfl⟩), fun k hk => ?_, fun k hk => ?_, fun j hj k hk => ?_, ?_, gs_sIe _ _ _ _⟩
  · rw [eq_X12_keep, hF]
    show gs_iter X (gs_exec X (d + 1)) gT_X12_keep (((F + 1) + 4 + 1) + 9) 2 [(0, .inr (.inr 116)), (1, .inl (Int32.ofNat 0))] [] m = _
    rw [e1, eq_X12_keep_2, if_neg (by decide)]
    show gs_iter X (gs_exec X (d + 1)) gT_X12_keep ((F + 1) + 4) 28 [(0, .inr (.inr 116)), (1, .inl (Int32.ofNat 0))] [] M1 = _
    rw [e2, eq_X12_keep_28, if_neg (by decide)]
    rw [fl_116 s0, sh_116_18 s0, gs_nn_s, show gs_exec X (d + 1) 189 [.inr (.inr 124), .inl (8 : Int32)] M2 = gs_rU N0 from f0, gs_bU_s, fl_116 s1, sh_116_19 s1, gs_nn_s, show gs_exec X (d + 1) 189 [.inr (.inr 125), .inl (8 : Int32)] N0 = gs_rU N1 from f1, gs_bU_s, fl_116 s2, sh_116_20 s2, gs_nn_s, show gs_exec X (d + 1) 189 [.inr (.inr 126), .inl (8 : Int32)] N1 = gs_rU N2 from f2, gs_bU_s, fl_116 s3, sh_116_21 s3, gs_nn_s, show gs_exec X (d + 1) 189 [.inr (.inr 127), .inl (10 : Int32)] N2 = gs_rU N3 from f3, gs_bU_s, fl_116 s4, sh_116_22 s4, gs_nn_s, show gs_exec X (d + 1) 189 [.inr (.inr 128), .inl (10 : Int32)] N3 = gs_rU N4 from f4, gs_bU_s, fl_116 s5, sh_116_23 s5, gs_nn_s, show gs_exec X (d + 1) 189 [.inr (.inr 129), .inl (10 : Int32)] N4 = gs_rU N5 from f5, gs_bU_s, fl_116 s6, sh_116_24 s6, gs_nn_s, show gs_exec X (d + 1) 189 [.inr (.inr 130), .inl (8 : Int32)] N5 = gs_rU N6 from f6, gs_bU_s, fl_116 s7, sh_116_25 s7, gs_nn_s, show gs_exec X (d + 1) 189 [.inr (.inr 131), .inl (8 : Int32)] N6 = gs_rU N7 from f7, gs_bU_s, fl_116 s8, sh_116_26 s8, gs_nn_s, show gs_exec X (d + 1) 189 [.inr (.inr 132), .inl (192 : Int32)] N7 = gs_rU N8 from f8, gs_bU_s, fl_116 s9, sh_116_27 s9, gs_nn_s, show gs_exec X (d + 1) 189 [.inr (.inr 133), .inl (90 : Int32)] N8 = gs_rU N9 from f9, gs_bU_s, fl_116 s10, sh_116_28 s10, gs_nn_s, show gs_exec X (d + 1) 189 [.inr (.inr 134), .inl (6 : Int32)] N9 = gs_rU N10 from f10, gs_bU_s, fl_116 s11, sh_116_29 s11, gs_nn_s, show gs_exec X (d + 1) 189 [.inr (.inr 135), .inl (6 : Int32)] N10 = gs_rU N11 from f11, gs_bU_s, fl_116 s12, sh_116_30 s12, gs_nn_s, show gs_exec X (d + 1) 189 [.inr (.inr 136), .inl (6 : Int32)] N11 = gs_rU N12 from f12, gs_bU_s, fl_116 s13, sh_116_31 s13, gs_nn_s, show gs_exec X (d + 1) 189 [.inr (.inr 137), .inl (6 : Int32)] N12 = gs_rU N13 from f13, gs_bU_s, fl_116 s14, sh_116_32 s14, gs_nn_s, show gs_exec X (d + 1) 189 [.inr (.inr 138), .inl (18 : Int32)] N13 = gs_rU N14 from f14, gs_bU_s, fl_116 s15, sh_116_33 s15, gs_nn_s, show gs_exec X (d + 1) 189 [.inr (.inr 139), .inl (64 : Int32)] N14 = gs_rU N15 from f15, gs_bU_s, fl_116 s16, sh_116_34 s16, gs_nn_s, show gs_exec X (d + 1) 189 [.inr (.inr 140), .inl (64 : Int32)] N15 = gs_rU N16 from f16, gs_bU_s, fl_116 s17, sh_116_35 s17, gs_nn_s, show gs_exec X (d + 1) 189 [.inr (.inr 141), .inl (64 : Int32)] N16 = gs_rU N17 from f17, gs_bU_s, fl_116 s18]
    simp only [gs_fld_sI, fl_116 s18]
  · rw [gs_sIn (Or.inl (by decide)), gs_sIn (Or.inl (by decide))]
    exact q2 k hk
  · rw [gs_sIn (Or.inl (by decide)), gs_sIn (Or.inl (by decide))]
    exact q3 k hk
  · rw [gs_sIn (Or.inl (by omega)), gs_sIn (Or.inl (by omega))]
    exact q4 j hj k hk
  · rw [gs_sIn (Or.inr (by decide)), gs_sIe]
end KP
section PL
variable {X : gs_E} {d T : Nat} {m : gs_M}
theorem r_plainA (h : gs_Sh m T) : ∀ (r k F : Nat) (M : gs_M), k + r = 9 → gs_Wx (fun y _ => y = 120) m M → (∀ i, i < k → M.2.1 120 i = 0) → ∃ M', gs_iter X (gs_exec X d) gT_X12_plain (F + r) 2 [(0, .inr (.inr 116)), (1, .inl (Int32.ofNat k))] [] M = gs_iter X (gs_exec X d) gT_X12_plain F 2 [(0, .inr (.inr 116)), (1, .inl (Int32.ofNat 9))] [] M' ∧ gs_Wx (fun y _ => y = 120) m M' ∧ (∀ i, i < 9 → M'.2.1 120 i = 0) := by
  intro r
  induction r with
  | zero =>
    intro k F M hk hW h1
    have e : k = 9 := by omega
    subst e
    exact ⟨M, rfl, hW, h1⟩
  | succ r ih =>
    intro k F M hk hW h1
    have hM := wc_sh h hW
    have l9 : Int32.ofNat k < (9 : Int32) := (gs_nlt (b := 9) (by omega) (by decide)).mpr (by omega)
    rw [show F + (r + 1) = (F + r) + 1 from rfl, eq_X12_plain_2, if_pos l9, fl_116 hM, sh_116_13 hM, gs_nn_s, gs_ixn hM.1 (show gs_ok 120 13 153 = true from rfl) (show k < 9 by omega), gs_ns]
    refine ih (k + 1) F _ (by omega) (wx_sI hW rfl) (fun i hi => ?_)
    by_cases e : i = k
    · rw [e, gs_sIe]
    · rw [gs_sIn (Or.inr e)]
      exact h1 i (by omega)
theorem r_plain (hX : gs_Fu X) (h : gs_Sh m T) : ∃ M, gs_exec X (d + 1) 188 [.inr (.inr 116)] m = gs_rU M ∧ gs_Wx (fun x i => x = 120 ∨ x = 123 ∨ (x = 116 ∧ (i = 17 ∨ i = 43))) m M ∧ (∀ i, i < 9 → M.2.1 120 i = 0) ∧ M.2.1 123 0 = 0 ∧ M.2.1 123 1 = 5 ∧ M.2.1 123 2 = 20 ∧ M.2.1 123 3 = 0 ∧ M.2.1 116 17 = 0 ∧ M.2.1 116 43 = 0 := by
  obtain ⟨F, hF⟩ : ∃ F, X.1 = (F + 1) + 9 := ⟨X.1 - 10, by unfold gs_Fu at hX; omega⟩
  obtain ⟨M1, e1, w1, v1⟩ := r_plainA (X := X) (d := d) h 9 0 (F + 1) m (by omega) (wx_refl m) (fun i hi => by omega)
  have h1 := wc_sh h w1
  have i0 : ∀ K : Nat → gs_O, gs_ix M1 123 13 (0 : Int32) K = K 0 := fun K => gs_ixn h1.1 rfl (show 0 < 4 by decide)
  have i1 : ∀ K : Nat → gs_O, gs_ix M1 123 13 (1 : Int32) K = K 1 := fun K => gs_ixn h1.1 rfl (show 1 < 4 by decide)
  have i2 : ∀ K : Nat → gs_O, gs_ix M1 123 13 (2 : Int32) K = K 2 := fun K => gs_ixn h1.1 rfl (show 2 < 4 by decide)
  have i3 : ∀ K : Nat → gs_O, gs_ix M1 123 13 (3 : Int32) K = K 3 := fun K => gs_ixn h1.1 rfl (show 3 < 4 by decide)
  refine ⟨gs_sI (gs_sI (gs_sI (gs_sI (gs_sI (gs_sI M1 123 0 0) 123 1 5) 123 2 20) 123 3 0) 116 17 0) 116 43 0, ?_, ?_, fun i hi => ?_, ?_, ?_, ?_, ?_, ?_, gs_sIe _ _ _ _⟩
  · rw [eq_X12_plain, hF]
    show gs_iter X (gs_exec X d) gT_X12_plain ((F + 1) + 9) 2 [(0, .inr (.inr 116)), (1, .inl (Int32.ofNat 0))] [] m = _
    rw [e1, eq_X12_plain_2, if_neg (by decide)]
    simp only [gs_fld_sI, gs_ix_sI, gs_sI22, fl_116 h1, sh_116_16 h1, gs_nn_s, i0, i1, i2, i3]
  · exact wx_sI (wx_sI (wx_sI (wx_sI (wx_sI (wx_sI (wx_mono w1 (fun x i hx => Or.inl hx)) (Or.inr (Or.inl rfl))) (Or.inr (Or.inl rfl))) (Or.inr (Or.inl rfl))) (Or.inr (Or.inl rfl))) (Or.inr (Or.inr ⟨rfl, Or.inl rfl⟩))) (Or.inr (Or.inr ⟨rfl, Or.inr rfl⟩))
  · rw [gs_sIn (Or.inl (by decide)), gs_sIn (Or.inl (by decide)), gs_sIn (Or.inl (by decide)), gs_sIn (Or.inl (by decide)), gs_sIn (Or.inl (by decide)), gs_sIn (Or.inl (by decide))]
    exact v1 i hi
  · rfl
  · rfl
  · rfl
  · rfl
  · rfl
end PL
