/-! The class goes on to the next token. -/
abbrev isBl (b : Nat) : Prop := b = 10 ∨ b = 32
def bEnd (by_ : Nat → Nat) : Nat → Nat → Nat
  | 0, p => p
  | q + 1, p => if isBl (by_ p) then bEnd by_ q (p + 1) else p
theorem bEnd_s (by_ : Nat → Nat) (q p : Nat) : bEnd by_ (q + 1) p = if isBl (by_ p) then bEnd by_ q (p + 1) else p := rfl
/-- the class's token at p, where no blank stands -/
def gs_CT (M : gs_M) (by_ : Nat → Nat) (L p : Nat) : Prop := M.2.1 3 6 = Int32.ofNat p ∧
  (if p < L then
    (if isSm (by_ p) then
      M.2.1 3 3 = Int32.ofNat (wEnd by_ (L - p) p) ∧ (6 < wEnd by_ (L - p) p - p → M.2.1 3 5 = 35) ∧ (wEnd by_ (L - p) p - p ≤ 6 → M.2.1 3 5 = Int32.ofNat (kWd (pkV by_ p (wEnd by_ (L - p) p - p) * 32 ^ (6 - (wEnd by_ (L - p) p - p))) 32) ∧ M.2.1 3 7 = Int32.ofNat (pkV by_ p (wEnd by_ (L - p) p - p) * 32 ^ (6 - (wEnd by_ (L - p) p - p))))
    else if isDg (by_ p) then
      M.2.1 3 3 = Int32.ofNat (nVal by_ (L - p) p 0).1 ∧ M.2.1 3 7 = Int32.ofNat (cv4 (nVal by_ (L - p) p 0).2) ∧ M.2.1 3 5 = 33
    else
      M.2.1 3 3 = Int32.ofNat (p + 1 + (wdn (sKd (by_ p)) (if p + 1 < L then by_ (p + 1) else 0)).2) ∧ M.2.1 3 5 = Int32.ofNat (wdn (sKd (by_ p)) (if p + 1 < L then by_ (p + 1) else 0)).1)
  else M.2.1 3 3 = Int32.ofNat p ∧ M.2.1 3 5 = 34)
section AD
variable {X : gs_E} {d : Nat} {m M : gs_M} {T L a len k p b : Nat} {by_ : Nat → Nat}
theorem lg_x (hG : gs_Lg m) (hW : gs_Wx rsX m M) : gs_Lg M := fun j hj => by
  rw [hW.2.2 5 j (fun q => by unfold rsX at q; omega)]
  exact hG j hj
theorem sKd_lt (b : Nat) : sKd b < 100 := by
  unfold sKd
  repeat' split
  all_goals decide
/-- a sign, read at p -/
theorem x_sign (h : gs_Sh M T) (hB : gs_Bx M by_ L) (hp : p < L) (h3 : M.2.1 3 3 = Int32.ofNat p) (h6 : M.2.1 3 6 = Int32.ofNat p) (n1 : ¬ isSm (by_ p)) (n2 : ¬ isDg (by_ p)) : ∃ M', gs_bI (gs_exec X (d + 1) 112 [.inl (sgn (by_ p))] M) gs_nt (fun x11 m10 => gs_fld m10 3 8 (let m12 : gs_M := gs_sI m10 3 5 x11; gs_fld m12 3 8 (gs_fld m12 3 8 (let m13 : gs_M := gs_sI m12 3 3 ((m12.2.1 3 3) + (1 : Int32)); gs_fld m13 3 8 (gs_bU (gs_exec X (d + 1) 111 [.inr (.inr 3)] m13) gs_th (fun m14 => gs_rU m14)))))) = gs_rU M' ∧ gs_Wx rsX M M' ∧ gs_CT M' by_ L p := by
  obtain ⟨-, -, b256⟩ := hB.2.1 p hp
  have w1 : gs_Wx rsX M (gs_sI (gs_sI M 3 5 (Int32.ofNat (sKd (by_ p)))) 3 3 (Int32.ofNat (p + 1))) := wx_sI (wx_sI (wx_refl M) ⟨rfl, Or.inr (Or.inl rfl)⟩) ⟨rfl, Or.inl rfl⟩
  obtain ⟨M', e, w, a3, a5, a6⟩ := x_widenSign (X := X) (d := d) (k := sKd (by_ p)) (wc_sh h w1) (by_x hB w1) (show p + 1 ≤ L by omega) (sKd_lt _) (gs_sIe _ _ _ _) (by rw [gs_sIn (Or.inr (by decide)), gs_sIe])
  refine ⟨M', ?_, wx_trans w1 w, ?_, ?_⟩
  · have r3 : (gs_sI M 3 5 (Int32.ofNat (sKd (by_ p)))).2.1 3 3 = Int32.ofNat p := by rw [gs_sIn (Or.inr (by decide))]; exact h3
    rw [x_signKind b256, gs_bI_s]
    simp only [gs_fld_sI, fl_3 h, r3, gs_ns]
    rw [e, gs_bU_s]
  · rw [a6, gs_sIn (Or.inr (by decide)), gs_sIn (Or.inr (by decide))]
    exact h6
  · rw [if_pos hp, if_neg n1, if_neg n2]
    exact ⟨a3, a5⟩
theorem x_adv_loop (hX : gs_Fu X) (h : gs_Sh m T) (hB : gs_Bx m by_ L) (hG : gs_Lg m) : ∀ (q p F : Nat) (M : gs_M), p + q = L → q < F → gs_Wx rsX m M → M.2.1 3 3 = Int32.ofNat p →
    ∃ M', gs_iter X (gs_exec X (d + 2)) gT_X9_advance F 0 [(0, .inr (.inr 3))] [] M = gs_rU M' ∧ gs_Wx rsX m M' ∧ gs_CT M' by_ L (bEnd by_ q p) := by
  have hL := hB.1
  intro q
  induction q with
  | zero =>
    intro p F M hp hF hW h3
    obtain ⟨F, rfl⟩ : ∃ y, F = y + 1 := ⟨F - 1, by omega⟩
    have hM := wc_sh h hW
    have e2 := (by_x hB hW).2.2.1
    have r3 : (gs_sI M 3 6 (Int32.ofNat p)).2.1 3 3 = Int32.ofNat p := by rw [gs_sIn (Or.inr (by decide))]; exact h3
    have r2 : (gs_sI M 3 6 (Int32.ofNat p)).2.1 3 2 = Int32.ofNat L := by rw [gs_sIn (Or.inr (by decide))]; exact e2
    have nl : ¬ Int32.ofNat p < Int32.ofNat L := by rw [gs_nlt (by omega) (by omega)]; omega
    refine ⟨gs_sI (gs_sI M 3 6 (Int32.ofNat p)) 3 5 34, ?_, wx_sI (wx_sI hW ⟨rfl, Or.inr (Or.inr (Or.inl rfl))⟩) ⟨rfl, Or.inr (Or.inl rfl)⟩, ?_, ?_⟩
    · rw [eq_X9_advance_0, fl_3 hM, fl_3 hM, h3, e2, if_neg nl]
      simp only [gs_fld_sI, fl_3 hM, r3, r2, if_neg nl]
    · rw [gs_sIn (Or.inr (by decide)), gs_sIe]
      rfl
    · show if p < L then _ else _
      rw [if_neg (by omega)]
      exact ⟨by rw [gs_sIn (Or.inr (by decide))]; exact r3, gs_sIe _ _ _ _⟩
  | succ q ih =>
    intro p F M hp hF hW h3
    obtain ⟨F, rfl⟩ : ∃ y, F = y + 1 := ⟨F - 1, by omega⟩
    have hM := wc_sh h hW
    have hBM := by_x hB hW
    have e2 := hBM.2.2.1
    obtain ⟨bp, -, b256⟩ := hBM.2.1 p (by omega)
    have hpL : p < L := by omega
    have lt : Int32.ofNat p < Int32.ofNat L := by rw [gs_nlt (by omega) (by omega)]; omega
    have s10 : sgn (by_ p) = (10 : Int32) ↔ by_ p = 10 := sgn_eq (k := 10) b256 (by decide)
    have s32 : sgn (by_ p) = (32 : Int32) ↔ by_ p = 32 := sgn_eq (k := 32) b256 (by decide)
    have w1 : gs_Wx rsX m (gs_sI M 3 6 (Int32.ofNat p)) := wx_sI hW ⟨rfl, Or.inr (Or.inr (Or.inl rfl))⟩
    have hM1 := wc_sh h w1
    have hB1 := by_x hB w1
    have r3 : (gs_sI M 3 6 (Int32.ofNat p)).2.1 3 3 = Int32.ofNat p := by rw [gs_sIn (Or.inr (by decide))]; exact h3
    have r2 : (gs_sI M 3 6 (Int32.ofNat p)).2.1 3 2 = Int32.ofNat L := by rw [gs_sIn (Or.inr (by decide))]; exact e2
    have r6 : (gs_sI M 3 6 (Int32.ofNat p)).2.1 3 6 = Int32.ofNat p := gs_sIe _ _ _ _
    have r4 : (gs_sI M 3 6 (Int32.ofNat p)).2.1 4 p = sgn (by_ p) := by rw [gs_sIn (Or.inl (by decide))]; exact bp
    rw [eq_X9_advance_0, bEnd_s]
    simp only [fl_3 hM, h3, e2, if_pos lt, sh_3_0 hM, gs_nn_s, gs_ixn hM.1 (show gs_ok 4 12 153 = true from rfl) (show p < 800 by omega), bp, gs_ns]
    by_cases z1 : by_ p = 10
    · rw [if_pos (s10.mpr z1), if_pos (Or.inl z1)]
      exact ih (p + 1) F _ (by omega) (by omega) (wx_sI hW ⟨rfl, Or.inl rfl⟩) (gs_sIe _ _ _ _)
    by_cases z2 : by_ p = 32
    · rw [if_neg (fun y => z1 (s10.mp y)), if_pos (s32.mpr z2), if_pos (Or.inr z2)]
      exact ih (p + 1) F _ (by omega) (by omega) (wx_sI hW ⟨rfl, Or.inl rfl⟩) (gs_sIe _ _ _ _)
    rw [if_neg (fun y => z1 (s10.mp y)), if_neg (fun y => z2 (s32.mp y)), if_neg (show ¬ isBl (by_ p) by omega)]
    generalize gs_sI M 3 6 (Int32.ofNat p) = M1 at w1 hM1 hB1 r3 r2 r6 r4 ⊢
    rw [fl_3 hM1, fl_3 hM1, r3, r2, if_pos lt, fl_3 hM1, sh_3_0 hM1, gs_nn_s, fl_3 hM1, gs_ixn hM1.1 (show gs_ok 4 12 153 = true from rfl) (show p < 800 by omega), r4]
    have l97 : sgn (by_ p) < (97 : Int32) ↔ (by_ p < 97 ∨ 128 ≤ by_ p) := sgn_lt (k := 97) b256 (by decide)
    have l122 : (122 : Int32) < sgn (by_ p) ↔ (122 < by_ p ∧ by_ p < 128) := sgn_gt (k := 122) b256 (by decide)
    have l48 : sgn (by_ p) < (48 : Int32) ↔ (by_ p < 48 ∨ 128 ≤ by_ p) := sgn_lt (k := 48) b256 (by decide)
    have l57 : (57 : Int32) < sgn (by_ p) ↔ (57 < by_ p ∧ by_ p < 128) := sgn_gt (k := 57) b256 (by decide)
    by_cases c1 : isSm (by_ p)
    · obtain ⟨M', a1, a2, a3, a4, a5, a6⟩ := x_takeWord (X := X) (d := d + 1) hX hM1 hB1 (lg_x hG w1) (show p ≤ L by omega) r3 r6
      refine ⟨M', ?_, wx_trans w1 a2, a4, ?_⟩
      · rw [if_neg (fun y => by have := l97.mp y; omega), if_neg (fun y => by have := l122.mp y; omega), fl_3 hM1, a1, gs_bU_s]
      · rw [if_pos hpL, if_pos c1]
        exact ⟨a3, a5, a6⟩
    by_cases c2 : isDg (by_ p)
    · obtain ⟨M', a1, a2, a3, a4, a5, a6⟩ := x_takeNumber (X := X) (d := d) hX hM1 hB1 (show p ≤ L by omega) r3
      refine ⟨M', ?_, wx_trans w1 a2, a6.trans r6, ?_⟩
      · rw [if_pos (l97.mpr (by omega)), if_neg (fun y => by have := l48.mp y; omega), if_neg (fun y => by have := l57.mp y; omega), fl_3 hM1, a1, gs_bU_s]
      · rw [if_pos hpL, if_neg c1, if_pos c2]
        exact ⟨a3, a4, a5⟩
    obtain ⟨M', a1, a2, a3⟩ := x_sign (X := X) (d := d + 1) hM1 hB1 hpL r3 r6 c1 c2
    refine ⟨M', ?_, wx_trans w1 a2, a3⟩
    by_cases y1 : by_ p < 97 ∨ 128 ≤ by_ p
    · rw [if_pos (l97.mpr y1)]
      by_cases y2 : by_ p < 48 ∨ 128 ≤ by_ p
      · rw [if_pos (l48.mpr y2)]
        exact a1
      · rw [if_neg (fun w => y2 (l48.mp w)), if_pos (l57.mpr (by omega))]
        exact a1
    · rw [if_neg (fun w => y1 (l97.mp w)), if_pos (l122.mpr (by omega)), if_neg (fun w => by have := l48.mp w; omega), if_pos (l57.mpr (by omega))]
      exact a1
theorem x_advance (hX : gs_Fu X) (h : gs_Sh m T) (hB : gs_Bx m by_ L) (hG : gs_Lg m) (hp : p ≤ L) (h3 : m.2.1 3 3 = Int32.ofNat p) : ∃ M', gs_exec X (d + 3) 108 [.inr (.inr 3)] m = gs_rU M' ∧ gs_Wx rsX m M' ∧ gs_CT M' by_ L (bEnd by_ (L - p) p) := by
  have hL := hB.1
  have e := (eq_X9_advance X (d + 2) 3 m).trans (eq_X9_advance_0 X (d + 2) X.1 3 m).symm
  rw [e]
  exact x_adv_loop hX h hB hG (L - p) p (X.1 + 1) m (by omega) (by unfold gs_Fu at hX; omega) (wx_refl m) h3
end AD
