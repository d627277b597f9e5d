/-! The reference reads a sign, whole. -/
section RS3
variable {X : gs_E} {d : Nat} {m M : gs_M} {T L a len k p b F : Nat} {by_ : Nat → Nat}
theorem r_cmp {nb : Nat} (hc : b = 60 ∨ b = 62 ∨ b = 61) : rSg b nb = (5, cmpV b (sgA b nb) (sgB b nb), if sgA b nb = 0 ∧ sgB b nb = 0 then 0 else 1) := by
  unfold rSg cmpV sgA sgB
  have u : ¬ (1 : Int32) = 0 := by decide
  rcases hc with e | e | e
  · subst e
    by_cases n1 : nb = 61
    · simp [n1]
    · by_cases n2 : nb = 62
      · simp [n2]
      · simp [n1, n2]
  · subst e
    by_cases n1 : nb = 61
    · simp [n1]
    · simp [n1]
  · subst e
    simp
theorem r_takeSign (hX : gs_Fu X) (h : gs_Sh m T) (hB : gs_Bz m by_ L) (hp : p < L) (h7 : m.2.1 116 7 = Int32.ofNat p) : ∃ M', gs_exec X (d + 1) 183 [.inr (.inr 116)] m = gs_rU M' ∧ gs_RS9 m M' (p + 1) (rSg (by_ p) (if p + 1 < L then by_ (p + 1) else 0)) := by
  have hL := hB.1
  obtain ⟨-, bp, b256⟩ := hB.2.1 p hp
  have w : gs_Wx rsY m (gs_sI (gs_sI m 116 9 (Int32.ofNat (by_ p))) 116 7 (Int32.ofNat (p + 1))) := wx_sI (wx_sI (wx_refl m) ⟨rfl, Or.inr (Or.inr (Or.inl rfl))⟩) ⟨rfl, Or.inl rfl⟩
  have r7 : (gs_sI m 116 9 (Int32.ofNat (by_ p))).2.1 116 7 = Int32.ofNat p := by rw [gs_sIn (Or.inr (by decide))]; exact h7
  have q9 : (gs_sI (gs_sI m 116 9 (Int32.ofNat (by_ p))) 116 7 (Int32.ofNat (p + 1))).2.1 116 9 = Int32.ofNat (by_ p) := by rw [gs_sIn (Or.inr (by decide)), gs_sIe]
  have q7 : (gs_sI (gs_sI m 116 9 (Int32.ofNat (by_ p))) 116 7 (Int32.ofNat (p + 1))).2.1 116 7 = Int32.ofNat (p + 1) := gs_sIe _ _ _ _
  have q10 : (gs_sI (gs_sI m 116 9 (Int32.ofNat (by_ p))) 116 7 (Int32.ofNat (p + 1))).2.1 116 10 = m.2.1 116 10 := by rw [gs_sIn (Or.inr (by decide)), gs_sIn (Or.inr (by decide))]
  have ee : ∀ c : Nat, c < 128 → ((Int32.ofNat (by_ p) = Int32.ofNat c) = (by_ p = c)) := fun c hc => propext (n_eq (by omega) (by omega))
  rw [eq_X12_takeSign, fl_116 h, sh_116_0 h, gs_nn_s, fl_116 h, h7, gs_ixn h.1 (show gs_ok 117 13 153 = true from rfl) (show p < 800 by omega), bp]
  simp only [gs_fld_sI, fl_116 h, r7, gs_ns]
  generalize gs_sI (gs_sI m 116 9 (Int32.ofNat (by_ p))) 116 7 (Int32.ofNat (p + 1)) = M4 at w q9 q7 q10 ⊢
  have hM := wc_sh h w
  have hBM := by_y hB w
  simp only [fl_116 hM, q9, show ((Int32.ofNat (by_ p) = (60 : Int32)) = (by_ p = 60)) from ee 60 (by decide), show ((Int32.ofNat (by_ p) = (62 : Int32)) = (by_ p = 62)) from ee 62 (by decide), show ((Int32.ofNat (by_ p) = (61 : Int32)) = (by_ p = 61)) from ee 61 (by decide), show ((Int32.ofNat (by_ p) = (59 : Int32)) = (by_ p = 59)) from ee 59 (by decide), show ((Int32.ofNat (by_ p) = (40 : Int32)) = (by_ p = 40)) from ee 40 (by decide), show ((Int32.ofNat (by_ p) = (41 : Int32)) = (by_ p = 41)) from ee 41 (by decide), show ((Int32.ofNat (by_ p) = (43 : Int32)) = (by_ p = 43)) from ee 43 (by decide), show ((Int32.ofNat (by_ p) = (45 : Int32)) = (by_ p = 45)) from ee 45 (by decide), show ((Int32.ofNat (by_ p) = (42 : Int32)) = (by_ p = 42)) from ee 42 (by decide), show ((Int32.ofNat (by_ p) = (47 : Int32)) = (by_ p = 47)) from ee 47 (by decide)]
  obtain ⟨F, hF⟩ : ∃ F, X.1 = F + 1 + 1 + 1 := ⟨X.1 - 3, by unfold gs_Fu at hX; omega⟩
  have cmp : (by_ p = 60 ∨ by_ p = 62 ∨ by_ p = 61) → ∃ M', gs_iter X (gs_exec X d) gT_X12_takeSign X.1 50 [(0, .inr (.inr 116))] [] M4 = gs_rU M' ∧ gs_RS9 m M' (p + 1) (rSg (by_ p) (if p + 1 < L then by_ (p + 1) else 0)) := fun hc => by
    rw [hF, r_s50 hM hBM (show p + 1 ≤ L by omega) b256 q7 q9, r_s116 hM q7, r_cmp hc]
    generalize (if p + 1 < L then by_ (p + 1) else 0) = nb
    by_cases z : sgA (by_ p) nb = 0 ∧ sgB (by_ p) nb = 0
    · rw [if_pos z, if_pos z, r_s135 hM b256 q9]
      exact ⟨_, rfl, rs_end w q7 q10⟩
    · have w2 : gs_Wx rsY m (gs_sI M4 116 7 (Int32.ofNat (p + 1 + 1))) := wx_sI w ⟨rfl, Or.inl rfl⟩
      rw [if_neg z, if_neg z, r_s135 (wc_sh h w2) b256 (by rw [gs_sIn (Or.inr (by decide))]; exact q9)]
      exact ⟨_, rfl, rs_end w2 (gs_sIe _ _ _ _) (by rw [gs_sIn (Or.inr (by decide))]; exact q10)⟩
  have one : ∀ kd : Nat, gs_RS9 m (gs_sI M4 116 8 (Int32.ofNat kd)) (p + 1) (kd, by_ p, 0) := fun kd => ⟨wx_sI w ⟨rfl, Or.inr (Or.inl rfl)⟩, by rw [gs_sIn (Or.inr (by decide))]; exact q7, gs_sIe _ _ _ _, by rw [gs_sIn (Or.inr (by decide))]; exact q9, by rw [gs_sIn (Or.inr (by decide))]; exact q10⟩
  have s261 : gs_iter X (gs_exec X d) gT_X12_takeSign X.1 261 [(0, .inr (.inr 116))] [] M4 = gs_rU (gs_sI M4 116 8 (Int32.ofNat 4)) := by
    rw [hF, eq_X12_takeSign_261, if_neg (by decide), fl_116 hM]
    rfl
  by_cases c1 : by_ p = 60
  · rw [if_pos c1]
    exact cmp (Or.inl c1)
  by_cases c2 : by_ p = 62
  · rw [if_neg c1, if_pos c2]
    exact cmp (Or.inr (Or.inl c2))
  by_cases c3 : by_ p = 61
  · rw [if_neg c1, if_neg c2, if_pos c3]
    exact cmp (Or.inr (Or.inr c3))
  rw [if_neg c1, if_neg c2, if_neg c3, s261]
  unfold rSg
  rw [if_neg c1, if_neg c2, if_neg c3]
  by_cases c4 : by_ p = 59 ∨ by_ p = 40 ∨ by_ p = 41 ∨ by_ p = 43 ∨ by_ p = 45 ∨ by_ p = 42 ∨ by_ p = 47
  · rw [if_pos c4]
    refine ⟨_, ?_, one 4⟩
    repeat' split
    all_goals first | rfl | (exfalso; omega)
  · rw [if_neg c4]
    refine ⟨_, ?_, one 6⟩
    repeat' split
    all_goals first | rfl | contradiction | (exfalso; omega)
end RS3
