/-! Signs that wait become knots. -/
def drR (r : Nat) : List Nat → List Nat
  | [] => []
  | x :: t => if rkn x < r then x :: t else drR r t
theorem drR_opn {r : Nat} (hr : 1 ≤ r) : ∀ ws : List Nat, opn (drR r ws) = opn ws
  | [] => rfl
  | x :: t => by
    show opn (if rkn x < r then x :: t else drR r t) = _
    by_cases z : rkn x < r
    · rw [if_pos z]
    · rw [if_neg z, drR_opn hr t]
      have : x ≠ 0 := fun e => by
        subst e
        exact z (show 0 < r by omega)
      rw [opn_n this]
theorem drR_nil {r : Nat} : ∀ ws : List Nat, opn ws = 0 → (∀ x ∈ ws, r ≤ rkn x ∨ x = 0) → drR r ws = []
  | [], _, _ => rfl
  | x :: t, h, hm => by
    have hx : x ≠ 0 := fun e => by
      rw [opn_z e] at h
      omega
    rw [opn_n hx] at h
    show (if rkn x < r then x :: t else drR r t) = _
    have := hm x (List.mem_cons_self ..)
    rw [if_neg (by omega)]
    exact drR_nil t h (fun y hy => hm y (List.mem_cons_of_mem _ hy))
theorem pcd_ck {x a : Nat} (h : 2 ≤ x) : pcd x = ck x a := by
  unfold pcd ck
  by_cases e : x = 2
  · subst e
    rfl
  · rw [if_neg (show ¬ x = 0 by omega), if_neg e, if_neg (show ¬ x = 0 by omega), if_neg (show ¬ x = 1 by omega)]
section BI
variable {X : gs_E} {d d' T S TR L : Nat} {by_ : Nat → Nat} {m0 r0 mx mr : gs_M} {A0 B0 : Nat → Nat → Int32} {c10 c2 E0 : Nat → Int32} {c v p q kn f mn r : Nat}
theorem j_bind (cx : gs_Cn X T S TR L by_ m0 r0) (hr : 1 ≤ r) (hr6 : r ≤ 6) : ∀ (ws hs : List Nat) (F F' n8 : Nat) (A B : Nat → Nat → Int32) (c1 E : Nat → Int32) (mx mr : gs_M), ws.length < F → ws.length < F' → gs_Sg S L m0 r0 A B c1 c2 E mx mr c v p q → gs_Ex A B c1 c2 E ws hs kn n8 f 0 mn → gs_Ef A B c1 E A0 B0 c10 E0 f →
    ∃ mx' mr' A' B' c1' E' hs' n8', gs_iter X (gs_exec X (d + 1)) gT_X5_settlePending F 0 [(0, .inr (.inr 1)), (1, .inl (Int32.ofNat r))] [] mx = gs_rU mx' ∧ gs_iter X (gs_exec X (d' + 1)) gT_X12_bind F' 0 [(0, .inr (.inr 116)), (1, .inl (Int32.ofNat r))] [] mr = gs_rU mr' ∧ gs_Sg S L m0 r0 A' B' c1' c2 E' mx' mr' c v p q ∧ gs_Ex A' B' c1' c2 E' (drR r ws) hs' kn n8' f 0 mn ∧ gs_Ef A' B' c1' E' A0 B0 c10 E0 f := by
  intro ws
  induction ws with
  | nil =>
    intro hs F F' n8 A B c1 E mx mr hF hF' st ex ef
    obtain ⟨F, rfl⟩ : ∃ y, F = y + 1 := ⟨F - 1, by omega⟩
    obtain ⟨F', rfl⟩ : ∃ y, F' = y + 1 := ⟨F' - 1, by omega⟩
    have sx := st_sx cx st
    have sr := st_sr cx st
    have e1 : mx.2.1 1 2 = Int32.ofNat 0 := (st.2.2.2.2.1 2).trans ex.1.1
    have e2 : mr.2.1 116 40 = Int32.ofNat 0 := (st.2.2.2.2.2.2.1 40 (by decide)).trans ex.1.2
    refine ⟨mx, mr, A, B, c1, E, hs, n8, ?_, ?_, st, ex, ef⟩
    · rw [eq_X5_settlePending_0, yf1 sx, e1, if_neg (by decide)]
    · rw [eq_X12_bind_0, fl_116 sr, e2, if_neg (by decide)]
  | cons x t ih =>
    intro hs F F' n8 A B c1 E mx mr hF hF' st ex ef
    obtain ⟨F, rfl⟩ : ∃ y, F = y + 1 := ⟨F - 1, by omega⟩
    obtain ⟨F', rfl⟩ : ∃ y, F' = y + 1 := ⟨F' - 1, by omega⟩
    have sx := st_sx cx st
    have sr := st_sr cx st
    have ex0 := ex
    obtain ⟨⟨w1, w2⟩, ⟨o1, o2, o3⟩, ⟨k1, k2, k3⟩, ⟨t1, t2, t3⟩, ⟨m1, m2, m3⟩, ⟨⟨p1, p2, p3, p4⟩, pt⟩, ⟨h1, h2, h3⟩, hk, ⟨a1, a2⟩, rk', hf, hw⟩ := ex
    have ol := opn_le (x :: t)
    have el : (x :: t).length = t.length + 1 := rfl
    rw [el] at w1 w2 hk ol hF hF'
    have e1 : mx.2.1 1 2 = Int32.ofNat (t.length + 1) := (st.2.2.2.2.1 2).trans w1
    have e2 : mr.2.1 116 40 = Int32.ofNat (t.length + 1) := (st.2.2.2.2.2.2.1 40 (by decide)).trans w2
    have e3 : mx.2.1 2 t.length = Int32.ofNat (pcd x) := (st.2.2.2.2.2.1 t.length).trans p1
    have e4 : mr.2.1 142 t.length = Int32.ofNat x := (st.2.2.2.1 23 t.length).trans p2
    have es : Int32.ofNat (t.length + 1) - (1 : Int32) = Int32.ofNat t.length := n_sb (a := 1) (by omega)
    have lz : (0 : Int32) < Int32.ofNat (t.length + 1) := (gs_nlt (a := 0) (by decide) (by omega)).mpr (by omega)
    have rb := rkn_b x p3
    have lr : Int32.ofNat (rkn x) < Int32.ofNat r ↔ rkn x < r := gs_nlt (by omega) (by omega)
    have ix2 : ∀ K : Nat → gs_O, gs_ix mx 2 13 (Int32.ofNat t.length) K = K t.length := fun K => gs_ixn (y_n sx) rfl (show t.length < 72 by omega)
    have ir2 : ∀ K : Nat → gs_O, gs_ix mr 142 13 (Int32.ofNat t.length) K = K t.length := fun K => gs_ixn sr.1 rfl (show t.length < 96 by omega)
    rw [eq_X5_settlePending_0, eq_X12_bind_0]
    simp only [yf1 sx, fl_116 sr, e1, e2, if_pos lz, y_10 sx, sh_116_38 sr, gs_nn_s, es, ix2, ir2, e3, e4, x_rank (X := X) p3 p4, r_rank (X := X) p3, gs_bI_s, lr]
    show ∃ mx' mr' A' B' c1' E' hs' n8', _ ∧ _ ∧ _ ∧ gs_Ex A' B' c1' c2 E' (if rkn x < r then x :: t else drR r t) hs' kn n8' f 0 mn ∧ _
    by_cases z : rkn x < r
    · rw [if_pos z, if_pos z, if_pos z]
      exact ⟨mx, mr, A, B, c1, E, hs, n8, rfl, rfl, st, ex0, ef⟩
    · rw [if_neg z, if_neg z, if_neg z]
      have x0 : x ≠ 0 := fun e => by
        subst e
        exact z (show 0 < r by omega)
      have ot := opn_n (t := t) x0
      rw [ot] at hk ol o1 o2 o3
      have n64 : n8 < 64 := by
        have := opn_le t
        omega
      have hlt := gs_wks_lt _ _ hw
      have sx5 : gs_Sg S L m0 r0 A B (upf c1 2 (Int32.ofNat t.length)) c2 (upf E 40 (Int32.ofNat t.length)) (gs_sI mx 1 2 (Int32.ofNat t.length)) (gs_sI mr 116 40 (Int32.ofNat t.length)) c v p q := st_we (st_w1 cx st) (by unfold rsVb upr; omega) (by omega)
      have r5 : (gs_sI mx 1 2 (Int32.ofNat t.length)).2.1 2 t.length = Int32.ofNat (pcd x) := (sx5.2.2.2.2.2.1 t.length).trans p1
      have r6 : (gs_sI mr 116 40 (Int32.ofNat t.length)).2.1 142 t.length = Int32.ofNat x := (sx5.2.2.2.1 23 t.length).trans p2
      have q2 : Int32.ofNat x = (2 : Int32) ↔ x = 2 := n_eq (b := 2) (by omega) (by decide)
      obtain ⟨mx6, ea, s6⟩ := st_radd (X := X) (d := d) (a := Int32.ofNat (pcd x)) (b := 0) cx sx5 a1 n64
      simp only [gs_fld_sI, gs_ix_sI, gs_sI22, yf1 sx, y_11 sx, yt0 sx, y0_4 sx, yt17 sx, y_10 sx, fl_116 sr, sh_116_38 sr, gs_nn_s, gs_sIe, ix2, ir2, r5, r6, ea, gs_bU_s]
      by_cases y : x = 2
      · subst y
        match hs, h1, h2, h3, hw, hlt with
        | [], _, _, h3, _, _ => exact absurd h3 (by simp [bns_n (show ¬ 3 ≤ 2 by decide)])
        | ha :: R, h1, h2, h3, hw, hlt =>
          have hb := bns_n (t := t) (show ¬ 3 ≤ 2 by decide)
          have hl : (ha :: R).length = R.length + 1 := rfl
          rw [hl, hb] at h3
          have han := hlt ha (List.mem_cons_self ..)
          have bl := opn_le t
          obtain ⟨mr7, eb, s7⟩ := st_drop (X := X) (d := d') (h := R.length) cx s6 ((upf_n (by decide)).trans h1) (by omega)
          obtain ⟨mr8, ec, s8⟩ := st_grown (X := X) (d := d') (a := Int32.ofNat 2) (b := Int32.ofNat ha) (e := (-1 : Int32)) (h := R.length) cx s7 a2 n64 (upf_e _ _ _) (by omega)
          have sr7 := st_sr cx s7
          rw [if_pos (q2.mpr rfl), eb, gs_bI_s, fl_116 sr7, h2.1, ec, gs_bU_s]
          have ne := nk_new (B := B) (n8 := n8) (h := R.length) (j := 2) (x := ha) (b := (-1 : Int32))
          have w := nk_wks (h := R.length) (j := 2) (x := ha) (b := (-1 : Int32)) hf hw
          have g1 : (Int32.ofNat 2).toInt.toNat = 2 := by decide
          have g2 : (Int32.ofNat ha).toInt.toNat = ha := f_nat rfl (by omega)
          have ww : wstep (kB (nkB B n8 R.length (Int32.ofNat 2) (Int32.ofNat ha) (-1))) (pB (nkB B n8 R.length (Int32.ofNat 2) (Int32.ofNat ha) (-1))) (oB (nkB B n8 R.length (Int32.ofNat 2) (Int32.ofNat ha) (-1))) n8 (ha :: R) = some (n8 :: R) := by
            unfold wstep kB pB
            rw [ne.1, ne.2.1, g1, g2, if_neg (by decide), if_pos rfl]
            exact if_pos rfl
          rw [ww] at w
          refine ih (n8 :: R) F F' (n8 + 1) _ _ _ _ mx6 mr8 (by omega) (by omega) s8 ⟨⟨upf_e _ _ _, rfl⟩, ⟨o1, o2, o3⟩, ⟨k1, k2, k3⟩, ⟨t1, t2, t3⟩, ⟨m1, m2, m3⟩, pt, ⟨upf_e _ _ _, ⟨?_, ?_⟩, by show R.length + 1 + 0 = _; omega⟩, by omega, ⟨up2_e _ _ _ _, up2_e _ _ _ _⟩, ?_, by omega, w⟩ ?_
          · unfold nkB
            rw [up2_n (Or.inl (by decide)), up2_e]
          · refine hR_c R (fun i hi => ?_) h2.2
            unfold nkB
            rw [up2_n (Or.inl (by decide)), up2_n (Or.inr (by omega))]
            rfl
          · rw [pcd_ck (a := ha) (by decide)]
            exact nk_rk (y := 0) rk' (by decide) (by omega) (fun h => absurd h (by decide)) (fun h => absurd h (by decide)) (fun h => absurd h (by decide))
          · exact nk_ef ⟨ef.1, ef.2.1, ef.2.2.1, ef.2.2.2.1, ef.2.2.2.2.1, ef.2.2.2.2.2⟩ hf _
      · have x3 : 3 ≤ x := by omega
        have hb := bns_p (t := t) x3
        match hs, h1, h2, h3, hw, hlt with
        | [], _, _, h3, _, _ => exact absurd h3 (by rw [hb]; simp)
        | [_], _, _, h3, _, _ => exact absurd h3 (by rw [hb]; simp)
        | hb' :: ha :: R, h1, h2, h3, hw, hlt =>
          have hl : (hb' :: ha :: R).length = R.length + 1 + 1 := rfl
          rw [hl, hb] at h3
          have han := hlt ha (List.mem_cons_of_mem _ (List.mem_cons_self ..))
          have hbn := hlt hb' (List.mem_cons_self ..)
          have bl := opn_le t
          obtain ⟨mr7, eb, s7⟩ := st_drop (X := X) (d := d') (h := R.length + 1) cx s6 ((upf_n (by decide)).trans h1) (by omega)
          obtain ⟨mr9, ed, s9⟩ := st_drop (X := X) (d := d') (h := R.length) cx s7 (upf_e _ _ _) (by omega)
          obtain ⟨mr8, ec, s8⟩ := st_grown (X := X) (d := d') (a := Int32.ofNat x) (b := Int32.ofNat ha) (e := Int32.ofNat hb') (h := R.length) cx s9 a2 n64 (upf_e _ _ _) (by omega)
          have sr7 := st_sr cx s7
          have sr9 := st_sr cx s9
          have hB1 : B 24 (R.length + 1) = Int32.ofNat hb' := h2.1
          have hB2 : B 24 R.length = Int32.ofNat ha := h2.2.1
          rw [if_neg (fun w => y (q2.mp w)), eb, gs_bI_s, fl_116 sr7, ed, gs_bI_s, fl_116 sr9, hB1, hB2, ec, gs_bU_s]
          have ne := nk_new (B := B) (n8 := n8) (h := R.length) (j := x) (x := ha) (b := Int32.ofNat hb')
          have w := nk_wks (h := R.length) (j := x) (x := ha) (b := Int32.ofNat hb') hf hw
          have g1 : (Int32.ofNat x).toInt.toNat = x := f_nat rfl (by omega)
          have g2 : (Int32.ofNat ha).toInt.toNat = ha := f_nat rfl (by omega)
          have g3 : (Int32.ofNat hb').toInt.toNat = hb' := f_nat rfl (by omega)
          have ww : wstep (kB (nkB B n8 R.length (Int32.ofNat x) (Int32.ofNat ha) (Int32.ofNat hb'))) (pB (nkB B n8 R.length (Int32.ofNat x) (Int32.ofNat ha) (Int32.ofNat hb'))) (oB (nkB B n8 R.length (Int32.ofNat x) (Int32.ofNat ha) (Int32.ofNat hb'))) n8 (hb' :: ha :: R) = some (n8 :: R) := by
            unfold wstep kB pB oB
            rw [ne.1, ne.2.1, ne.2.2, g1, g2, g3, if_neg (by omega), if_neg y]
            exact if_pos ⟨rfl, rfl⟩
          rw [ww] at w
          refine ih (n8 :: R) F F' (n8 + 1) _ _ _ _ mx6 mr8 (by omega) (by omega) s8 ⟨⟨upf_e _ _ _, rfl⟩, ⟨o1, o2, o3⟩, ⟨k1, k2, k3⟩, ⟨t1, t2, t3⟩, ⟨m1, m2, m3⟩, pt, ⟨upf_e _ _ _, ⟨?_, ?_⟩, by show R.length + 1 + 0 = _; omega⟩, by omega, ⟨up2_e _ _ _ _, up2_e _ _ _ _⟩, ?_, by omega, w⟩ ?_
          · unfold nkB
            rw [up2_n (Or.inl (by decide)), up2_e]
          · refine hR_c R (fun i hi => ?_) h2.2.2
            unfold nkB
            rw [up2_n (Or.inl (by decide)), up2_n (Or.inr (by omega))]
            rfl
          · rw [pcd_ck (a := ha) (by omega)]
            exact nk_rk (y := hb') rk' (by omega) (by omega) (fun h => ⟨rfl, by omega⟩) (fun h => by omega) (fun h => by omega)
          · exact nk_ef ⟨ef.1, ef.2.1, ef.2.2.1, ef.2.2.2.1, ef.2.2.2.2.1, ef.2.2.2.2.2⟩ hf _
/-- both bind -/
theorem j_bindx {ws hs : List Nat} {n8 : Nat} {A B : Nat → Nat → Int32} {c1 E : Nat → Int32} {a : Int32} (cx : gs_Cn X T S TR L by_ m0 r0) (hr : 1 ≤ r) (hr6 : r ≤ 6) (ea : a = Int32.ofNat r) (st : gs_Sg S L m0 r0 A B c1 c2 E mx mr c v p q) (ex : gs_Ex A B c1 c2 E ws hs kn n8 f 0 mn) (ef : gs_Ef A B c1 E A0 B0 c10 E0 f) :
    ∃ mx' mr' A' B' c1' E' hs' n8', gs_exec X (d + 2) 68 [.inr (.inr 1), .inl a] mx = gs_rU mx' ∧ gs_exec X (d' + 2) 216 [.inr (.inr 116), .inl a] mr = gs_rU mr' ∧ gs_Sg S L m0 r0 A' B' c1' c2 E' mx' mr' c v p q ∧ gs_Ex A' B' c1' c2 E' (drR r ws) hs' kn n8' f 0 mn ∧ gs_Ef A' B' c1' E' A0 B0 c10 E0 f := by
  have hX := cx.1
  have hl : ws.length ≤ 72 := by
    have h1 := ex.2.2.2.2.2.2.2.1
    have h2 := ex.2.1.2.2
    have h3 := ex.2.2.1.2.2
    omega
  have e1 := (eq_X5_settlePending X (d + 1) 1 a mx).trans (eq_X5_settlePending_0 X (d + 1) X.1 1 a mx).symm
  have e2 := (eq_X12_bind X (d' + 1) 116 a mr).trans (eq_X12_bind_0 X (d' + 1) X.1 116 a mr).symm
  rw [e1, e2, ea]
  exact j_bind cx hr hr6 ws hs (X.1 + 1) (X.1 + 1) n8 A B c1 E mx mr (by unfold gs_Fu at hX; omega) (by unfold gs_Fu at hX; omega) st ex ef
end BI
