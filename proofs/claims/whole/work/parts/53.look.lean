/-! from, share and look, asked. -/
section LOK
variable {X : gs_E} {d : Nat} {m : gs_M} {T n n0 n1 n2 n7 turn g k : Nat} {x y w : Int32}
theorem f_fr01 (f : Nat → Int32) (o : Int32) : ∀ q k : Nat, f_fr f o q k = 0 ∨ f_fr f o q k = 1
  | 0, _ => Or.inl rfl
  | q + 1, k => f_i01 (Or.inl rfl) (f_i01 (Or.inr rfl) (f_fr01 f o q _))
def f_from (m : gs_M) (n x y : Int32) : Int32 := if isIx x n then (if isIx y n then f_fr (m.2.1 131) y 8 x.toInt.toNat else -1) else -1
theorem x_from (hX : gs_Fu X) (h : gs_Sh m T) (hB : gs_RB m T n2) (h2 : n2 ≤ 8) (hn : m.2.1 (T + 9) 3 = Int32.ofNat n2) : gs_exec X (d + 2) 140 [.inr (.inr 0), .inl x, .inl y] m = gs_rI (f_from m (Int32.ofNat n2) x y) m := by
  unfold f_from
  rw [eq_X11_from, fl_0 h, x_isBook h, gs_bI_s, b2_if, hn]
  by_cases hc : isIx x (Int32.ofNat n2)
  · rw [if_pos hc, if_pos hc, fl_0 h, x_isBook h, gs_bI_s, b2_if, hn]
    by_cases hc2 : isIx y (Int32.ofNat n2)
    · rw [if_pos hc2, if_pos hc2]
      obtain ⟨k, hk, rfl, ek⟩ := i_gst hc (by omega)
      obtain ⟨o, ho, rfl, eo⟩ := i_gst hc2 (by omega)
      rw [ek, fl_0 h, sh_told h, gs_nn_s, fl_t0 h, x_isCopyOf hX h hB h2 (by omega) hk, gs_bI_s]
      exact f_01 (f_fr01 _ _ _ _) m
    · rw [if_neg hc2, if_neg hc2]
  · rw [if_neg hc, if_neg hc]
theorem i_btn (h2 : n2 ≤ 8) : isBt x 0 (Int32.ofNat n2 - 1) ↔ isIx x (Int32.ofNat n2) := by
  have e : (Int32.ofNat n2 - 1).toInt = (n2 : Int) - 1 := by
    rw [i_sub (by rw [gs_n32 (by omega)]; show -2147483648 ≤ (n2 : Int) - 1; omega) (by rw [gs_n32 (by omega)]; show (n2 : Int) - 1 < _; omega), gs_n32 (by omega)]
    rfl
  rw [i_bt, i_ix, e, gs_n32 (by omega)]
  show 0 ≤ _ ∧ _ ↔ _
  omega
theorem r_from (hX : gs_Fu X) (h : gs_Sh m T) (hB : ∀ k, k < n2 → isO (m.2.1 131 k) k) (h2 : n2 ≤ 8) (hn : m.2.1 119 2 = Int32.ofNat n2) : gs_exec X (d + 2) 283 [.inr (.inr 116), .inl x, .inl y] m = gs_rI (f_from m (Int32.ofNat n2) x y) (gs_sI m 116 2 0) := by
  have hs : gs_Sh (gs_sI m 116 2 0) T := h
  have i2 : ∀ K : Nat → gs_O, gs_ix (gs_sI m 116 2 0) 119 13 2 K = K 2 := fun K => gs_ixe hs.1 rfl rfl
  have e2 : (gs_sI m 116 2 0).2.1 119 2 = Int32.ofNat n2 := hn
  have hB2 : ∀ k, k < n2 → isO ((gs_sI m 116 2 0).2.1 131 k) k := hB
  unfold f_from
  rw [eq_X12_from, fl_116 h]
  show gs_fld (gs_sI m 116 2 0) 116 11 _ = _
  rw [fl_116 hs, sh_116_12 hs, gs_nn_s, i2, e2, r_isIn, gs_bI_s, b2_if]
  by_cases hc : isIx x (Int32.ofNat n2)
  · rw [if_pos hc, if_pos ((i_btn h2).mpr hc), fl_116 hs, sh_116_12 hs, gs_nn_s, i2, e2, r_isIn, gs_bI_s, b2_if]
    by_cases hc2 : isIx y (Int32.ofNat n2)
    · rw [if_pos hc2, if_pos ((i_btn h2).mpr hc2)]
      obtain ⟨k, hk, rfl, ek⟩ := i_gst hc (by omega)
      obtain ⟨o, ho, rfl, eo⟩ := i_gst hc2 (by omega)
      rw [ek, fl_116 hs, r_isFrom hX hs hB2 h2 (by omega) hk, gs_bI_s]
      exact f_01 (f_fr01 _ _ _ _) _
    · rw [if_neg hc2, if_neg (fun q => hc2 ((i_btn h2).mp q))]
  · rw [if_neg hc, if_neg (fun q => hc ((i_btn h2).mp q))]
def f_share (m : gs_M) (n7 : Nat) (y : Int32) : Int32 := if isIx y 2000 then f_sh (m.2.1 138) y n7 0 0 else -1
theorem x_share (hX : gs_Fu X) (h : gs_Sh m T) (hW : gs_RW m T n7) (h7 : n7 ≤ 6) (hn : m.2.1 (T + 21) 3 = Int32.ofNat n7) : gs_exec X (d + 2) 146 [.inr (.inr 0), .inl y] m = gs_rI (f_share m n7 y) m := by
  unfold f_share
  rw [eq_X11_share, x_isYear, gs_bI_s, b2_if, fl_0 h, sh_told h, gs_nn_s, fl_t0 h, sh_t0_5 h, gs_nn_s, fl_t21 h, x_shareOf hX h hW h7 hn, gs_bI_s, gs_if_rI]
theorem r_share (hX : gs_Fu X) (h : gs_Sh m T) (h7 : n7 ≤ 6) (hn : m.2.1 119 7 = Int32.ofNat n7) : gs_exec X (d + 3) 291 [.inr (.inr 116), .inl y] m = gs_rI (f_share m n7 y) (gs_sI m 116 2 0) := by
  have hs : gs_Sh (gs_sI m 116 2 0) T := h
  have e7 : (gs_sI m 116 2 0).2.1 119 7 = Int32.ofNat n7 := hn
  unfold f_share
  rw [eq_X12_share, fl_116 h]
  show gs_bI (gs_exec X (d + 2) 175 [.inl y, .inl 0, .inl 1999] (gs_sI m 116 2 0)) _ _ = _
  rw [r_isIn, gs_bI_s, b2_if, fl_116 hs, r_shareOf hX hs h7 e7, gs_bI_s, gs_if_rI]
  by_cases h1 : isIx y 2000
  · rw [if_pos h1, if_pos ((f_ixbt (n := 2000) (k := 1999) rfl).mpr h1)]; rfl
  · rw [if_neg h1, if_neg (fun q => h1 ((f_ixbt (n := 2000) (k := 1999) rfl).mp q))]
/-! look -/
def f_lookA (m : gs_M) (g : Nat) (w : Int32) : Int32 := if w = 0 then gd m g 1 else if w = 1 then gd m g 2 else if w = 2 then gd m g 3 else if w = 3 then gd m g 4 else if w = 4 then gd m g 5 else if w = 5 then gd m g 6 else if w = 6 then gd m g 7 else if w = 7 then gd m g 8 else if w = 8 then gd m g 9 else if w = 9 then gd m g 10 else if w = 10 then gd m g 11 else if w = 11 then gd m g 12 else gd m g 13
theorem f_look_d (hR : gs_RG m T n) (hg : g < n) : f_detail (m.2.1 (T + (27 + g))) w = f_lookA m g w := by
  have q := hR g hg
  have q1 : m.2.1 (T + (27 + g)) 1 = gd m g 1 := q (1, 1) (by decide)
  have q2 : m.2.1 (T + (27 + g)) 2 = gd m g 13 := q (2, 13) (by decide)
  have q3 : m.2.1 (T + (27 + g)) 3 = gd m g 2 := q (3, 2) (by decide)
  have q4 : m.2.1 (T + (27 + g)) 4 = gd m g 3 := q (4, 3) (by decide)
  have q5 : m.2.1 (T + (27 + g)) 5 = gd m g 4 := q (5, 4) (by decide)
  have q6 : m.2.1 (T + (27 + g)) 6 = gd m g 5 := q (6, 5) (by decide)
  have q7 : m.2.1 (T + (27 + g)) 7 = gd m g 6 := q (7, 6) (by decide)
  have q10 : m.2.1 (T + (27 + g)) 10 = gd m g 7 := q (10, 7) (by decide)
  have q11 : m.2.1 (T + (27 + g)) 11 = gd m g 8 := q (11, 8) (by decide)
  have q12 : m.2.1 (T + (27 + g)) 12 = gd m g 9 := q (12, 9) (by decide)
  have q13 : m.2.1 (T + (27 + g)) 13 = gd m g 10 := q (13, 10) (by decide)
  have q14 : m.2.1 (T + (27 + g)) 14 = gd m g 11 := q (14, 11) (by decide)
  have q15 : m.2.1 (T + (27 + g)) 15 = gd m g 12 := q (15, 12) (by decide)
  unfold f_detail f_lookA
  rw [q1, q2, q3, q4, q5, q6, q7, q10, q11, q12, q13, q14, q15]
/-- what look answers, or which exception -/
theorem x_look (hG : gs_Ga m T n n0 n1 n2 turn) : gs_exec X (d + 2) 121 [.inr (.inr 0), .inl x, .inl w] m = if isIx x (Int32.ofNat n) then (if isBt w 0 12 then gs_rI (f_lookA m x.toInt.toNat w) m else some (.inr 2, gs_gb m)) else some (.inr 1, gs_gb m) := by
  obtain ⟨h, hn3, -, hn, h0, h1, h2, ht, -, bt, hR, hRR, hV⟩ := hG
  rw [eq_X11_look, fl_0 h, x_isGuest h, gs_bI_s, b2_if, hn3]
  by_cases hc : isIx x (Int32.ofNat n)
  · obtain ⟨g, hg, rfl, eg⟩ := i_gst hc hn
    rw [if_pos hc, if_pos hc, eg]
    by_cases w1 : w < 0
    · rw [if_pos w1, if_neg (show ¬ isBt w 0 12 from fun q => q.1 w1)]
    · rw [if_neg w1]
      by_cases w2 : (12 : Int32) < w
      · rw [if_pos w2, if_neg (show ¬ isBt w 0 12 from fun q => q.2 w2)]
      · rw [if_neg w2, if_pos (show isBt w 0 12 from ⟨w1, w2⟩)]
        simp only [fl_0 h, sh_told h, gs_nn_s, fl_t0 h, sh_t0_6 h, x_gx h (show g < 12 by omega), sh_guest h (show g < 12 by omega), fl_tg h (show g < 12 by omega), x_detail h (show g < 12 by omega), gs_bI_s, f_look_d hR hg]
  · rw [if_neg hc, if_neg hc]
theorem l_look (hG : gs_Ga m T n n0 n1 n2 turn) : gs_exec X (d + 3) 318 [.inr (.inr 0), .inl x, .inl w, .inr (.inr 152)] m = if isIx x (Int32.ofNat n) then (if isBt w 0 12 then gs_rI 0 (gs_sJ m 152 0 (Int32.toInt64 (f_lookA m x.toInt.toNat w))) else gs_rI 2 (gs_gb m)) else gs_rI 1 (gs_gb m) := by
  have h := hG.1
  rw [eq_L_look, fl_0 h, x_look hG]
  by_cases hc : isIx x (Int32.ofNat n)
  · rw [if_pos hc, if_pos hc]
    by_cases hw : isBt w 0 12
    · rw [if_pos hw, if_pos hw, gs_bI_s, gs_ix152 h.1]
    · rw [if_neg hw, if_neg hw]
      rfl
  · rw [if_neg hc, if_neg hc]
    rfl
theorem r_fails (h : gs_Sh m T) : gs_exec X (d + 1) 235 [.inr (.inr 116), .inl x] m = gs_rI 0 (gs_sI m 116 2 x) := by rw [eq_X12_fails, fl_116 h]
theorem r_thrown (h : gs_Sh m T) : gs_exec X (d + 1) 173 [.inr (.inr 116)] m = gs_rI (m.2.1 116 2) m := by rw [eq_X12_thrown, fl_116 h]
theorem r_look (hG : gs_Ga m T n n0 n1 n2 turn) : gs_exec X (d + 2) 236 [.inr (.inr 116), .inl x, .inl w] m = if isIx x (Int32.ofNat n) then (if isBt w 0 12 then gs_rI (f_lookA m x.toInt.toNat w) (gs_sI m 116 2 0) else gs_rI 0 (gs_sI (gs_sI m 116 2 0) 116 2 2)) else gs_rI 0 (gs_sI (gs_sI m 116 2 0) 116 2 1) := by
  have hs := (gs_Ga_thr (x := 0) hG).1
  obtain ⟨-, -, e3, -⟩ := gs_Ga_thr (x := 0) hG
  obtain ⟨h, -, -, hn, -⟩ := hG
  rw [eq_X12_look, fl_116 h]
  show gs_fld (gs_sI m 116 2 0) 116 11 _ = _
  rw [fl_116 hs, r_isGuest hs, gs_bI_s, b2_if, e3]
  by_cases hc : isIx x (Int32.ofNat n)
  · obtain ⟨g, hg, rfl, eg⟩ := i_gst hc hn
    have hg12 : g < 12 := by omega
    rw [if_pos hc, if_pos hc, eg]
    simp only [fl_116 hs, sh_116_26 hs, gs_nn_s, r_gx hs hg12 (c := 1) (cl := 1) rfl (by decide), r_gx hs hg12 (c := 2) (cl := 2) rfl (by decide), r_gx hs hg12 (c := 3) (cl := 3) rfl (by decide), r_gx hs hg12 (c := 4) (cl := 4) rfl (by decide), r_gx hs hg12 (c := 5) (cl := 5) rfl (by decide), r_gx hs hg12 (c := 6) (cl := 6) rfl (by decide), r_gx hs hg12 (c := 7) (cl := 7) rfl (by decide), r_gx hs hg12 (c := 8) (cl := 8) rfl (by decide), r_gx hs hg12 (c := 9) (cl := 9) rfl (by decide), r_gx hs hg12 (c := 10) (cl := 10) rfl (by decide), r_gx hs hg12 (c := 11) (cl := 11) rfl (by decide), r_gx hs hg12 (c := 12) (cl := 12) rfl (by decide), r_gx hs hg12 (c := 13) (cl := 13) rfl (by decide), r_fails hs, gs_bI_s]
    by_cases hw : isBt w 0 12
    · have hb := i_bt.mp hw
      have e12 : (12 : Int32).toInt = 12 := rfl
      have e0 : (0 : Int32).toInt = 0 := rfl
      rw [if_pos hw]
      unfold f_lookA
      by_cases a0 : w = 0
      · rw [if_pos a0, if_pos a0]; rfl
      rw [if_neg a0, if_neg a0]
      by_cases a1 : w = 1
      · rw [if_pos a1, if_pos a1]; rfl
      rw [if_neg a1, if_neg a1]
      by_cases a2 : w = 2
      · rw [if_pos a2, if_pos a2]; rfl
      rw [if_neg a2, if_neg a2]
      by_cases a3 : w = 3
      · rw [if_pos a3, if_pos a3]; rfl
      rw [if_neg a3, if_neg a3]
      by_cases a4 : w = 4
      · rw [if_pos a4, if_pos a4]; rfl
      rw [if_neg a4, if_neg a4]
      by_cases a5 : w = 5
      · rw [if_pos a5, if_pos a5]; rfl
      rw [if_neg a5, if_neg a5]
      by_cases a6 : w = 6
      · rw [if_pos a6, if_pos a6]; rfl
      rw [if_neg a6, if_neg a6]
      by_cases a7 : w = 7
      · rw [if_pos a7, if_pos a7]; rfl
      rw [if_neg a7, if_neg a7]
      by_cases a8 : w = 8
      · rw [if_pos a8, if_pos a8]; rfl
      rw [if_neg a8, if_neg a8]
      by_cases a9 : w = 9
      · rw [if_pos a9, if_pos a9]; rfl
      rw [if_neg a9, if_neg a9]
      by_cases a10 : w = 10
      · rw [if_pos a10, if_pos a10]; rfl
      rw [if_neg a10, if_neg a10]
      by_cases a11 : w = 11
      · rw [if_pos a11, if_pos a11]; rfl
      rw [if_neg a11, if_neg a11]
      have a12 : w = 12 := by
        rw [i_eq] at *
        have k0 : (0 : Int32).toInt = 0 := rfl
        have k1 : (1 : Int32).toInt = 1 := rfl
        have k2 : (2 : Int32).toInt = 2 := rfl
        have k3 : (3 : Int32).toInt = 3 := rfl
        have k4 : (4 : Int32).toInt = 4 := rfl
        have k5 : (5 : Int32).toInt = 5 := rfl
        have k6 : (6 : Int32).toInt = 6 := rfl
        have k7 : (7 : Int32).toInt = 7 := rfl
        have k8 : (8 : Int32).toInt = 8 := rfl
        have k9 : (9 : Int32).toInt = 9 := rfl
        have k10 : (10 : Int32).toInt = 10 := rfl
        have k11 : (11 : Int32).toInt = 11 := rfl
        omega
      rw [if_pos a12]
      rfl
    · rw [if_neg hw]
      have nn : ∀ k : Nat, k ≤ 12 → ¬ w = Int32.ofNat k := fun k hk e => hw (by
        rw [e, i_bt, gs_n32 (by omega)]
        show (0 : Int) ≤ k ∧ (k : Int) ≤ 12
        omega)
      rw [if_neg (show ¬ w = 0 from nn 0 (by decide)), if_neg (show ¬ w = 1 from nn 1 (by decide)), if_neg (show ¬ w = 2 from nn 2 (by decide)), if_neg (show ¬ w = 3 from nn 3 (by decide)), if_neg (show ¬ w = 4 from nn 4 (by decide)), if_neg (show ¬ w = 5 from nn 5 (by decide)), if_neg (show ¬ w = 6 from nn 6 (by decide)), if_neg (show ¬ w = 7 from nn 7 (by decide)), if_neg (show ¬ w = 8 from nn 8 (by decide)), if_neg (show ¬ w = 9 from nn 9 (by decide)), if_neg (show ¬ w = 10 from nn 10 (by decide)), if_neg (show ¬ w = 11 from nn 11 (by decide)), if_neg (show ¬ w = 12 from nn 12 (by decide))]
  · rw [if_neg hc, if_neg hc, fl_116 hs, r_fails hs, gs_bI_s]
end LOK
