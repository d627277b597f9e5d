/-! worth, asked. -/
def n_wo (m : gs_M) (E : Nat → Int32) (n : Nat) (e : Int32) : Nat → Nat → Nat → Nat → Nat × Nat
  | 0, _, a, b => (a, b)
  | q + 1, k, a, b => if E k = e then (if f_copA m E n k = -1 then n_wo m E n e q (k + 1) (a * (10 - (gd m k 11).toInt.toNat)) (b * 10) else n_wo m E n e q (k + 1) a b) else n_wo m E n e q (k + 1) a b
theorem n_wo_s (m : gs_M) (E : Nat → Int32) (n : Nat) (e : Int32) (q k a b : Nat) : n_wo m E n e (q + 1) k a b = if E k = e then (if f_copA m E n k = -1 then n_wo m E n e q (k + 1) (a * (10 - (gd m k 11).toInt.toNat)) (b * 10) else n_wo m E n e q (k + 1) a b) else n_wo m E n e q (k + 1) a b := rfl
def f_wor (p : Nat × Nat) (w : Int32) : Int64 := f_least (p.2 - p.1) p.2 w
theorem n_wo_congr {m : gs_M} {E E' : Nat → Int32} {n : Nat} {e : Int32} (h : ∀ i, i < n → E i = E' i) : ∀ (q k a b : Nat), k + q = n → n_wo m E n e q k a b = n_wo m E' n e q k a b
  | 0, _, _, _, _ => rfl
  | q + 1, k, a, b, hk => by
    rw [n_wo_s, n_wo_s, h k (by omega), f_copA_congr (show k < n by omega) h, n_wo_congr h q (k + 1) a b (by omega), n_wo_congr h q (k + 1) _ _ (by omega)]
section WOR
variable {X : gs_E} {d : Nat} {m : gs_M} {T n n0 n1 n2 turn kn g : Nat} {D x w : Int32} {E : Nat → Int32}
theorem p10 : ∀ k, k ≤ 12 → 10 ^ k ≤ 1000000000000 := by decide
theorem x_wor_loop {e : Int32} (hX : gs_Fu X) (hG : gs_Ga m T n n0 n1 n2 turn) (hB : gs_RB m T n2) (hE : ∀ k, k < n → m.2.1 17 k = E k) : ∀ (q k F a b : Nat), k + q = n → q < F → a ≤ b → 0 < a → b ≤ 10 ^ k →
    gs_iter X (gs_exec X (d + 3)) gT_X1_worthOf F 9 [(0, .inr (.inr 16)), (1, .inr (.inr T)), (2, .inl e), (3, .inl w), (4, .inr (.inl (Int64.ofNat a))), (6, .inr (.inl (Int64.ofNat b))), (8, .inl (Int32.ofNat k))] [] m = gs_rJ (f_wor (n_wo m E n e q k a b) w) m := by
  have hG2 := hG
  obtain ⟨h, hn3, -, hn, h0, h1, h2, ht, -, bt, hR, hRR, hV⟩ := hG
  intro q
  induction q with
  | zero =>
    intro k F a b hk hF hab ha hb
    obtain ⟨F, rfl⟩ : ∃ z, F = z + 1 := ⟨F - 1, by omega⟩
    have := p10 k (by omega)
    rw [eq_X1_worthOf_9, fl_t0 h, hn3, if_neg (fun z => by have := (gs_nlt (by omega) (by omega)).mp z; omega), j_sub hab, x_least hX (by omega) (by omega), gs_bJ_s]
    rfl
  | succ q ih =>
    intro k F a b hk hF hab ha hb
    obtain ⟨F, rfl⟩ : ∃ z, F = z + 1 := ⟨F - 1, by omega⟩
    have hkn : k < n := by omega
    have e10 : 10 ^ (k + 1) = 10 ^ k * 10 := Nat.pow_succ 10 k
    have r14 : m.2.1 (T + (27 + k)) 14 = gd m k 11 := hR k hkn (14, 11) (by decide)
    obtain ⟨-, -, -, -, -, -, -, -, -, -, -, -, ⟨ww, w1, w9, ew⟩, -⟩ := hV k hkn
    have i1 := ih (k + 1) F a b (by omega) (by omega) hab ha (by omega)
    have hm1 : a * (10 - ww) ≤ b * 10 := Nat.mul_le_mul hab (by omega)
    have hm2 : 0 < a * (10 - ww) := Nat.mul_pos ha (by omega)
    have i2 := ih (k + 1) F (a * (10 - ww)) (b * 10) (by omega) (by omega) hm1 hm2 (by omega)
    rw [eq_X1_worthOf_9, fl_t0 h, hn3, if_pos ((gs_nlt (by omega) (by omega)).mpr (by omega)), fl_16 h, sh_16_0 h, gs_nn_s, x_i17 h (by omega), hE k hkn, gs_ns, i1, n_wo_s]
    by_cases eE : E k = e
    · rw [if_pos eE, if_pos eE, fl_16 h, x_sourceOf (d := d) hX hG2 hB hkn hE, gs_bI_s]
      by_cases c : f_copA m E n k = -1
      · have es : (10 : Int32) - Int32.ofNat ww = Int32.ofNat (10 - ww) := n_sub (a := 10) (by omega)
        have em : Int64.ofNat b * (10 : Int64) = Int64.ofNat (b * 10) := j_mul b 10
        rw [if_pos c, if_pos c, fl_t0 h, sh_t0_6 h, gs_nn_s, x_gx h (by omega), sh_guest h (by omega), gs_nn_s, fl_tg h (by omega), r14, ew, es, l_32 (by omega), j_mul, em, i2, f_nat rfl (show ww < 2147483648 by omega)]
      · rw [if_neg c, if_neg c, i1]
    · rw [if_neg eE, if_neg eE]
theorem r_wor_loop (hX : gs_Fu X) (hG : gs_Ga m T n n0 n1 n2 turn) (hB : ∀ k, k < n2 → isO (m.2.1 131 k) k) (hE : ∀ k, k < n → m.2.1 151 k = E k) (hEn : ∀ k, k < n → (E k < 0 ↔ E k = -1)) (hg : g < n) : ∀ (q k F a b : Nat), k + q = n → q < F → a ≤ b → 0 < a → b ≤ 10 ^ k →
    gs_iter X (gs_exec X (d + 2)) gT_X12_worth F 51 [(0, .inr (.inr 116)), (1, .inl (Int32.ofNat g)), (2, .inl w), (3, .inr (.inl (Int64.ofNat b))), (5, .inr (.inl (Int64.ofNat a))), (7, .inl (Int32.ofNat k))] [] m = gs_rJ (f_wor (n_wo m E n (E g) q k a b) w) m := by
  have hG2 := hG
  obtain ⟨h, -, hn3, hn, h0, h1, h2, -, ht, bt, hR, hRR, hV⟩ := hG
  have i3 : ∀ K : Nat → gs_O, gs_ix m 119 13 3 K = K 3 := fun K => gs_ixe h.1 rfl rfl
  intro q
  induction q with
  | zero =>
    intro k F a b hk hF hab ha hb
    obtain ⟨F, rfl⟩ : ∃ z, F = z + 1 := ⟨F - 1, by omega⟩
    have := p10 k (by omega)
    rw [eq_X12_worth_51, fl_116 h, sh_116_12 h, gs_nn_s, i3, hn3, if_neg (fun z => by have := (gs_nlt (by omega) (by omega)).mp z; omega), j_sub hab, r_least hX (by omega) (by omega), gs_bJ_s]
    rfl
  | succ q ih =>
    intro k F a b hk hF hab ha hb
    obtain ⟨F, rfl⟩ : ∃ z, F = z + 1 := ⟨F - 1, by omega⟩
    have hkn : k < n := by omega
    have e10 : 10 ^ (k + 1) = 10 ^ k * 10 := Nat.pow_succ 10 k
    obtain ⟨-, -, -, -, -, -, -, -, -, -, -, -, ⟨ww, w1, w9, ew⟩, -⟩ := hV k hkn
    have ew2 : m.2.1 132 (16 * k + 11) = Int32.ofNat ww := ew
    have i1 := ih (k + 1) F a b (by omega) (by omega) hab ha (by omega)
    have hm1 : a * (10 - ww) ≤ b * 10 := Nat.mul_le_mul hab (by omega)
    have hm2 : 0 < a * (10 - ww) := Nat.mul_pos ha (by omega)
    have i2 := ih (k + 1) F (a * (10 - ww)) (b * 10) (by omega) (by omega) hm1 hm2 (by omega)
    rw [eq_X12_worth_51, fl_116 h, sh_116_12 h, gs_nn_s, i3, hn3, if_pos ((gs_nlt (by omega) (by omega)).mpr (by omega)), fl_116 h, sh_116_58 h, gs_nn_s, r_i151 h (by omega), fl_116 h, gs_nn_s, r_i151 h (by omega), hE k hkn, hE g hg, gs_ns, i1, n_wo_s]
    by_cases eE : E k = E g
    · rw [if_pos eE, if_pos eE, fl_116 h, r_copiedOf (d := d) hX hG2 hB hkn hE (hEn k hkn), gs_bI_s]
      by_cases c : f_copA m E n k = -1
      · have es : (10 : Int64) - Int64.ofNat ww = Int64.ofNat (10 - ww) := j_sub (a := 10) (by omega)
        have em : Int64.ofNat b * (10 : Int64) = Int64.ofNat (b * 10) := j_mul b 10
        rw [if_pos (show f_copA m E n k < 0 by rw [c]; decide), if_pos c, fl_116 h, sh_116_26 h, gs_nn_s, r_gx h (show k < 12 by omega) (c := 11) (cl := 11) rfl (by decide), ew2, l_32 (by omega), es, j_mul, em, i2, ew, f_nat rfl (show ww < 2147483648 by omega)]
      · rw [if_neg c, if_neg (fun z => by
          rcases f_copA_in (m := m) (E := E) (g := k) (n := n) with c1 | ⟨j, hj, ej⟩
          · exact c c1
          · rw [ej] at z
            exact gs_nneg (by omega) z), i1]
    · rw [if_neg eE, if_neg eE]
def f_worth (m : gs_M) (n : Nat) (E : Nat → Int32) (x w : Int32) : Int64 := if isIx x (Int32.ofNat n) then (if w = 0 ∨ w = 1 then (if E x.toInt.toNat = -1 then -1 else f_wor (n_wo m E n (E x.toInt.toNat) n 0 1 1) w) else -1) else -1
theorem f_worth_congr {E E' : Nat → Int32} (hn : n ≤ 12) (h : ∀ g, g < n → E g = E' g) : f_worth m n E x w = f_worth m n E' x w := by
  unfold f_worth
  by_cases hc : isIx x (Int32.ofNat n)
  · obtain ⟨g, hg, -, eg⟩ := i_gst hc hn
    rw [if_pos hc, if_pos hc, eg, h g hg, n_wo_congr h n 0 1 1 (by omega)]
  · rw [if_neg hc, if_neg hc]
theorem f_copied_congr {E E' : Nat → Int32} (hn : n ≤ 12) (h : ∀ g, g < n → E g = E' g) : f_copied m n E x = f_copied m n E' x := by
  unfold f_copied
  by_cases hc : isIx x (Int32.ofNat n)
  · obtain ⟨g, hg, -, eg⟩ := i_gst hc hn
    rw [if_pos hc, if_pos hc, eg, f_copA_congr hg h]
  · rw [if_neg hc, if_neg hc]
theorem wd_wo {M : gs_M} {e : Int32} (hW : gs_Wd m M) : ∀ q k a b, n_wo M E n e q k a b = n_wo m E n e q k a b := by
  intro q
  induction q with
  | zero => intro k a b; rfl
  | succ q ih =>
    intro k a b
    rw [n_wo_s, n_wo_s, ih, ih, wd_copA hW, wd_gd hW]
theorem wd_worth {M : gs_M} (hW : gs_Wd m M) : f_worth M n E x w = f_worth m n E x w := by
  unfold f_worth
  rw [wd_wo hW]
theorem wd_copied {M : gs_M} (hW : gs_Wd m M) : f_copied M n E x = f_copied m n E x := by
  unfold f_copied
  rw [wd_copA hW]
theorem x_worth (hX : gs_Fu X) (hG : gs_Ga m T n n0 n1 n2 turn) (hP : gs_RP m T n n1) (hB : gs_RB m T n2) (hK : gs_Kn m n kn D) (hC : gs_CE m n turn kn D) : ∃ M r, gs_exec X (d + 7) 141 [.inr (.inr 0), .inl x, .inl w] m = gs_rJ (f_worth m n (evI kn D r) x w) M ∧ gs_Wx rsE m M ∧ gs_CE M n turn kn D ∧ gs_Evs (oneP m turn) (trd kn D) n r := by
  have h := hG.1
  have hn3 := hG.2.1
  have hn := hG.2.2.2.1
  unfold f_worth
  rw [eq_X11_worth, fl_0 h, x_isGuest h, gs_bI_s, b2_if, hn3]
  by_cases hc : isIx x (Int32.ofNat n)
  · rw [if_pos hc, x_isPart, gs_bI_s, b2_if]
    by_cases hp : w = 0 ∨ w = 1
    · obtain ⟨g, hg, rfl, eg⟩ := i_gst hc hn
      obtain ⟨M, r, e, hW, h8, hE⟩ := x_reckonEvents (X := X) (d := d) hX hG hP hK hC
      have hM := wd_sh h (wd_e hW)
      refine ⟨M, r, ?_, hW, fun _ => ⟨r, hE⟩, by rw [← oneP_wd (wd_e hW)]; exact hE.1⟩
      rw [if_pos hp, if_pos hc, if_pos hp, fl_0 h, e, gs_bU_s, fl_0 hM, sh_0_2 hM, gs_nn_s, fl_16 hM, sh_16_0 hM, gs_nn_s, x_i17 hM (by omega), hE.2 g (by omega), eg]
      by_cases c : evI kn D r g = -1
      · rw [if_pos c, if_pos c]
      · rw [if_neg c, if_neg c, fl_0 hM, gs_nn_s, fl_0 hM, sh_told hM, gs_nn_s, fl_0 hM, gs_nn_s, fl_16 hM, sh_16_0 hM, gs_nn_s, x_i17 hM (by omega), hE.2 g (by omega), fl_16 hM, eq_X1_worthOf]
        have key := x_wor_loop (X := X) (d := d + 2) (E := evI kn D r) (e := evI kn D r g) (w := w) hX (wd_ga hG (wd_e hW)) (wd_rb h hB (wd_e hW)) (fun k hk => hE.2 k (by omega)) n 0 X.1 1 1 (by omega) (by unfold gs_Fu at hX; omega) (Nat.le_refl _) (by decide) (by decide)
        have key2 : gs_iter X (gs_exec X (d + 5)) gT_X1_worthOf X.1 9 [(0, .inr (.inr 16)), (1, .inr (.inr T)), (2, .inl (evI kn D r g)), (3, .inl w), (4, .inr (.inl 1)), (6, .inr (.inl 1)), (8, .inl 0)] [] M = _ := key
        rw [key2, gs_bJ_s, wd_wo (wd_e hW)]
    · obtain ⟨r, hr⟩ := ev_ex hX hG hK
      refine ⟨m, r, ?_, wx_refl m, hC, hr⟩
      rw [if_neg hp, if_pos hc, if_neg hp]
  · obtain ⟨r, hr⟩ := ev_ex hX hG hK
    refine ⟨m, r, ?_, wx_refl m, hC, hr⟩
    rw [if_neg hc, if_neg hc]
theorem r_worth (hX : gs_Fu X) (hG : gs_Ga m T n n0 n1 n2 turn) (hB : gs_RB m T n2) (hK : gs_Kn m n kn D) : ∃ M r, gs_exec X (d + 6) 286 [.inr (.inr 116), .inl x, .inl w] m = gs_rJ (f_worth m n (evI kn D r) x w) M ∧ gs_Wr m M ∧ gs_Evs (oneP m turn) (trd kn D) n r := by
  have hW0 := wr_thr (m := m) (x := 0)
  have hG2 := wr_ga hG hW0
  have hK2 := wd_kn hK (wd_r hW0)
  obtain ⟨hs, -, e3, hn, -⟩ := id hG2
  have h := hG.1
  obtain ⟨M, r, e, hW, hc2, hE⟩ := r_layEvents (X := X) (d := d) hX hG2 hK2
  rw [oneP_wd (wd_r hW0)] at hE
  have hM := wr_sh hs hW
  have hWM := wd_r (wr_trans hW0 hW)
  have hBM := wd_rb h hB hWM
  unfold f_worth
  rw [eq_X12_worth, fl_116 h]
  show ∃ M r, gs_fld (gs_sI m 116 2 0) 116 11 _ = _ ∧ _
  rw [fl_116 hs, r_isGuest hs, gs_bI_s, b2_if, e3]
  by_cases hc : isIx x (Int32.ofNat n)
  · rw [if_pos hc, r_isIn, gs_bI_s, b2_if]
    by_cases hp : w = 0 ∨ w = 1
    · obtain ⟨g, hg, rfl, eg⟩ := i_gst hc hn
      refine ⟨M, r, ?_, wr_trans hW0 hW, hE⟩
      have hEn : ∀ k, k < n → (evI kn D r k < 0 ↔ evI kn D r k = -1) := fun k _ => evI_lt (m := m) (turn := turn) hn hK.2.1 hE.1
      rw [if_pos (i_part.mpr hp), if_pos hc, if_pos hp, fl_116 hs, e, gs_bU_s, fl_116 hM, sh_116_58 hM, gs_nn_s, r_i151 hM (by omega), hc2 g hg, eg]
      by_cases c : evI kn D r g = -1
      · rw [if_pos ((hEn g hg).mpr c), if_pos c]
      · rw [if_neg (fun z => c ((hEn g hg).mp z)), if_neg c]
        have key := r_wor_loop (X := X) (d := d + 3) (E := evI kn D r) (w := w) hX (wr_ga hG2 hW) (fun k hk => (hBM k hk).2.2) hc2 hEn hg n 0 X.1 1 1 (by omega) (by unfold gs_Fu at hX; omega) (Nat.le_refl _) (by decide) (by decide)
        rw [wd_wo hWM] at key
        exact key
    · refine ⟨_, r, ?_, hW0, hE⟩
      rw [if_neg (fun z => hp (i_part.mp z)), if_pos hc, if_neg hp]
  · refine ⟨_, r, ?_, hW0, hE⟩
    rw [if_neg hc, if_neg hc]
end WOR
