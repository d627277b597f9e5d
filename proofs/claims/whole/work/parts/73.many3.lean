/-! many, asked: both classes. -/
section MN3
variable {X : gs_E} {d : Nat} {m M : gs_M} {T n n0 n1 n2 n6 n7 n8 turn kn g : Nat} {D x w s a b e : Int32} {E : Nat → Int32}
theorem ec_wr {r : Nat → Nat} (hE : gs_EC m n turn kn D r) (hW : gs_Wr m M) : gs_EC M n turn kn D r := by
  refine ⟨by rw [oneP_wd (wd_r hW)]; exact hE.1, fun g hg => ?_⟩
  rw [hW.2.2 17 g (fun q => by unfold gs_rs at q; omega)]
  exact hE.2 g hg
theorem ce_wr (hC : gs_CE m n turn kn D) (hW : gs_Wr m M) : gs_CE M n turn kn D := by
  intro hz
  rw [hW.2.2 0 8 (fun q => by unfold gs_rs at q; omega)] at hz
  obtain ⟨r, hr⟩ := hC hz
  exact ⟨r, ec_wr hr hW⟩
theorem wr_hs (hW : gs_Wr m M) : ∀ q k, f_hs M n6 n7 E s a b e q k = f_hs m n6 n7 E s a b e q k := by
  intro q
  induction q with
  | zero => intro k; rfl
  | succ q ih =>
    intro k
    rw [f_hs_s, f_hs_s, ih]
    unfold hsP
    rw [wr_gd hW, wr_gd hW, wr_cell hW 138 (by decide) (by decide), wr_so_f hW]
theorem wr_fd (hW : gs_Wr m M) : ∀ q k v, n_fd M n n6 n7 E s a b q k v = n_fd m n n6 n7 E s a b q k v := by
  intro q
  induction q with
  | zero => intro k v; rfl
  | succ q ih =>
    intro k v
    rw [n_fd_s, n_fd_s, ih, ih, wr_hs hW]
theorem wr_ss (hW : gs_Wr m M) : ∀ q k v, n_ss M n7 q k v = n_ss m n7 q k v := by
  intro q
  induction q with
  | zero => intro k v; rfl
  | succ q ih =>
    intro k v
    show n_ss M n7 q (k + 1) (v + nShr M n7 k) = n_ss m n7 q (k + 1) (v + nShr m n7 k)
    rw [ih]
    unfold nShr
    rw [wr_cell hW 138 (by decide) (by decide)]
theorem wr_many (hW : gs_Wr m M) : f_many M n n6 n7 E s a b w = f_many m n n6 n7 E s a b w := by
  unfold f_many f_manyA
  rw [wr_fd hW, wr_ss hW]
theorem f_many_congr {E' : Nat → Int32} (h : ∀ g, g < n → E g = E' g) : f_many m n n6 n7 E s a b w = f_many m n n6 n7 E' s a b w := by
  unfold f_many f_manyA
  rw [n_fd_congr h n 0 0 (by omega)]
theorem r_ss_loop {A B C : Nat} (hX : gs_Fu X) (h : gs_Sh m T) (hWV : gs_WV m n7) (h7 : n7 ≤ 6) (e7 : m.2.1 119 7 = Int32.ofNat n7) (hAB : A ≤ B) (hB : B < 2000) (hC : C ≤ 12) : ∀ (q k F acc : Nat), k + q = B + 1 → q < F → acc ≤ 10 * k →
    gs_iter X (gs_exec X (d + 2)) gT_X12_many F 223 [(0, .inr (.inr 116)), (2, .inl (Int32.ofNat A)), (3, .inl (Int32.ofNat B)), (4, .inl w), (5, .inr (.inl (Int64.ofNat C))), (7, .inr (.inl (Int64.ofNat acc))), (9, .inl (Int32.ofNat k))] [] m = gs_rJ (f_least (C * 10 * (B - A + 1)) (n_ss m n7 q k acc) w) m := by
  intro q
  induction q with
  | zero =>
    intro k F acc hk hF ha
    obtain ⟨F, rfl⟩ : ∃ z, F = z + 1 := ⟨F - 1, by omega⟩
    have hb : C * 10 * (B - A + 1) ≤ 12 * 10 * 2000 := Nat.mul_le_mul (Nat.mul_le_mul hC (Nat.le_refl _)) (by omega)
    have e10 : Int64.ofNat C * (10 : Int64) = Int64.ofNat (C * 10) := j_mul C 10
    rw [eq_X12_many_223, if_pos ((gs_nlt (by omega) (by omega)).mpr (by omega)), n_sub hAB, gs_ns, l_32 (by omega), e10, j_mul, r_least (d := d) hX (by omega) (by omega), gs_bJ_s]
    rfl
  | succ q ih =>
    intro k F acc hk hF ha
    obtain ⟨F, rfl⟩ : ∃ z, F = z + 1 := ⟨F - 1, by omega⟩
    obtain ⟨e1, b1⟩ := nShr_n hWV k
    rw [eq_X12_many_223, if_neg (fun z => by have := (gs_nlt (by omega) (by omega)).mp z; omega), fl_116 h, r_shareOf (d := d) hX h h7 e7, gs_bI_s, e1, l_32 (by omega), j_add, gs_ns, ih (k + 1) F _ (by omega) (by omega) (by omega)]
    rfl
theorem r_fd_loop (hX : gs_Fu X) (hO : gs_So m T n n0 n1 n2 turn n6 n8) (h7 : n7 ≤ 6) (e7 : m.2.1 119 7 = Int32.ofNat n7) (hE : ∀ k, k < n → m.2.1 151 k = E k) (hs : s = -1 ∨ isIx s (Int32.ofNat n6)) : ∀ (q k F v : Nat) (M : gs_M), gs_Wr m M → (∀ k, k < n → M.2.1 151 k = E k) → k + q = n → 14 * q + 1 ≤ F →
    ∃ F' M', F ≤ F' + 14 * q + 1 ∧ gs_iter X (gs_exec X (d + 5)) gT_X12_many F 67 [(0, .inr (.inr 116)), (1, .inl s), (2, .inl a), (3, .inl b), (4, .inl w), (5, .inr (.inl (Int64.ofNat v))), (7, .inl (Int32.ofNat k))] [] M = gs_iter X (gs_exec X (d + 5)) gT_X12_many F' 223 [(0, .inr (.inr 116)), (2, .inl a), (3, .inl b), (4, .inl w), (5, .inr (.inl (Int64.ofNat (n_fd m n n6 n7 E s a b q k v)))), (7, .inr (.inl (Int64.ofNat 0))), (9, .inl a)] [] M' ∧ gs_Wr m M' := by
  obtain ⟨h, -, -, hn, h0, -⟩ := id hO.1
  have i3 : ∀ (M : gs_M), gs_Sh M T → ∀ K : Nat → gs_O, gs_ix M 119 13 3 K = K 3 := fun M hM K => gs_ixe hM.1 rfl rfl
  intro q
  induction q with
  | zero =>
    intro k F v M hW hEM hk hF
    obtain ⟨F, rfl⟩ : ∃ z, F = z + 1 := ⟨F - 1, by omega⟩
    have hM := wr_sh h hW
    have e3M := (wr_ga hO.1 hW).2.2.1
    refine ⟨F, M, by omega, ?_, hW⟩
    rw [eq_X12_many_67, fl_116 hM, sh_116_12 hM, gs_nn_s, i3 M hM, e3M, if_neg (fun z => by have := (gs_nlt (by omega) (by omega)).mp z; omega)]
    rfl
  | succ q ih =>
    intro k F v M hW hEM hk hF
    have hkn : k < n := by omega
    have hM := wr_sh h hW
    have e3M := (wr_ga hO.1 hW).2.2.1
    rw [n_fd_s]
    by_cases c : E k = Int32.ofNat k
    · obtain ⟨F, rfl⟩ : ∃ z, F = z + n + 1 + 1 := ⟨F - (n + 2), by omega⟩
      obtain ⟨M1, e1, hW1, hEM1⟩ := r_hs_loop (X := X) (d := d) (a := a) (b := b) (w := w) (v := v) hX hO h7 e7 hE hs hkn c n 0 F 0 M hW hEM (by omega) (Or.inl rfl)
      obtain ⟨F', M2, hF', e2, hW2⟩ := ih (k + 1) F (v + n_res m n6 n7 E s a b (Int32.ofNat k) 0 n 0) M1 hW1 hEM1 (by omega) (by omega)
      refine ⟨F', M2, by omega, ?_, hW2⟩
      rw [eq_X12_many_67, fl_116 hM, sh_116_12 hM, gs_nn_s, i3 M hM, e3M, if_pos ((gs_nlt (by omega) (by omega)).mpr (by omega))]
      refine e1.trans (e2.trans ?_)
      unfold n_res
      rw [if_neg (show ¬ 0 = 1 by decide)]
      by_cases c2 : f_hs m n6 n7 E s a b (Int32.ofNat k) n 0 = 1
      · rw [if_pos c2, if_pos ⟨c, c2⟩]
      · rw [if_neg c2, if_neg (fun z => c2 z.2)]
        rfl
    · obtain ⟨F, rfl⟩ : ∃ z, F = z + 1 + 1 := ⟨F - 2, by omega⟩
      obtain ⟨F', M2, hF', e2, hW2⟩ := ih (k + 1) F v M hW hEM (by omega) (by omega)
      refine ⟨F', M2, by omega, ?_, hW2⟩
      rw [eq_X12_many_67, fl_116 hM, sh_116_12 hM, gs_nn_s, i3 M hM, e3M, if_pos ((gs_nlt (by omega) (by omega)).mpr (by omega)), eq_X12_many_84, fl_116 hM, sh_116_12 hM, gs_nn_s, i3 M hM, e3M, if_pos (by show Int32.ofNat 0 < _; rw [gs_nlt (by omega) (by omega)]; omega), fl_116 hM, sh_116_58 hM, gs_nn_s, r_i151 hM (by omega), hEM k hkn, if_neg c, if_pos rfl, gs_ns, show Int64.ofNat v + (0 : Int64) = Int64.ofNat (v + 0) from j_add v 0, if_neg (fun z => c z.1)]
      exact e2
theorem i_years {a b : Int32} (ha : isIx a 2000) (hb : isIx b 2000) (hab : ¬ b < a) : ∃ A B : Nat, A ≤ B ∧ B < 2000 ∧ a = Int32.ofNat A ∧ b = Int32.ofNat B ∧ a.toInt.toNat = A ∧ b.toInt.toNat = B := by
  have h1 := i_ix.mp ha
  have h2 := i_ix.mp hb
  have h3 : ¬ b.toInt < a.toInt := fun q => hab (i_lt.mpr q)
  have e : (2000 : Int32).toInt = 2000 := rfl
  exact ⟨_, _, by omega, by omega, i_nat ha, i_nat hb, rfl, rfl⟩
theorem x_manyT (hX : gs_Fu X) (hO : gs_So m T n n0 n1 n2 turn n6 n8) (hP : gs_RP m T n n1) (hRW : gs_RW m T n7) (hWV : gs_WV m n7) (h7 : n7 ≤ 6) (e7 : m.2.1 (T + 21) 3 = Int32.ofNat n7) (hK : gs_Kn m n kn D) (hC : gs_CE m n turn kn D) (ha : isIx a 2000) (hb : isIx b 2000) (hab : ¬ b < a) :
    ∃ M r, gs_fld m 0 10 (gs_bU (gs_exec X (d + 7) 169 [.inr (.inr 0)] m) gs_th (fun m7 => gs_iter X (gs_exec X (d + 7)) gT_X11_many X.1 54 [(0, .inr (.inr 0)), (1, .inl s), (2, .inl a), (3, .inl b), (4, .inl w), (5, .inr (.inl (0 : Int64))), (7, .inl a)] [] m7)) = gs_rJ (f_manyA M n n6 n7 (evI kn D r) s a b w) M ∧ gs_Wx rsE m M ∧ gs_CE M n turn kn D ∧ gs_Evs (oneP M turn) (trd kn D) n r := by
  obtain ⟨A, B, hAB, hB, rfl, rfl, eA, eB⟩ := i_years ha hb hab
  have h := hO.1.1
  have hn := hO.1.2.2.2.1
  obtain ⟨M, r, e, hW, h8, hE⟩ := x_reckonEvents (X := X) (d := d + 1) hX hO.1 hP hK hC
  have hWd := wd_e hW
  have hM := wd_sh h hWd
  have hOM := wd_so hO hWd
  have hRWM := wd_rw h hRW hWd
  have hWVM := wd_wv hWV hWd
  have e7M : M.2.1 (T + 21) 3 = Int32.ofNat n7 := by rw [wd_t h hWd 21 (by decide)]; exact e7
  obtain ⟨F, hF⟩ : ∃ z, X.1 = z + (B + 1 - A) + 1 := ⟨X.1 - (B + 1 - A + 1), by unfold gs_Fu at hX; omega⟩
  have l1 := x_ss_loop (X := X) (d := d + 6) (s := s) (w := w) (A := A) hX hM hRWM hWVM h7 e7M hB (B + 1 - A) A F 0 (by omega)
  have hS := n_ss_le hWVM (B + 1 - A) A 0
  obtain ⟨M2, l2, hW2⟩ := x_fd_loop (X := X) (d := d) (s := s) (w := w) (E := evI kn D r) hX hOM hRWM h7 e7M (fun k hk => hE.2 k (by omega)) hAB hB (show n_ss M n7 (B + 1 - A) A 0 < 1000000 by omega) n 0 F 0 M (wr_refl M) (by omega) (by unfold gs_Fu at hX; omega) (Nat.le_refl _)
  refine ⟨M2, r, ?_, wx_trans hW (wx_r hW2 (fun _ _ q => Or.inl q)), fun _ => ⟨r, ec_wr hE hW2⟩, (ec_wr hE hW2).1⟩
  rw [fl_0 h, e, gs_bU_s, hF]
  refine l1.trans (l2.trans ?_)
  unfold f_manyA
  rw [eA, eB, wr_fd hW2, wr_ss hW2]
theorem x_many (hX : gs_Fu X) (hO : gs_So m T n n0 n1 n2 turn n6 n8) (hP : gs_RP m T n n1) (hRW : gs_RW m T n7) (hWV : gs_WV m n7) (h7 : n7 ≤ 6) (e7 : m.2.1 (T + 21) 3 = Int32.ofNat n7) (hK : gs_Kn m n kn D) (hC : gs_CE m n turn kn D) :
    ∃ M r, gs_exec X (d + 8) 147 [.inr (.inr 0), .inl s, .inl a, .inl b, .inl w] m = gs_rJ (f_many M n n6 n7 (evI kn D r) s a b w) M ∧ gs_Wx rsE m M ∧ gs_CE M n turn kn D ∧ gs_Evs (oneP M turn) (trd kn D) n r := by
  have h := hO.1.1
  have e6 := hO.2.1
  have no : (∀ r, f_many m n n6 n7 (evI kn D r) s a b w = -1) → ∃ M r, gs_rJ (-1) m = gs_rJ (f_many M n n6 n7 (evI kn D r) s a b w) M ∧ gs_Wx rsE m M ∧ gs_CE M n turn kn D ∧ gs_Evs (oneP M turn) (trd kn D) n r := fun hr => by
    obtain ⟨r, hv⟩ := ev_ex hX hO.1 hK
    exact ⟨m, r, by rw [hr r], wx_refl m, hC, hv⟩
  have tail : (s = -1 ∨ isIx s (Int32.ofNat n6)) → ∃ M r, gs_bI (gs_exec X (d + 7) 162 [.inl a] m) gs_nt (fun x2 m1 => if x2 = 0 then gs_rJ (-1 : Int64) m1 else gs_bI (gs_exec X (d + 7) 162 [.inl b] m1) gs_nt (fun x4 m3 => if x4 = 0 then gs_rJ (-1 : Int64) m3 else if b < a then gs_rJ (-1 : Int64) m3 else gs_bI (gs_exec X (d + 7) 164 [.inl w] m3) gs_nt (fun x6 m5 => if x6 = 0 then gs_rJ (-1 : Int64) m5 else gs_fld m5 0 10 (gs_bU (gs_exec X (d + 7) 169 [.inr (.inr 0)] m5) gs_th (fun m7 => gs_iter X (gs_exec X (d + 7)) gT_X11_many X.1 54 [(0, .inr (.inr 0)), (1, .inl s), (2, .inl a), (3, .inl b), (4, .inl w), (5, .inr (.inl (0 : Int64))), (7, .inl a)] [] m7))))) = gs_rJ (f_many M n n6 n7 (evI kn D r) s a b w) M ∧ gs_Wx rsE m M ∧ gs_CE M n turn kn D ∧ gs_Evs (oneP M turn) (trd kn D) n r := by
    intro hs
    rw [x_isYear, gs_bI_s, b2_if]
    by_cases ha : isIx a 2000
    · rw [if_pos ha, x_isYear, gs_bI_s, b2_if]
      by_cases hb : isIx b 2000
      · rw [if_pos hb]
        by_cases hab : b < a
        · rw [if_pos hab]
          exact no (fun r => by unfold f_many; rw [if_pos hs, if_pos ha, if_pos hb, if_pos hab])
        · rw [if_neg hab, x_isPart, gs_bI_s, b2_if]
          by_cases hp : w = 0 ∨ w = 1
          · rw [if_pos hp]
            obtain ⟨M, r, e, k⟩ := x_manyT (X := X) (d := d) (s := s) (w := w) hX hO hP hRW hWV h7 e7 hK hC ha hb hab
            refine ⟨M, r, ?_, k⟩
            unfold f_many
            rw [if_pos hs, if_pos ha, if_pos hb, if_neg hab, if_pos hp]
            exact e
          · rw [if_neg hp]
            exact no (fun r => by unfold f_many; rw [if_pos hs, if_pos ha, if_pos hb, if_neg hab, if_neg hp])
      · rw [if_neg hb]
        exact no (fun r => by unfold f_many; rw [if_pos hs, if_pos ha, if_neg hb])
    · rw [if_neg ha]
      exact no (fun r => by unfold f_many; rw [if_pos hs, if_neg ha])
  rw [eq_X11_many]
  by_cases h1 : s = -1
  · rw [if_pos h1]
    exact tail (Or.inl h1)
  · rw [if_neg h1, fl_0 h, x_isSort h, gs_bI_s, b2_if, e6]
    by_cases h2 : isIx s (Int32.ofNat n6)
    · rw [if_pos h2]
      exact tail (Or.inr h2)
    · rw [if_neg h2]
      exact no (fun r => by unfold f_many; rw [if_neg (fun z => z.elim h1 h2)])
theorem r_many (hX : gs_Fu X) (hO : gs_So m T n n0 n1 n2 turn n6 n8) (hWV : gs_WV m n7) (h7 : n7 ≤ 6) (e7 : m.2.1 119 7 = Int32.ofNat n7) (hK : gs_Kn m n kn D) :
    ∃ M r, gs_exec X (d + 6) 292 [.inr (.inr 116), .inl s, .inl a, .inl b, .inl w] m = gs_rJ (f_many m n n6 n7 (evI kn D r) s a b w) M ∧ gs_Wr m M ∧ gs_Evs (oneP m turn) (trd kn D) n r := by
  have hW0 := wr_thr (m := m) (x := 0)
  have hO2 := wr_so hO hW0
  have hK2 := wd_kn hK (wd_r hW0)
  have hs := hO2.1.1
  have hn := hO2.1.2.2.2.1
  have e6 := hO2.2.2.1
  have b6 := hO2.2.2.2.1
  have h := hO.1.1
  have i6 : ∀ (M : gs_M), gs_Sh M T → ∀ K : Nat → gs_O, gs_ix M 119 13 6 K = K 6 := fun M hM K => gs_ixe hM.1 rfl rfl
  obtain ⟨M, r, e, hW, hc2, hE⟩ := r_layEvents (X := X) (d := d) hX hO2.1 hK2
  rw [oneP_wd (wd_r hW0)] at hE
  have hM := wr_sh hs hW
  have hWM := wr_trans hW0 hW
  have e7M : M.2.1 119 7 = Int32.ofNat n7 := by rw [wr_cell hWM 119 (by decide) (by decide)]; exact e7
  have hWVM := wd_wv hWV (wd_r hWM)
  have no : f_many m n n6 n7 (evI kn D r) s a b w = -1 → ∃ M r, gs_rJ (-1) (gs_sI m 116 2 0) = gs_rJ (f_many m n n6 n7 (evI kn D r) s a b w) M ∧ gs_Wr m M ∧ gs_Evs (oneP m turn) (trd kn D) n r := fun hr => ⟨_, r, by rw [hr], hW0, hE⟩
  rw [eq_X12_many, fl_116 h]
  show ∃ M r, (if s < (-1 : Int32) then gs_rJ (-1) (gs_sI m 116 2 0) else gs_fld (gs_sI m 116 2 0) 116 11 _) = _ ∧ _
  by_cases s1 : s < -1
  · rw [if_pos s1]
    refine no ?_
    unfold f_many
    rw [if_neg (fun z => by
      rcases z with z | z
      · rw [z] at s1; exact absurd s1 (by decide)
      · have := i_ix.mp z
        have q := i_lt.mp s1
        have q1 : (-1 : Int32).toInt = -1 := rfl
        omega)]
  · rw [if_neg s1, fl_116 hs, sh_116_12 hs, gs_nn_s, i6 _ hs, e6]
    by_cases s2 : s < Int32.ofNat n6
    · have hss : s = -1 ∨ isIx s (Int32.ofNat n6) := by
        by_cases z : s = -1
        · exact Or.inl z
        · right
          refine ⟨fun q => ?_, s2⟩
          have q2 : ¬ s.toInt < (-1 : Int32).toInt := fun q => s1 (i_lt.mpr q)
          have q3 : ¬ s.toInt = (-1 : Int32).toInt := fun q => z (i_eq.mpr q)
          have q4 := i_lt.mp q
          have q5 : (-1 : Int32).toInt = -1 := rfl
          have q6 : (0 : Int32).toInt = 0 := rfl
          omega
      have i_y : isBt a 0 1999 ↔ isIx a 2000 := i_bt1 (k := 2000) (by decide) (by decide)
      rw [if_pos s2, r_isIn, gs_bI_s, b2_if]
      by_cases ha : isIx a 2000
      · rw [if_pos (i_y.mpr ha), r_isIn, gs_bI_s, b2_if]
        by_cases hb : isBt b a 1999
        · have hba : isIx b 2000 ∧ ¬ b < a := by
            have z1 := i_bt.mp hb
            have z2 := i_ix.mp ha
            have z3 : (1999 : Int32).toInt = 1999 := rfl
            have z4 : (2000 : Int32).toInt = 2000 := rfl
            exact ⟨i_ix.mpr (by omega), fun q => by have := i_lt.mp q; omega⟩
          rw [if_pos hb, r_isIn, gs_bI_s, b2_if]
          by_cases hp : w = 0 ∨ w = 1
          · obtain ⟨A, B, hAB, hB, rfl, rfl, eA, eB⟩ := i_years ha hba.1 hba.2
            obtain ⟨F', M2, hF', e2, hW2⟩ := r_fd_loop (X := X) (d := d) (a := Int32.ofNat A) (b := Int32.ofNat B) (w := w) (E := evI kn D r) hX (wr_so hO2 hW) h7 e7M hc2 hss n 0 X.1 0 M (wr_refl M) hc2 (by omega) (by unfold gs_Fu at hX; omega)
            have hM2 := wr_sh hM hW2
            have hWM2 := wr_trans hWM hW2
            have e7M2 : M2.2.1 119 7 = Int32.ofNat n7 := by rw [wr_cell hW2 119 (by decide) (by decide)]; exact e7M
            have hfd := n_fd_le (m := M) (n := n) (n6 := n6) (n7 := n7) (E := evI kn D r) (s := s) (a := Int32.ofNat A) (b := Int32.ofNat B) n 0 0
            have l3 := r_ss_loop (X := X) (d := d + 3) (w := w) (A := A) hX hM2 (wd_wv hWVM (wd_r hW2)) h7 e7M2 hAB hB (show n_fd M n n6 n7 (evI kn D r) s (Int32.ofNat A) (Int32.ofNat B) n 0 0 ≤ 12 by omega) (B + 1 - A) A F' 0 (by omega) (by unfold gs_Fu at hX; omega) (by omega)
            refine ⟨M2, r, ?_, hWM2, hE⟩
            rw [if_pos (i_part.mpr hp), fl_116 hs, e, gs_bU_s]
            refine e2.trans (l3.trans ?_)
            unfold f_many f_manyA
            rw [if_pos hss, if_pos ha, if_pos hba.1, if_neg hba.2, if_pos hp, eA, eB, wr_fd hWM, wr_ss hWM2]
          · rw [if_neg (fun z => hp (i_part.mp z))]
            exact no (by unfold f_many; rw [if_pos hss, if_pos ha, if_pos hba.1, if_neg hba.2, if_neg hp])
        · rw [if_neg hb]
          refine no ?_
          unfold f_many
          rw [if_pos hss, if_pos ha]
          by_cases hb2 : isIx b 2000
          · rw [if_pos hb2]
            by_cases hab : b < a
            · rw [if_pos hab]
            · exact absurd (show isBt b a 1999 from i_bt.mpr (by
                have z1 := i_ix.mp hb2
                have z3 : (1999 : Int32).toInt = 1999 := rfl
                have z4 : (2000 : Int32).toInt = 2000 := rfl
                have z5 : ¬ b.toInt < a.toInt := fun q => hab (i_lt.mpr q)
                omega)) hb
          · rw [if_neg hb2]
      · rw [if_neg (fun z => ha (i_y.mp z))]
        exact no (by unfold f_many; rw [if_pos hss, if_neg ha])
    · rw [if_neg s2]
      refine no ?_
      unfold f_many
      rw [if_neg (fun z => by
        rcases z with z | z
        · rw [z] at s2
          exact s2 (by rw [i_lt, gs_n32 (by omega)]; show (-1 : Int) < _; omega)
        · exact s2 z.2)]
end MN3
