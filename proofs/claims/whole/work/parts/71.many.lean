/-! many, asked. -/
abbrev hsP (m : gs_M) (n6 n7 : Nat) (E : Nat → Int32) (s a b e : Int32) (k : Nat) : Prop := E k = e ∧ ¬ gd m k 0 = -1 ∧ isBt (gd m k 1) a b ∧ 0 < f_sh (m.2.1 138) (gd m k 1) n7 0 0 ∧ (s = -1 ∨ f_so m k n6 0 = s)
def f_hs (m : gs_M) (n6 n7 : Nat) (E : Nat → Int32) (s a b e : Int32) : Nat → Nat → Int32
  | 0, _ => 0
  | q + 1, k => if hsP m n6 n7 E s a b e k then 1 else f_hs m n6 n7 E s a b e q (k + 1)
theorem f_hs_s (m : gs_M) (n6 n7 : Nat) (E : Nat → Int32) (s a b e : Int32) (q k : Nat) : f_hs m n6 n7 E s a b e (q + 1) k = if hsP m n6 n7 E s a b e k then 1 else f_hs m n6 n7 E s a b e q (k + 1) := rfl
theorem f_hs01 (m : gs_M) (n6 n7 : Nat) (E : Nat → Int32) (s a b e : Int32) : ∀ q k, f_hs m n6 n7 E s a b e q k = 0 ∨ f_hs m n6 n7 E s a b e q k = 1
  | 0, _ => Or.inl rfl
  | q + 1, k => by
    rw [f_hs_s]
    split
    · exact Or.inr rfl
    · exact f_hs01 m n6 n7 E s a b e q (k + 1)
theorem f_hs_congr {m : gs_M} {n6 n7 n : Nat} {E E' : Nat → Int32} {s a b e : Int32} (h : ∀ i, i < n → E i = E' i) : ∀ q k, k + q = n → f_hs m n6 n7 E s a b e q k = f_hs m n6 n7 E' s a b e q k
  | 0, _, _ => rfl
  | q + 1, k, hk => by
    rw [f_hs_s, f_hs_s, f_hs_congr h q (k + 1) (by omega)]
    unfold hsP
    rw [h k (by omega)]
def n_fd (m : gs_M) (n n6 n7 : Nat) (E : Nat → Int32) (s a b : Int32) : Nat → Nat → Nat → Nat
  | 0, _, v => v
  | q + 1, k, v => if E k = Int32.ofNat k ∧ f_hs m n6 n7 E s a b (Int32.ofNat k) n 0 = 1 then n_fd m n n6 n7 E s a b q (k + 1) (v + 1) else n_fd m n n6 n7 E s a b q (k + 1) v
theorem n_fd_s (m : gs_M) (n n6 n7 : Nat) (E : Nat → Int32) (s a b : Int32) (q k v : Nat) : n_fd m n n6 n7 E s a b (q + 1) k v = if E k = Int32.ofNat k ∧ f_hs m n6 n7 E s a b (Int32.ofNat k) n 0 = 1 then n_fd m n n6 n7 E s a b q (k + 1) (v + 1) else n_fd m n n6 n7 E s a b q (k + 1) v := rfl
theorem n_fd_le {m : gs_M} {n n6 n7 : Nat} {E : Nat → Int32} {s a b : Int32} : ∀ q k v, n_fd m n n6 n7 E s a b q k v ≤ v + q
  | 0, _, _ => Nat.le_refl _
  | q + 1, k, v => by
    rw [n_fd_s]
    split
    · have := n_fd_le (m := m) (n := n) (n6 := n6) (n7 := n7) (E := E) (s := s) (a := a) (b := b) q (k + 1) (v + 1)
      omega
    · have := n_fd_le (m := m) (n := n) (n6 := n6) (n7 := n7) (E := E) (s := s) (a := a) (b := b) q (k + 1) v
      omega
theorem n_fd_congr {m : gs_M} {n6 n7 n : Nat} {E E' : Nat → Int32} {s a b : Int32} (h : ∀ i, i < n → E i = E' i) : ∀ q k v, k + q = n → n_fd m n n6 n7 E s a b q k v = n_fd m n n6 n7 E' s a b q k v
  | 0, _, _, _ => rfl
  | q + 1, k, v, hk => by
    rw [n_fd_s, n_fd_s, h k (by omega), f_hs_congr h n 0 (by omega), n_fd_congr h q (k + 1) (v + 1) (by omega), n_fd_congr h q (k + 1) v (by omega)]
def n_ss (m : gs_M) (n7 : Nat) : Nat → Nat → Nat → Nat
  | 0, _, a => a
  | q + 1, k, a => n_ss m n7 q (k + 1) (a + nShr m n7 k)
def f_manyA (m : gs_M) (n n6 n7 : Nat) (E : Nat → Int32) (s a b w : Int32) : Int64 := f_least (n_fd m n n6 n7 E s a b n 0 0 * 10 * (b.toInt.toNat - a.toInt.toNat + 1)) (n_ss m n7 (b.toInt.toNat + 1 - a.toInt.toNat) a.toInt.toNat 0) w
def f_many (m : gs_M) (n n6 n7 : Nat) (E : Nat → Int32) (s a b w : Int32) : Int64 := if s = -1 ∨ isIx s (Int32.ofNat n6) then (if isIx a 2000 then (if isIx b 2000 then (if b < a then -1 else (if w = 0 ∨ w = 1 then f_manyA m n n6 n7 E s a b w else -1)) else -1) else -1) else -1
section MNY
variable {X : gs_E} {d : Nat} {m : gs_M} {T n n0 n1 n2 n6 n7 n8 turn kn g : Nat} {D x w s a b e : Int32} {E : Nat → Int32}
theorem nShr_n (hWV : gs_WV m n7) (k : Nat) : f_sh (m.2.1 138) (Int32.ofNat k) n7 0 0 = Int32.ofNat (nShr m n7 k) ∧ nShr m n7 k ≤ 10 := by
  obtain ⟨z, hz, ez⟩ := f_sh_n (f := m.2.1 138) (y := Int32.ofNat k) (n7 := n7) hWV n7 0 0 (by omega) ⟨0, by decide, rfl⟩
  unfold nShr
  rw [ez, f_nat rfl (by omega)]
  exact ⟨rfl, by omega⟩
theorem x_hs_loop (hX : gs_Fu X) (hO : gs_So m T n n0 n1 n2 turn n6 n8) (hRW : gs_RW m T n7) (h7 : n7 ≤ 6) (e7 : m.2.1 (T + 21) 3 = Int32.ofNat n7) (hE : ∀ k, k < n → m.2.1 17 k = E k) : ∀ (q k F : Nat) (M : gs_M), gs_Wr m M → k + q = n → q < F →
    ∃ M', gs_iter X (gs_exec X (d + 6)) gT_X1_hasSuch F 3 [(0, .inr (.inr 16)), (1, .inr (.inr T)), (2, .inl e), (3, .inl s), (4, .inl a), (5, .inl b), (6, .inl (Int32.ofNat k))] [] M = gs_rI (f_hs m n6 n7 E s a b e q k) M' ∧ gs_Wr m M' := by
  obtain ⟨h, hn3, -, hn, -⟩ := id hO.1
  intro q
  induction q with
  | zero =>
    intro k F M hW hk hF
    obtain ⟨F, rfl⟩ : ∃ z, F = z + 1 := ⟨F - 1, by omega⟩
    have hM := wr_sh h hW
    have e8M : M.2.1 T 8 = Int32.ofNat n := (wr_ga hO.1 hW).2.1
    refine ⟨M, ?_, hW⟩
    rw [eq_X1_hasSuch_3, fl_t0 hM, e8M, if_neg (fun z => by have := (gs_nlt (by omega) (by omega)).mp z; omega), gs_bt0]
    rfl
  | succ q ih =>
    intro k F M hW hk hF
    obtain ⟨F, rfl⟩ : ∃ z, F = z + 1 := ⟨F - 1, by omega⟩
    have hkn : k < n := by omega
    have hM := wr_sh h hW
    obtain ⟨-, e8M, -, -, -, -, -, -, -, -, hRM, -, -⟩ := wr_ga hO.1 hW
    have r0 : M.2.1 (T + (27 + k)) 0 = gd m k 0 := (hRM k hkn (0, 0) (by decide)).trans (wr_gd hW k 0)
    have r1 : M.2.1 (T + (27 + k)) 1 = gd m k 1 := (hRM k hkn (1, 1) (by decide)).trans (wr_gd hW k 1)
    have e17 : M.2.1 17 k = E k := (hW.2.2 17 k (fun q => by unfold gs_rs at q; omega)).trans (hE k hkn)
    have e7M : M.2.1 (T + 21) 3 = Int32.ofNat n7 := by rw [wr_t h hW 21 (by decide)]; exact e7
    obtain ⟨M1, i1, hW1⟩ := ih (k + 1) F M hW (by omega) (by omega)
    rw [eq_X1_hasSuch_3, fl_t0 hM, e8M, if_pos ((gs_nlt (by omega) (by omega)).mpr (by omega)), fl_t0 hM, sh_t0_6 hM, gs_nn_s, x_gx hM (by omega), sh_guest hM (by omega), gs_nn_s, fl_16 hM, sh_16_0 hM, gs_nn_s, x_i17 hM (by omega), e17, gs_ns, i1, f_hs_s]
    by_cases c1 : E k = e
    · rw [if_pos c1, fl_tg hM (by omega), x_isRock hM (by omega), gs_bI_s, b2_if, r0]
      by_cases c2 : gd m k 0 = -1
      · rw [if_pos c2, if_neg (fun z => z.2.1 c2)]
        exact ⟨M1, i1, hW1⟩
      · rw [if_neg c2, fl_tg hM (by omega), r1]
        by_cases c3 : gd m k 1 < a
        · rw [if_pos c3, if_neg (fun z => z.2.2.1.1 c3)]
          exact ⟨M1, i1, hW1⟩
        · rw [if_neg c3, fl_tg hM (by omega)]
          by_cases c4 : b < gd m k 1
          · rw [if_pos c4, if_neg (fun z => z.2.2.1.2 c4)]
            exact ⟨M1, i1, hW1⟩
          · rw [if_neg c4, fl_t0 hM, sh_t0_5 hM, gs_nn_s, fl_tg hM (by omega), fl_t21 hM, x_shareOf (d := d + 5) hX hM (wd_rw h hRW (wd_r hW)) h7 e7M, gs_bI_s, wr_cell hW 138 (by decide) (by decide)]
            by_cases c5 : 0 < f_sh (m.2.1 138) (gd m k 1) n7 0 0
            · rw [if_pos c5]
              by_cases c6 : s = -1
              · rw [if_pos c6, if_pos ⟨c1, c2, ⟨c3, c4⟩, c5, Or.inl c6⟩, gs_bt1]
                exact ⟨M, rfl, hW⟩
              · obtain ⟨M2, e2, hW2⟩ := x_sortOf (X := X) (d := d) hX (wr_so hO hW) hkn
                rw [wr_so_f hW] at e2
                rw [if_neg c6, fl_t0 hM, e2, gs_bI_s]
                by_cases c7 : f_so m k n6 0 = s
                · rw [if_pos c7, if_pos ⟨c1, c2, ⟨c3, c4⟩, c5, Or.inr c7⟩, gs_bt1]
                  exact ⟨M2, rfl, wr_trans hW hW2⟩
                · rw [if_neg c7, if_neg (fun z => z.2.2.2.2.elim c6 c7)]
                  exact ih (k + 1) F M2 (wr_trans hW hW2) (by omega) (by omega)
            · rw [if_neg c5, if_neg (fun z => c5 z.2.2.2.1)]
              exact ⟨M1, i1, hW1⟩
    · rw [if_neg c1, if_neg (fun z => c1 z.1)]
      exact ⟨M1, rfl, hW1⟩
theorem x_hasSuch (hX : gs_Fu X) (hO : gs_So m T n n0 n1 n2 turn n6 n8) (hRW : gs_RW m T n7) (h7 : n7 ≤ 6) (e7 : m.2.1 (T + 21) 3 = Int32.ofNat n7) (hE : ∀ k, k < n → m.2.1 17 k = E k) (M : gs_M) (hW : gs_Wr m M) : ∃ M', gs_exec X (d + 7) 16 [.inr (.inr 16), .inr (.inr T), .inl e, .inl s, .inl a, .inl b] M = gs_rI (f_hs m n6 n7 E s a b e n 0) M' ∧ gs_Wr m M' := by
  rw [eq_X1_hasSuch]
  exact x_hs_loop hX hO hRW h7 e7 hE n 0 X.1 M hW (by omega) (by have := hO.1.2.2.2.1; unfold gs_Fu at hX; omega)
theorem x_ss_loop {A B : Nat} (hX : gs_Fu X) (h : gs_Sh m T) (hRW : gs_RW m T n7) (hWV : gs_WV m n7) (h7 : n7 ≤ 6) (e7 : m.2.1 (T + 21) 3 = Int32.ofNat n7) (hB : B < 2000) : ∀ (q k F acc : Nat), k + q = B + 1 →
    gs_iter X (gs_exec X (d + 1)) gT_X11_many (F + q + 1) 54 [(0, .inr (.inr 0)), (1, .inl s), (2, .inl (Int32.ofNat A)), (3, .inl (Int32.ofNat B)), (4, .inl w), (5, .inr (.inl (Int64.ofNat acc))), (7, .inl (Int32.ofNat k))] [] m = gs_iter X (gs_exec X (d + 1)) gT_X11_many F 90 [(0, .inr (.inr 0)), (1, .inl s), (2, .inl (Int32.ofNat A)), (3, .inl (Int32.ofNat B)), (4, .inl w), (5, .inr (.inl (Int64.ofNat (n_ss m n7 q k acc)))), (7, .inl (Int32.ofNat 0)), (8, .inl (Int32.ofNat 0))] [] m := by
  intro q
  induction q with
  | zero =>
    intro k F acc hk
    show gs_iter X (gs_exec X (d + 1)) gT_X11_many (F + 1) 54 _ [] m = _
    rw [eq_X11_many_54, if_pos ((gs_nlt (by omega) (by omega)).mpr (by omega))]
    rfl
  | succ q ih =>
    intro k F acc hk
    obtain ⟨e1, b1⟩ := nShr_n hWV k
    show gs_iter X (gs_exec X (d + 1)) gT_X11_many (F + q + 1 + 1) 54 _ [] m = _
    rw [eq_X11_many_54, if_neg (fun z => by have := (gs_nlt (by omega) (by omega)).mp z; omega), fl_0 h, sh_told h, gs_nn_s, fl_t0 h, sh_t0_5 h, gs_nn_s, fl_t21 h, x_shareOf (d := d) hX h hRW h7 e7, gs_bI_s, e1, l_32 (by omega), j_add, gs_ns]
    exact ih (k + 1) F _ (by omega)
theorem x_fd_loop {A B S : Nat} (hX : gs_Fu X) (hO : gs_So m T n n0 n1 n2 turn n6 n8) (hRW : gs_RW m T n7) (h7 : n7 ≤ 6) (e7 : m.2.1 (T + 21) 3 = Int32.ofNat n7) (hE : ∀ k, k < n → m.2.1 17 k = E k) (hAB : A ≤ B) (hB : B < 2000) (hS : S < 1000000) : ∀ (q k F v : Nat) (M : gs_M), gs_Wr m M → k + q = n → q < F → v ≤ k →
    ∃ M', gs_iter X (gs_exec X (d + 7)) gT_X11_many F 90 [(0, .inr (.inr 0)), (1, .inl s), (2, .inl (Int32.ofNat A)), (3, .inl (Int32.ofNat B)), (4, .inl w), (5, .inr (.inl (Int64.ofNat S))), (7, .inl (Int32.ofNat v)), (8, .inl (Int32.ofNat k))] [] M = gs_rJ (f_least (n_fd m n n6 n7 E s (Int32.ofNat A) (Int32.ofNat B) q k v * 10 * (B - A + 1)) S w) M' ∧ gs_Wr m M' := by
  obtain ⟨h, hn3, -, hn, -⟩ := id hO.1
  intro q
  induction q with
  | zero =>
    intro k F v M hW hk hF hv
    obtain ⟨F, rfl⟩ : ∃ z, F = z + 1 := ⟨F - 1, by omega⟩
    have hM := wr_sh h hW
    have e8M : M.2.1 T 8 = Int32.ofNat n := (wr_ga hO.1 hW).2.1
    have hb : v * 10 * (B - A + 1) ≤ 12 * 10 * 2000 := Nat.mul_le_mul (Nat.mul_le_mul (by omega) (Nat.le_refl _)) (by omega)
    have e10 : Int64.ofNat v * (10 : Int64) = Int64.ofNat (v * 10) := j_mul v 10
    refine ⟨M, ?_, hW⟩
    rw [eq_X11_many_90, fl_0 hM, sh_told hM, gs_nn_s, fl_t0 hM, e8M, if_neg (fun z => by have := (gs_nlt (by omega) (by omega)).mp z; omega), n_sub hAB, gs_ns, l_32 (by omega), l_32 (by omega), e10, j_mul, x_least hX (by omega) (by omega), gs_bJ_s]
    rfl
  | succ q ih =>
    intro k F v M hW hk hF hv
    obtain ⟨F, rfl⟩ : ∃ z, F = z + 1 := ⟨F - 1, by omega⟩
    have hkn : k < n := by omega
    have hM := wr_sh h hW
    have e8M : M.2.1 T 8 = Int32.ofNat n := (wr_ga hO.1 hW).2.1
    have e17 : M.2.1 17 k = E k := (hW.2.2 17 k (fun q => by unfold gs_rs at q; omega)).trans (hE k hkn)
    rw [eq_X11_many_90, fl_0 hM, sh_told hM, gs_nn_s, fl_t0 hM, e8M, if_pos ((gs_nlt (by omega) (by omega)).mpr (by omega)), fl_0 hM, sh_0_2 hM, gs_nn_s, fl_16 hM, sh_16_0 hM, gs_nn_s, x_i17 hM (by omega), e17, gs_ns, n_fd_s]
    by_cases c1 : E k = Int32.ofNat k
    · obtain ⟨M1, e1, hW1⟩ := x_hasSuch (X := X) (d := d) (e := Int32.ofNat k) (s := s) (a := Int32.ofNat A) (b := Int32.ofNat B) hX hO hRW h7 e7 hE M hW
      rw [if_pos c1, fl_0 hM, gs_nn_s, fl_0 hM, gs_nn_s, fl_16 hM, e1, gs_bI_s]
      by_cases c2 : f_hs m n6 n7 E s (Int32.ofNat A) (Int32.ofNat B) (Int32.ofNat k) n 0 = 0
      · rw [if_pos c2, if_neg (fun z => by rw [c2] at z; exact absurd z.2 (by decide))]
        exact ih (k + 1) F v M1 hW1 (by omega) (by omega) (by omega)
      · have c3 : f_hs m n6 n7 E s (Int32.ofNat A) (Int32.ofNat B) (Int32.ofNat k) n 0 = 1 := (f_hs01 m n6 n7 E s _ _ _ n 0).resolve_left c2
        rw [if_neg c2, if_pos ⟨c1, c3⟩, gs_ns]
        exact ih (k + 1) F (v + 1) M1 hW1 (by omega) (by omega) (by omega)
    · rw [if_neg c1, if_neg (fun z => c1 z.1)]
      exact ih (k + 1) F v M hW (by omega) (by omega) (by omega)
theorem n_ss_le (hWV : gs_WV m n7) : ∀ q k acc, n_ss m n7 q k acc ≤ acc + 10 * q := by
  intro q
  induction q with
  | zero => intro k acc; exact Nat.le_refl _
  | succ q ih =>
    intro k acc
    have h1 := ih (k + 1) (acc + nShr m n7 k)
    have h2 := (nShr_n hWV k).2
    show n_ss m n7 q (k + 1) (acc + nShr m n7 k) ≤ _
    omega
end MNY
