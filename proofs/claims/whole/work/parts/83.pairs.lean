/-! Pairs reckoned in the class. -/
def nTo (m : gs_M) (price blur g c : Nat) : Nat := (f_tollA m price blur g c).toInt.toNat
def tlF (m : gs_M) (price blur limit kn : Nat) (D : Int32) (g c : Nat) : Nat := if trd kn D g ∧ nTo m price blur g c ≤ limit then nTo m price blur g c else 100000
def rsT (x _i : Nat) : Prop := x = 6 ∨ x = 7
section PRS
variable {X : gs_E} {d : Nat} {m M : gs_M} {T n n0 n1 n2 n5 turn price blur limit kn g c : Nat} {D x w : Int32}
theorem f_out_n {y o e a b : Nat} (hy : y < 3000) (ho : o ≤ 9999) (he : e ≤ 9999) (ha : a < 2000) (hb : b < 2000) : ∃ z, z ≤ 13000 ∧ f_out (Int32.ofNat y - Int32.ofNat o) (Int32.ofNat y - Int32.ofNat e) (Int32.ofNat a) (Int32.ofNat b) = Int32.ofNat z := by
  have e1 := i_nd (a := y) (b := o) (by omega) (by omega)
  have e2 := i_nd (a := y) (b := e) (by omega) (by omega)
  have e3 := gs_n32 (a := a) (by omega)
  have e4 := gs_n32 (a := b) (by omega)
  unfold f_out
  by_cases c1 : Int32.ofNat b < Int32.ofNat y - Int32.ofNat o
  · have c1' := i_lt.mp c1
    rw [e1, e4] at c1'
    rw [if_pos c1]
    refine ⟨y - o - b, by omega, ?_⟩
    rw [i_eq, i_sub (by rw [e1, e4]; omega) (by rw [e1, e4]; omega), e1, e4, gs_n32 (by omega)]
    omega
  · rw [if_neg c1]
    by_cases c2 : Int32.ofNat y - Int32.ofNat e < Int32.ofNat a
    · have c2' := i_lt.mp c2
      rw [e2, e3] at c2'
      rw [if_pos c2]
      refine ⟨a + e - y, by omega, ?_⟩
      rw [i_eq, i_sub (by rw [e2, e3]; omega) (by rw [e2, e3]; omega), e2, e3, gs_n32 (by omega)]
      omega
    · rw [if_neg c2]
      exact ⟨0, by omega, rfl⟩
theorem outA_n (hT : gs_To m T n n0 n1 n2 n5 turn blur price) (hg : g < n) (hc : c < n5) : ∃ z, z ≤ 13000 ∧ f_outA m blur g c = Int32.ofNat z := by
  obtain ⟨-, ⟨a, ha, ea⟩, ⟨b, hb, eb⟩, -⟩ := hT.1.2.2.2.2.2.2.2.2.2.2.2.2 g hg
  obtain ⟨h, -, -, hn5, -, e3, bb, hRC, hCV⟩ := hT.2.2.1
  obtain ⟨hcn, -, -, h24, h4, -, -, -, -, h6, -⟩ := hCV c hc
  unfold f_outA f_bf f_bt
  rw [ea, eb]
  exact f_out_n (by omega) (nOld_le _ _ _ _) (nNew_le h6) ha hb
theorem nTo_n (hT : gs_To m T n n0 n1 n2 n5 turn blur price) (hg : g < n) (hc : c < n5) : f_tollA m price blur g c = Int32.ofNat (nTo m price blur g c) ∧ nTo m price blur g c ≤ 2000 := by
  obtain ⟨z, hz, ez⟩ := outA_n hT hg hc
  have hp : ∃ y, y ≤ 260 ∧ f_pt m price g c = Int32.ofNat y := by
    unfold f_pt
    by_cases hgt : gd m g 4 = -1
    · rw [if_pos hgt]
      exact ⟨20, by decide, rfl⟩
    · rw [if_neg hgt]
      have hV := hT.1.2.2.2.2.2.2.2.2.2.2.2.2 g hg
      have h1 := hT.1.2.2.2.2.2.1
      exact ⟨_, nT_le (ap_n hV hT.2.1 hgt nBest_lt h1 (hT.2.2.1.2.2.2.2.2.2.2.2 c hc)).2 hT.2.2.2.2.2 nBest_lt, rfl⟩
  obtain ⟨y, hy, ey⟩ := hp
  have e10 : Int32.ofNat z / (10 : Int32) = Int32.ofNat (z / 10) := n_div (b := 10) (by omega) (by decide)
  have e : f_tollA m price blur g c = Int32.ofNat (y + z / 10) := by
    unfold f_tollA
    rw [ey, ez, e10, n_add]
  unfold nTo
  rw [e, f_nat rfl (by omega)]
  exact ⟨rfl, by omega⟩
theorem wd_nTo (hW : gs_Wd m M) : nTo M price blur g c = nTo m price blur g c := by
  unfold nTo
  rw [wd_tollA hW]
theorem tlF_c (hlim : limit ≤ 999) : tlF m price blur limit kn D g c = 100000 ∨ tlF m price blur limit kn D g c ≤ 999 := by
  unfold tlF
  split
  · next h => right; omega
  · exact Or.inl rfl
theorem wd_tlF (hW : gs_Wd m M) : tlF M price blur limit kn D = tlF m price blur limit kn D := by
  funext g c
  unfold tlF
  rw [wd_nTo hW]
theorem wd_T {R : Nat → Nat → Prop} (hW : gs_Wx R m M) (hR : ∀ x i, R x i → (6 ≤ x ∧ x ≤ 15)) : gs_Wd m M := wx_mono hW (fun x i q => Or.inr (Or.inl (by have := hR x i q; omega)))
theorem x_toll_cell (hT : gs_To m T n n0 n1 n2 n5 turn blur price) (hlim : limit ≤ 999) (hl : m.2.1 T 12 = Int32.ofNat limit) (hkn : kn ≤ n) (hg : g < n) (hc : c < n5) {K : Int32 → gs_O} :
    (if isBit (trv kn D) (Int32.ofNat g) then (if m.2.1 T 12 < f_tollA m price blur g c then K (-1) else K (f_tollA m price blur g c)) else K (-1)) = K (tlI (tlF m price blur limit kn D) g c) := by
  have hn := hT.1.2.2.2.1
  obtain ⟨e, b⟩ := nTo_n hT hg hc
  have hb := tr_bit (kn := kn) (k := g) (D := D) (by omega) (by omega)
  unfold tlI tlF
  by_cases t : trd kn D g
  · rw [if_pos (hb.mpr t), hl, e]
    by_cases y : nTo m price blur g c ≤ limit
    · rw [if_neg (fun z => by have := (gs_nlt (by omega) (by omega)).mp z; omega), if_pos (show trd kn D g ∧ nTo m price blur g c ≤ limit from ⟨t, y⟩), if_neg (by omega)]
    · rw [if_pos ((gs_nlt (by omega) (by omega)).mpr (by omega)), if_neg (show ¬ (trd kn D g ∧ nTo m price blur g c ≤ limit) from fun z => y z.2), if_pos rfl]
  · rw [if_neg (fun z => t (hb.mp z)), if_neg (show ¬ (trd kn D g ∧ nTo m price blur g c ≤ limit) from fun z => t z.1), if_pos rfl]
theorem x_tolls42 (hX : gs_Fu X) (hT : gs_To m T n n0 n1 n2 n5 turn blur price) (hlim : limit ≤ 999) (hl : m.2.1 T 12 = Int32.ofNat limit) (hkn : kn ≤ n) (hg : g < n) : ∀ (q c F : Nat) (M : gs_M), c + q = n5 → gs_Wx rsT m M → M.2.1 6 7 = Int32.ofNat n → M.2.1 6 8 = Int32.ofNat n5 → M.2.1 6 9 = Int32.ofNat (n5 + n) → (∀ g' c', c' < n5 → (g' < g ∨ (g' = g ∧ c' < c)) → M.2.1 7 (g' * 10 + c') = tlI (tlF m price blur limit kn D) g' c') →
    ∃ M', gs_iter X (gs_exec X (d + 5)) gT_X4_reckon (F + q + 1) 42 [(0, .inr (.inr 6)), (1, .inr (.inr T)), (2, .inl (trv kn D)), (3, .inl (Int32.ofNat g)), (4, .inl (Int32.ofNat c))] [] M = gs_iter X (gs_exec X (d + 5)) gT_X4_reckon F 31 [(0, .inr (.inr 6)), (1, .inr (.inr T)), (2, .inl (trv kn D)), (3, .inl (Int32.ofNat (g + 1)))] [] M' ∧ gs_Wx rsT m M' ∧ M'.2.1 6 7 = Int32.ofNat n ∧ M'.2.1 6 8 = Int32.ofNat n5 ∧ M'.2.1 6 9 = Int32.ofNat (n5 + n) ∧ (∀ g' c', c' < n5 → g' < g + 1 → M'.2.1 7 (g' * 10 + c') = tlI (tlF m price blur limit kn D) g' c') := by
  have h := hT.1.1
  have hn := hT.1.2.2.2.1
  have hn5 := hT.2.2.1.2.2.2.1
  have hRT : ∀ x i, rsT x i → (6 ≤ x ∧ x ≤ 15) := fun x i q => by unfold rsT at q; omega
  intro q
  induction q with
  | zero =>
    intro c F M hc hW e7 e8 e9 hcl
    have hM := wd_sh h (wd_T hW hRT)
    refine ⟨M, ?_, hW, e7, e8, e9, fun g' c' a b => hcl g' c' a (by omega)⟩
    show gs_iter X (gs_exec X (d + 5)) gT_X4_reckon (F + 1) 42 _ [] M = _
    rw [eq_X4_reckon_42, fl_6 hM, e8, if_neg (fun y => by have := (gs_nlt (by omega) (by omega)).mp y; omega), gs_ns]
  | succ q ih =>
    intro c F M hc hW e7 e8 e9 hcl
    have hWd := wd_T hW hRT
    have hM := wd_sh h hWd
    have hcn : c < n5 := by omega
    have hTM := wd_to hT hWd
    have hlM : M.2.1 T 12 = Int32.ofNat limit := by rw [show M.2.1 T = m.2.1 T from wd_t h hWd 0 (by decide)]; exact hl
    have key := x_toll_cell (D := D) hTM hlim hlM hkn hg hcn (K := fun z => gs_iter X (gs_exec X (d + 5)) gT_X4_reckon (F + q + 1) 42 [(0, .inr (.inr 6)), (1, .inr (.inr T)), (2, .inl (trv kn D)), (3, .inl (Int32.ofNat g)), (4, .inl (Int32.ofNat (c + 1)))] [] (gs_sI M 7 (g * 10 + c) z))
    obtain ⟨M', i1, i2⟩ := ih (c + 1) F (gs_sI M 7 (g * 10 + c) (tlI (tlF m price blur limit kn D) g c)) (by omega) (wx_sI hW (Or.inr rfl)) (by rw [gs_sIn (Or.inl (by decide))]; exact e7) (by rw [gs_sIn (Or.inl (by decide))]; exact e8) (by rw [gs_sIn (Or.inl (by decide))]; exact e9) (fun g' c' a b => by
      by_cases e : g' * 10 + c' = g * 10 + c
      · have e1 : g' = g := by omega
        have e2 : c' = c := by omega
        rw [e1, e2, gs_sIe]
      · rw [gs_sIn (Or.inr e)]
        exact hcl g' c' a (by omega))
    refine ⟨M', ?_, i2⟩
    refine Eq.trans ?_ (key.trans (by rw [wd_tlF hWd]; exact i1))
    show gs_iter X (gs_exec X (d + 5)) gT_X4_reckon (F + q + 1 + 1) 42 _ [] M = _
    rw [eq_X4_reckon_42, fl_6 hM, e8, if_pos ((gs_nlt (by omega) (by omega)).mpr (by omega))]
    simp only [fl_t0 hM, sh_t0_6 hM, sh_t0_7 hM, gs_nn_s, x_gx hM (show g < 12 by omega), sh_guest hM (show g < 12 by omega), x_cx hM (show c < 10 by omega), sh_cloud hM (show c < 10 by omega), x_tollOf (d := d) hX hTM hg hcn, gs_bI_s, fl_6 hM, sh_6_0 hM, x_i7 hM (show g < 12 by omega) (show c < 10 by omega), gs_ns, if_pos (show (0 : Int32) = 0 from rfl), if_true, if_neg (show ¬ (1 : Int32) = 0 by decide)]
theorem x_tolls31 (hX : gs_Fu X) (hT : gs_To m T n n0 n1 n2 n5 turn blur price) (hlim : limit ≤ 999) (hl : m.2.1 T 12 = Int32.ofNat limit) (hkn : kn ≤ n) : ∀ (q g F : Nat) (M : gs_M), g + q = n → (q + 1) * 14 ≤ F → gs_Wx rsT m M → M.2.1 6 7 = Int32.ofNat n → M.2.1 6 8 = Int32.ofNat n5 → M.2.1 6 9 = Int32.ofNat (n5 + n) → (∀ g' c', c' < n5 → g' < g → M.2.1 7 (g' * 10 + c') = tlI (tlF m price blur limit kn D) g' c') →
    ∃ M', gs_iter X (gs_exec X (d + 5)) gT_X4_reckon F 31 [(0, .inr (.inr 6)), (1, .inr (.inr T)), (2, .inl (trv kn D)), (3, .inl (Int32.ofNat g))] [] M = gs_rU M' ∧ gs_Wx (fun x i => rsT x i ∨ rsH x i ∨ rsK x i) m M' ∧ gs_PC M' n n5 (tlF m price blur limit kn D) := by
  have h := hT.1.1
  have hn := hT.1.2.2.2.1
  have hn5 := hT.2.2.1.2.2.2.1
  have hRT : ∀ x i, rsT x i → (6 ≤ x ∧ x ≤ 15) := fun x i q => by unfold rsT at q; omega
  intro q
  induction q with
  | zero =>
    intro g F M hg hF hW e7 e8 e9 hcl
    obtain ⟨F, rfl⟩ : ∃ y, F = y + 1 := ⟨F - 1, by omega⟩
    have hM := wd_sh h (wd_T hW hRT)
    obtain ⟨M1, a1, a2, a3, a4, a5, a6⟩ := x_fillL (X := X) (d := d + 4) (v := 0) hX hM (show gs_ok 8 14 153 = true from rfl) (show gs_len 8 = 13 from rfl) (by decide)
    have hM1 : gs_Sh M1 T := by
      unfold gs_Sh at hM ⊢
      rw [a2, a4]
      exact hM
    obtain ⟨M2, b1, b2, b3, b4, b5, b6⟩ := x_fillL (X := X) (d := d + 4) (v := 0) hX hM1 (show gs_ok 9 14 153 = true from rfl) (show gs_len 9 = 23 from rfl) (by decide)
    have hM2 : gs_Sh M2 T := by
      unfold gs_Sh at hM1 ⊢
      rw [b2, b4]
      exact hM1
    obtain ⟨M3, c1, c2, c3, c4, c5, c6⟩ := x_fillI (X := X) (d := d + 4) (v := 0) hX hM2 (show gs_ok 11 13 153 = true from rfl) (show gs_len 11 = 23 from rfl) (by decide)
    have hM3 : gs_Sh M3 T := by
      unfold gs_Sh at hM2 ⊢
      rw [c2, c4]
      exact hM2
    have i3 : ∀ x, x ≠ 11 → M3.2.1 x = M.2.1 x := fun x hx => by rw [c6 x hx, b3, a3]
    have hW3 : gs_Wx (fun x i => rsT x i ∨ rsH x i ∨ rsK x i) m M3 := by
      refine ⟨by rw [c2, b2, a2]; exact hW.1, by rw [c4, b4, a4]; exact hW.2.1, fun x i hx => ?_⟩
      rw [i3 x (fun e => hx (Or.inr (Or.inl (Or.inl e))))]
      exact hW.2.2 x i (fun y => hx (Or.inl y))
    have hB3 : gs_HB M3 T n n5 (tlF m price blur limit kn D) := ⟨hM3, by rw [i3 6 (by decide)]; exact e7, by rw [i3 6 (by decide)]; exact e8, by rw [i3 6 (by decide)]; exact e9, hn, hn5, fun g' c' x y => by rw [i3 7 (by decide)]; exact hcl g' c' y (by omega), fun g' c' _ _ => tlF_c hlim⟩
    obtain ⟨M', k1, k2, k3⟩ := x_seats_loop (X := X) (d := d + 1) hX hB3 n 1 F M3 (fun _ => 0) (fun _ => 0) (fun _ => 0) (by omega) (by decide) (by omega) (wx_refl M3) ⟨fun g x y => by rw [c3, b6 8 (by decide), a5 g (by omega)]; rfl, fun s hs => by rw [c3, b5 s (by have := hs.2; omega)]; rfl, fun s hs => by rw [c5 s (by have := hs.2; omega)]; rfl, ⟨fun s _ => Nat.lt_succ_self 0, fun s t _ _ z => absurd rfl z, fun g x y => by omega⟩, ⟨fun g s c x => by omega, fun s _ z => absurd rfl z, fun s _ => ⟨Int.le_refl _, fun _ => rfl⟩, fun g x => by omega⟩, fun _ _ _ => rfl⟩
    refine ⟨M', ?_, wx_trans hW3 (wx_mono k2 (fun _ _ y => Or.inr y)), k3⟩
    rw [eq_X4_reckon_31, fl_6 hM, e7, if_neg (fun y => by have := (gs_nlt (by omega) (by omega)).mp y; omega), fl_6 hM, sh_6_1 hM, gs_nn_s, a1, gs_bU_s, fl_6 hM1, sh_6_2 hM1, gs_nn_s, b1, gs_bU_s, fl_6 hM2, sh_6_4 hM2, gs_nn_s, c1, gs_bU_s]
    exact k1
  | succ q ih =>
    intro g F M hg hF hW e7 e8 e9 hcl
    obtain ⟨F, rfl⟩ : ∃ y, F = y + n5 + 1 + 1 := ⟨F - (n5 + 2), by omega⟩
    have hM := wd_sh h (wd_T hW hRT)
    obtain ⟨M1, k1, k2, k3, k4, k5, k6⟩ := x_tolls42 (X := X) (d := d) (D := D) hX hT hlim hl hkn (show g < n by omega) n5 0 F M (by omega) hW e7 e8 e9 (fun g' c' a b => hcl g' c' a (by omega))
    obtain ⟨M', j1, j2, j3⟩ := ih (g + 1) F M1 (by omega) (by omega) k2 k3 k4 k5 k6
    refine ⟨M', ?_, j2, j3⟩
    rw [eq_X4_reckon_31, fl_6 hM, e7, if_pos ((gs_nlt (by omega) (by omega)).mpr (by omega))]
    exact k1.trans j1
theorem x_reckonP (hX : gs_Fu X) (hT : gs_To m T n n0 n1 n2 n5 turn blur price) (hlim : limit ≤ 999) (hl : m.2.1 T 12 = Int32.ofNat limit) (hkn : kn ≤ n) : ∃ M', gs_exec X (d + 6) 29 [.inr (.inr 6), .inr (.inr T), .inl (trv kn D)] m = gs_rU M' ∧ gs_Wx rsP m M' ∧ gs_PC M' n n5 (tlF m price blur limit kn D) := by
  have h := hT.1.1
  have e8 := hT.1.2.1
  have hn := hT.1.2.2.2.1
  have e9 := hT.2.2.1.2.1
  have hT6 : T ≠ 6 := by rcases h.2.1 with e | e <;> omega
  obtain ⟨M', k1, k2, k3⟩ := x_tolls31 (X := X) (d := d) (D := D) hX hT hlim hl hkn n 0 X.1 (gs_sI (gs_sI (gs_sI m 6 7 (Int32.ofNat n)) 6 8 (Int32.ofNat n5)) 6 9 (Int32.ofNat (n5 + n))) (by omega) (by unfold gs_Fu at hX; omega) (wx_sI (wx_sI (wx_sI (wx_refl m) (Or.inl rfl)) (Or.inl rfl)) (Or.inl rfl)) (by rw [gs_sIn (Or.inr (by decide)), gs_sIn (Or.inr (by decide)), gs_sIe]) (by rw [gs_sIn (Or.inr (by decide)), gs_sIe]) (gs_sIe _ _ _ _) (fun g' c' _ z => by omega)
  refine ⟨M', ?_, wx_mono k2 (fun x i y => Or.inr (Or.inl (by unfold rsT rsH rsK at y; omega))), k3⟩
  rw [eq_X4_reckon]
  have q9 : (gs_sI m 6 7 (Int32.ofNat n)).2.1 T 9 = Int32.ofNat n5 := by rw [gs_sIn (Or.inl hT6)]; exact e9
  have q1 : (gs_sI (gs_sI m 6 7 (Int32.ofNat n)) 6 8 (Int32.ofNat n5)).2.1 6 8 = Int32.ofNat n5 := gs_sIe _ _ _ _
  have q2 : (gs_sI (gs_sI m 6 7 (Int32.ofNat n)) 6 8 (Int32.ofNat n5)).2.1 6 7 = Int32.ofNat n := by rw [gs_sIn (Or.inr (by decide)), gs_sIe]
  simp only [gs_fld_sI, fl_t0 h, fl_6 h, e8, q9, q1, q2, n_add]
  exact k1
/-- pairs kept are those of the state -/
def gs_CP (m : gs_M) (n n5 price blur limit kn : Nat) (D : Int32) : Prop := m.2.1 0 7 = 0 → gs_PC m n n5 (tlF m price blur limit kn D)
theorem x_reckonPairs (hX : gs_Fu X) (hT : gs_To m T n n0 n1 n2 n5 turn blur price) (hlim : limit ≤ 999) (hl : m.2.1 T 12 = Int32.ofNat limit) (hK : gs_Kn m n kn D) (hC : gs_CP m n n5 price blur limit kn D) : ∃ M, gs_exec X (d + 7) 168 [.inr (.inr 0)] m = gs_rU M ∧ gs_Wx rsP m M ∧ M.2.1 0 7 = 0 ∧ gs_PC M n n5 (tlF M price blur limit kn D) := by
  have h := hT.1.1
  rw [eq_X11_reckonPairs, fl_0 h]
  by_cases hz : m.2.1 0 7 = 0
  · rw [if_pos hz]
    exact ⟨m, rfl, wx_refl m, hz, hC hz⟩
  · obtain ⟨M, e, hW, hP⟩ := x_reckonP (X := X) (d := d) (D := D) hX hT hlim hl hK.2.1
    have hM := wd_sh h (wd_p hW)
    have hW2 : gs_Wx rsP m (gs_sI M 0 7 0) := wx_sI hW (Or.inr (Or.inr ⟨rfl, rfl⟩))
    refine ⟨gs_sI M 0 7 0, ?_, hW2, gs_sIe _ _ _ _, ?_⟩
    · rw [if_neg hz, fl_0 h, sh_0_1 h, gs_nn_s, fl_0 h, sh_told h, gs_nn_s, fl_0 h, x_trusted h hK, gs_bI_s, fl_6 h, e, gs_bU_s, fl_0 hM, gs_bt0]
    · rw [wd_tlF (wd_p hW2)]
      exact hP
end PRS
