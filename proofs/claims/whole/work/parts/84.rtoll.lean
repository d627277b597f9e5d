/-! Tolls in the reference, laid in rows. -/
def rsN (x i : Nat) : Prop := x = 116 ∧ (i = 49 ∨ i = 50 ∨ i = 54)
def rsL (x i : Nat) : Prop := rsN x i ∨ x = 148
theorem rsL_rs {x i : Nat} (h : rsL x i) : gs_rs x i := by
  unfold rsL rsN at h
  unfold gs_rs
  omega
theorem wl_r {m M : gs_M} (h : gs_Wx rsL m M) : gs_Wr m M := ⟨h.1, h.2.1, fun x i hn => h.2.2 x i (fun q => hn (rsL_rs q))⟩
section RTL
variable {X : gs_E} {d : Nat} {m M : gs_M} {T n n0 n1 n2 n5 turn price blur limit kn g c : Nat} {D x w : Int32}
theorem wn_lay {a b : Int32} (h : gs_Sh m T) (hW : gs_Wr m M) (hl : ∀ x i, (x ≠ 116 ∨ (i ≠ 49 ∧ i ≠ 50)) → M.2.1 x i = m.2.1 x i) : gs_Wx rsN m M := ⟨hW.1, hW.2.1, fun x i hn => hl x i (by
  unfold rsN at hn
  omega)⟩
theorem r_tollN (hX : gs_Fu X) (hT : gs_To m T n n0 n1 n2 n5 turn blur price) (hL : m.2.1 116 51 = 0) (hg : g < n) (hc : c < n5) :
    ∃ M, gs_exec X (d + 5) 264 [.inr (.inr 116), .inl (Int32.ofNat g), .inl (Int32.ofNat c)] m = gs_rI (f_tollA m price blur g c) M ∧ gs_Wx rsN m M := by
  have hn : n ≤ 12 := hT.1.2.2.2.1
  have hg12 : g < 12 := by omega
  obtain ⟨h, -, -, hn5, -, e3, bb, -, hCV⟩ := hT.2.2.1
  have hc10 : c < 10 := by omega
  obtain ⟨M, eM, hM, l49, l50, lx⟩ := r_layCloud (d := d + 1) hX h hc10 (hCV c hc) e3 bb
  have hT2 := wr_to hT hM
  have h2 := wr_sh h hM
  have hL2 : M.2.1 116 51 = 0 := (hM.2.2 116 51 (fun q => by unfold gs_rs at q; omega)).trans hL
  refine ⟨gs_sI M 116 54 (if gd M g 4 = -1 then -1 else Int32.ofNat (nBest (nT M price g c) (nW (gd M g 6)))), ?_, wx_sI (wn_lay (a := 0) (b := 0) h hM lx) ⟨rfl, Or.inr (Or.inr rfl)⟩⟩
  have g1 : M.2.1 132 (16 * g + 1) = gd m g 1 := wr_gd hM g 1
  have g13 : M.2.1 132 (16 * g + 13) = gd m g 13 := wr_gd hM g 13
  rw [eq_X12_tollOf, fl_116 h, eM, gs_bU_s]
  simp only [fl_116 h2, sh_116_26 h2, gs_nn_s, r_gx h2 hg12 (c := 1) (cl := 1) rfl (by decide), r_gx h2 hg12 (c := 13) (cl := 13) rfl (by decide), g1, g13, l49, l50, r_placeToll hX hT2 hL2 hg hc, gs_bI_s, gs_nz_n (show (10 : Int32) ≠ 0 by decide), wr_pt hM]
  unfold f_tollA f_outA f_out
  split
  · rfl
  · split <;> rfl
/-- by luck -/
def f_ptL (m : gs_M) (g c : Nat) : Int32 := if gd m g 4 = -1 then 20 else f_apart (m.2.1 146 g) (m.2.1 147 g) (cd m c 0) (cd m c 1)
def f_tollL (m : gs_M) (blur g c : Nat) : Int32 := f_ptL m g c + f_outA m blur g c / 10
theorem r_placeTollL (hT : gs_To m T n n0 n1 n2 n5 turn blur price) (hL : m.2.1 116 51 = 1) (hg : g < n) (hc : c < n5) :
    gs_exec X (d + 4) 263 [.inr (.inr 116), .inl (Int32.ofNat g), .inl (Int32.ofNat c)] m = gs_rI (f_ptL m g c) (gs_sI m 116 54 (-1)) := by
  obtain ⟨⟨h, -, -, hn, h0, h1, h2, -, -, -, hR, -, hV⟩, hP, ⟨-, -, -, hn5, -, -, -, hRC, hCV⟩, -, hp, bp⟩ := hT
  have hg12 : g < 12 := by omega
  have hc10 : c < 10 := by omega
  have hs : gs_Sh (gs_sI m 116 54 (-1)) T := h
  have e4 : gd (gs_sI m 116 54 (-1)) g 4 = gd m g 4 := rfl
  have eL : (gs_sI m 116 54 (-1)).2.1 116 51 = 1 := hL
  unfold f_ptL
  rw [eq_X12_placeToll, fl_116 h]
  show gs_fld (gs_sI m 116 54 (-1)) 116 11 _ = _
  rw [fl_116 hs, r_hasGate hs hg12, gs_bI_s, b2_if, e4]
  by_cases hgt : gd m g 4 = -1
  · rw [if_neg (fun q => q (by rw [hgt]; decide)), if_pos hgt]
  · have hgt2 : ¬ gd m g 4 < 0 := fun q => hgt ((f_gate (hV g hg) h1).mp q)
    rw [if_pos hgt2, if_neg hgt, fl_116 hs, eL, if_neg (show ¬ (1 : Int32) = 0 by decide)]
    simp only [fl_116 hs, sh_116_52 hs, sh_116_53 hs, sh_116_27 hs, gs_nn_s, gs_ixn hs.1 (show gs_ok 146 13 153 = true from rfl) (show g < 12 from hg12), gs_ixn hs.1 (show gs_ok 147 13 153 = true from rfl) (show g < 12 from hg12), r_cx0 hs hc10, r_cx hs hc10 (i := 1) (il := 1) rfl (by decide), r_apart, gs_bI_s]
    rfl
theorem r_tollL (hX : gs_Fu X) (hT : gs_To m T n n0 n1 n2 n5 turn blur price) (hL : m.2.1 116 51 = 1) (hg : g < n) (hc : c < n5) :
    ∃ M, gs_exec X (d + 5) 264 [.inr (.inr 116), .inl (Int32.ofNat g), .inl (Int32.ofNat c)] m = gs_rI (f_tollL m blur g c) M ∧ gs_Wx rsN m M := by
  have hn : n ≤ 12 := hT.1.2.2.2.1
  have hg12 : g < 12 := by omega
  obtain ⟨h, -, -, hn5, -, e3, bb, -, hCV⟩ := hT.2.2.1
  have hc10 : c < 10 := by omega
  obtain ⟨M, eM, hM, l49, l50, lx⟩ := r_layCloud (d := d + 1) hX h hc10 (hCV c hc) e3 bb
  have hT2 := wr_to hT hM
  have h2 := wr_sh h hM
  have hL2 : M.2.1 116 51 = 1 := (hM.2.2 116 51 (fun q => by unfold gs_rs at q; omega)).trans hL
  have ept : f_ptL M g c = f_ptL m g c := by
    unfold f_ptL cd
    rw [wr_gd hM, wr_cell hM 133 (by decide) (by decide), lx 146 g (Or.inl (by decide)), lx 147 g (Or.inl (by decide))]
  refine ⟨gs_sI M 116 54 (-1), ?_, wx_sI (wn_lay (a := 0) (b := 0) h hM lx) ⟨rfl, Or.inr (Or.inr rfl)⟩⟩
  have g1 : M.2.1 132 (16 * g + 1) = gd m g 1 := wr_gd hM g 1
  have g13 : M.2.1 132 (16 * g + 13) = gd m g 13 := wr_gd hM g 13
  rw [eq_X12_tollOf, fl_116 h, eM, gs_bU_s]
  simp only [fl_116 h2, sh_116_26 h2, gs_nn_s, r_gx h2 hg12 (c := 1) (cl := 1) rfl (by decide), r_gx h2 hg12 (c := 13) (cl := 13) rfl (by decide), g1, g13, l49, l50, r_placeTollL hT2 hL2 hg hc, gs_bI_s, gs_nz_n (show (10 : Int32) ≠ 0 by decide), ept]
  unfold f_tollL f_outA f_out
  split
  · rfl
  · split <;> rfl
/-- what a toll is worth in the rows -/
def tlx (tf : Nat → Nat → Nat) (limit kn : Nat) (D : Int32) (g c : Nat) : Nat := if trd kn D g ∧ tf g c ≤ limit then tf g c else 100000
theorem r_i148 {M : gs_M} (h : gs_Sh M T) (hg : g < 12) (hc : c < 10) {K : Nat → gs_O} : gs_ix M 148 13 (((10 : Int32) * Int32.ofNat g) + Int32.ofNat c) K = K (10 * g + c) := by
  show gs_ix M 148 13 (Int32.ofNat 10 * Int32.ofNat g + Int32.ofNat c) K = _
  rw [n_mul, n_add]
  exact gs_ixn h.1 rfl (by show _ < 120; omega)
theorem r_tolls14 {tf : Nat → Nat → Nat} (h : gs_Sh m T) (e3 : m.2.1 119 3 = Int32.ofNat n) (e5 : m.2.1 119 5 = Int32.ofNat n5) (hn : n ≤ 12) (hn5 : n5 ≤ 10) (e2 : m.2.1 122 2 = Int32.ofNat limit) (hlim : limit ≤ 999) (hK : gs_Kn m n kn D) (htf : ∀ g c, g < n → c < n5 → tf g c ≤ 3000) (hst : ∀ M g c, gs_Wx rsL m M → g < n → c < n5 → ∃ M', gs_exec X (d + 5) 264 [.inr (.inr 116), .inl (Int32.ofNat g), .inl (Int32.ofNat c)] M = gs_rI (Int32.ofNat (tf g c)) M' ∧ gs_Wx rsN M M') (hg : g < n) :
    ∀ (q c F : Nat) (M : gs_M), c + q = n5 → gs_Wx rsL m M → (∀ g' c', c' < n5 → (g' < g ∨ (g' = g ∧ c' < c)) → M.2.1 148 (10 * g' + c') = Int32.ofNat (tlx tf limit kn D g' c')) →
      ∃ M', gs_iter X (gs_exec X (d + 5)) gT_X12_layTolls (F + q + 1) 14 [(0, .inr (.inr 116)), (1, .inl (Int32.ofNat g)), (2, .inl (Int32.ofNat c))] [] M = gs_iter X (gs_exec X (d + 5)) gT_X12_layTolls F 2 [(0, .inr (.inr 116)), (1, .inl (Int32.ofNat (g + 1)))] [] M' ∧ gs_Wx rsL m M' ∧ (∀ g' c', c' < n5 → g' < g + 1 → M'.2.1 148 (10 * g' + c') = Int32.ofNat (tlx tf limit kn D g' c')) := by
  have i5 : ∀ (M : gs_M), gs_Sh M T → ∀ K : Nat → gs_O, gs_ix M 119 13 5 K = K 5 := fun M hM K => gs_ixe hM.1 rfl rfl
  have i2 : ∀ (M : gs_M), gs_Sh M T → ∀ K : Nat → gs_O, gs_ix M 122 13 2 K = K 2 := fun M hM K => gs_ixe hM.1 rfl rfl
  intro q
  induction q with
  | zero =>
    intro c F M hc hW hcl
    have hM := wr_sh h (wl_r hW)
    have e5M : M.2.1 119 5 = Int32.ofNat n5 := by rw [wr_cell (wl_r hW) 119 (by decide) (by decide)]; exact e5
    refine ⟨M, ?_, hW, fun g' c' a b => hcl g' c' a (by omega)⟩
    show gs_iter X (gs_exec X (d + 5)) gT_X12_layTolls (F + 1) 14 _ [] M = _
    rw [eq_X12_layTolls_14, fl_116 hM, sh_116_12 hM, gs_nn_s, i5 M hM, e5M, if_neg (fun y => by have := (gs_nlt (by omega) (by omega)).mp y; omega), gs_ns]
  | succ q ih =>
    intro c F M hc hW hcl
    have hcn : c < n5 := by omega
    have hM := wr_sh h (wl_r hW)
    have e5M : M.2.1 119 5 = Int32.ofNat n5 := by rw [wr_cell (wl_r hW) 119 (by decide) (by decide)]; exact e5
    have e3M : M.2.1 119 3 = Int32.ofNat n := by rw [wr_cell (wl_r hW) 119 (by decide) (by decide)]; exact e3
    have goOn : ∀ (M2 : gs_M), gs_Wx rsL m M2 → M2.2.1 148 = M.2.1 148 → ∃ M', gs_iter X (gs_exec X (d + 5)) gT_X12_layTolls (F + q + 1) 14 [(0, .inr (.inr 116)), (1, .inl (Int32.ofNat g)), (2, .inl (Int32.ofNat (c + 1)))] [] (gs_sI M2 148 (10 * g + c) (Int32.ofNat (tlx tf limit kn D g c))) = gs_iter X (gs_exec X (d + 5)) gT_X12_layTolls F 2 [(0, .inr (.inr 116)), (1, .inl (Int32.ofNat (g + 1)))] [] M' ∧ gs_Wx rsL m M' ∧ (∀ g' c', c' < n5 → g' < g + 1 → M'.2.1 148 (10 * g' + c') = Int32.ofNat (tlx tf limit kn D g' c')) := by
      intro M2 hW2 h148
      refine ih (c + 1) F _ (by omega) (wx_sI hW2 (Or.inr rfl)) (fun g' c' a b => ?_)
      by_cases e : 10 * g' + c' = 10 * g + c
      · have e1 : g' = g := by omega
        have e2 : c' = c := by omega
        rw [e1, e2, gs_sIe]
      · rw [gs_sIn (Or.inr e), h148]
        exact hcl g' c' a (by omega)
    show ∃ M', gs_iter X (gs_exec X (d + 5)) gT_X12_layTolls (F + q + 1 + 1) 14 _ [] M = _ ∧ _
    rw [eq_X12_layTolls_14, fl_116 hM, sh_116_12 hM, gs_nn_s, i5 M hM, e5M, if_pos ((gs_nlt (by omega) (by omega)).mpr (by omega)), fl_116 hM, r_counts (d := d + 3) hM (wd_kn hK (wd_r (wl_r hW))) e3M hn hg, gs_bI_s, b2_if, gs_ns]
    by_cases t : trd kn D g
    · obtain ⟨M2, ev, hN⟩ := hst M g c hW hg hcn
      have hW2 : gs_Wx rsL m M2 := wx_trans hW (wx_mono hN (fun _ _ y => Or.inl y))
      have hM2 := wr_sh h (wl_r hW2)
      have e2M : M2.2.1 122 2 = Int32.ofNat limit := by rw [wr_cell (wl_r hW2) 122 (by decide) (by decide)]; exact e2
      have h148 : M2.2.1 148 = M.2.1 148 := funext fun i => hN.2.2 148 i (fun y => by unfold rsN at y; omega)
      have hb := htf g c hg hcn
      have go := goOn M2 hW2 h148
      rw [if_pos t, fl_116 hM, ev, gs_bI_s, fl_116 hM2, sh_116_55 hM2, gs_nn_s, fl_116 hM2, sh_116_15 hM2, gs_nn_s, i2 M2 hM2, e2M, r_i148 hM2 (by omega) (by omega), r_i148 hM2 (by omega) (by omega)]
      unfold tlx at go ⊢
      by_cases y : tf g c ≤ limit
      · rw [if_neg (fun z => by have := (gs_nlt (by omega) (by omega)).mp z; omega)]
        rw [if_pos (show trd kn D g ∧ tf g c ≤ limit from ⟨t, y⟩)] at go
        exact go
      · rw [if_pos ((gs_nlt (by omega) (by omega)).mpr (by omega))]
        rw [if_neg (show ¬ (trd kn D g ∧ tf g c ≤ limit) from fun z => y z.2)] at go
        exact go
    · have go := goOn M hW rfl
      rw [if_neg t, fl_116 hM, sh_116_55 hM, gs_nn_s, fl_116 hM, sh_116_15 hM, gs_nn_s, i2 M hM, r_i148 hM (by omega) (by omega), ite_self]
      unfold tlx at go ⊢
      rw [if_neg (show ¬ (trd kn D g ∧ tf g c ≤ limit) from fun z => t z.1)] at go
      exact go
theorem r_tolls2 {tf : Nat → Nat → Nat} (h : gs_Sh m T) (e3 : m.2.1 119 3 = Int32.ofNat n) (e5 : m.2.1 119 5 = Int32.ofNat n5) (hn : n ≤ 12) (hn5 : n5 ≤ 10) (e2 : m.2.1 122 2 = Int32.ofNat limit) (hlim : limit ≤ 999) (hK : gs_Kn m n kn D) (htf : ∀ g c, g < n → c < n5 → tf g c ≤ 3000) (hst : ∀ M g c, gs_Wx rsL m M → g < n → c < n5 → ∃ M', gs_exec X (d + 5) 264 [.inr (.inr 116), .inl (Int32.ofNat g), .inl (Int32.ofNat c)] M = gs_rI (Int32.ofNat (tf g c)) M' ∧ gs_Wx rsN M M') :
    ∀ (q g F : Nat) (M : gs_M), g + q = n → (q + 1) * 14 ≤ F → gs_Wx rsL m M → (∀ g' c', c' < n5 → g' < g → M.2.1 148 (10 * g' + c') = Int32.ofNat (tlx tf limit kn D g' c')) →
      ∃ M', gs_iter X (gs_exec X (d + 5)) gT_X12_layTolls F 2 [(0, .inr (.inr 116)), (1, .inl (Int32.ofNat g))] [] M = gs_rU M' ∧ gs_Wx rsL m M' ∧ (∀ g' c', c' < n5 → g' < n → M'.2.1 148 (10 * g' + c') = Int32.ofNat (tlx tf limit kn D g' c')) := by
  have i3 : ∀ (M : gs_M), gs_Sh M T → ∀ K : Nat → gs_O, gs_ix M 119 13 3 K = K 3 := fun M hM K => gs_ixe hM.1 rfl rfl
  intro q
  induction q with
  | zero =>
    intro g F M hg hF hW hcl
    obtain ⟨F, rfl⟩ : ∃ y, F = y + 1 := ⟨F - 1, by omega⟩
    have hM := wr_sh h (wl_r hW)
    have e3M : M.2.1 119 3 = Int32.ofNat n := by rw [wr_cell (wl_r hW) 119 (by decide) (by decide)]; exact e3
    refine ⟨M, ?_, hW, fun g' c' a b => hcl g' c' a (by omega)⟩
    rw [eq_X12_layTolls_2, fl_116 hM, sh_116_12 hM, gs_nn_s, i3 M hM, e3M, if_neg (fun y => by have := (gs_nlt (by omega) (by omega)).mp y; omega)]
  | succ q ih =>
    intro g F M hg hF hW hcl
    obtain ⟨F, rfl⟩ : ∃ y, F = y + n5 + 1 + 1 := ⟨F - (n5 + 2), by omega⟩
    have hM := wr_sh h (wl_r hW)
    have e3M : M.2.1 119 3 = Int32.ofNat n := by rw [wr_cell (wl_r hW) 119 (by decide) (by decide)]; exact e3
    obtain ⟨M1, k1, k2, k3⟩ := r_tolls14 (X := X) (d := d) h e3 e5 hn hn5 e2 hlim hK htf hst (show g < n by omega) n5 0 F M (by omega) hW (fun g' c' a b => hcl g' c' a (by omega))
    obtain ⟨M', j1, j2, j3⟩ := ih (g + 1) F M1 (by omega) (by omega) k2 k3
    refine ⟨M', ?_, j2, j3⟩
    rw [eq_X12_layTolls_2, fl_116 hM, sh_116_12 hM, gs_nn_s, i3 M hM, e3M, if_pos ((gs_nlt (by omega) (by omega)).mpr (by omega))]
    exact k1.trans j1
theorem r_layTolls {tf : Nat → Nat → Nat} (hX : gs_Fu X) (h : gs_Sh m T) (e3 : m.2.1 119 3 = Int32.ofNat n) (e5 : m.2.1 119 5 = Int32.ofNat n5) (hn : n ≤ 12) (hn5 : n5 ≤ 10) (e2 : m.2.1 122 2 = Int32.ofNat limit) (hlim : limit ≤ 999) (hK : gs_Kn m n kn D) (htf : ∀ g c, g < n → c < n5 → tf g c ≤ 3000) (hst : ∀ M g c, gs_Wx rsL m M → g < n → c < n5 → ∃ M', gs_exec X (d + 5) 264 [.inr (.inr 116), .inl (Int32.ofNat g), .inl (Int32.ofNat c)] M = gs_rI (Int32.ofNat (tf g c)) M' ∧ gs_Wx rsN M M') : ∃ M', gs_exec X (d + 6) 269 [.inr (.inr 116)] m = gs_rU M' ∧ gs_Wx rsL m M' ∧ (∀ g' c', c' < n5 → g' < n → M'.2.1 148 (10 * g' + c') = Int32.ofNat (tlx tf limit kn D g' c')) := by
  rw [eq_X12_layTolls]
  exact r_tolls2 h e3 e5 hn hn5 e2 hlim hK htf hst n 0 X.1 m (by omega) (by unfold gs_Fu at hX; omega) (wx_refl m) (fun g' c' _ z => by omega)
end RTL
