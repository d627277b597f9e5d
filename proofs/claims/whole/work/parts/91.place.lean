/-! Luck: places drawn, clouds by place, pairs counted (the class). -/
def rsG (x i : Nat) : Prop := (x = 0 ∧ i = 4) ∨ x = 13 ∨ x = 15 ∨ (x = 6 ∧ i = 10)
/-- the seed after the first guests -/
def sd (m : gs_M) (s : Nat) : Nat → Nat
  | 0 => s
  | g + 1 => if gd m g 4 = -1 then sd m s g else nRoll (nRoll (sd m s g))
abbrev dX (m : gs_M) (s g : Nat) : Nat := nRoll (sd m s g) / 65536 % 120
abbrev dY (m : gs_M) (s g : Nat) : Nat := nRoll (nRoll (sd m s g)) / 65536 % 60
def f_pL (m : gs_M) (s g c : Nat) : Int32 := if gd m g 4 = -1 then 20 else f_apart (Int32.ofNat (dX m s g)) (Int32.ofNat (dY m s g)) (cd m c 0) (cd m c 1)
def nTL (m : gs_M) (blur s g c : Nat) : Nat := (f_pL m s g c + f_outA m blur g c / 10).toInt.toNat
def pm (t : Nat → Nat) (l : Nat) : Nat → Nat
  | 0 => 0
  | c + 1 => if l < t c then pm t l c else pm t l c ||| 2 ^ c
theorem pm_bit {t : Nat → Nat} {l j : Nat} : ∀ k, tB (pm t l k) j ↔ (j < k ∧ t j ≤ l)
  | 0 => by
    constructor
    · exact fun q => absurd q (nb0 j)
    · exact fun q => by omega
  | k + 1 => by
    have i := pm_bit (t := t) (l := l) (j := j) k
    show tB (if l < t k then pm t l k else pm t l k ||| 2 ^ k) j ↔ _
    by_cases z : l < t k
    · rw [if_pos z, i]
      constructor
      · exact fun q => ⟨by omega, q.2⟩
      · intro q
        by_cases e : j = k
        · rw [e] at q
          omega
        · exact ⟨by omega, q.2⟩
    · rw [if_neg z]
      show (pm t l k ||| 2 ^ k).testBit j = true ↔ _
      rw [tb_or]
      constructor
      · rintro (q | q)
        · have := i.mp q
          exact ⟨by omega, this.2⟩
        · rw [← q]
          exact ⟨by omega, by omega⟩
      · intro q
        by_cases e : k = j
        · exact Or.inr e
        · exact Or.inl (i.mpr ⟨by omega, q.2⟩)
section LK
variable {X : gs_E} {d : Nat} {m M : gs_M} {T n n0 n1 n2 n5 turn price blur limit kn k g c s : Nat} {D x y w : Int32} {tl tf : Nat → Nat → Nat} {dr : Nat → Nat}
theorem i_60 (z : Nat) : isIx (Int32.ofNat (z % 60)) 60 := by
  have := Nat.mod_lt z (show 60 > 0 by decide)
  rw [i_ix, gs_n32 (by omega)]
  show (0 : Int) ≤ _ ∧ _ < (60 : Int)
  omega
theorem f_cdy (hC : gs_CV m c) : isIx (cd m c 1) 60 := by
  rw [hC.1 1 (by decide), i_ix, gs_n32 (by have := hC.2.2.1; omega)]
  have := hC.2.2.1
  show (0 : Int) ≤ _ ∧ _ < (60 : Int)
  omega
theorem nTL_n (hT : gs_To m T n n0 n1 n2 n5 turn blur price) (hg : g < n) (hc : c < n5) : f_pL m s g c + f_outA m blur g c / 10 = Int32.ofNat (nTL m blur s g c) ∧ nTL m blur s g c ≤ 2000 := by
  obtain ⟨z, hz, ez⟩ := outA_n hT hg hc
  have hp : ∃ y, y ≤ 260 ∧ f_pL m s g c = Int32.ofNat y := by
    unfold f_pL
    by_cases hgt : gd m g 4 = -1
    · rw [if_pos hgt]
      exact ⟨20, by decide, rfl⟩
    · rw [if_neg hgt]
      have hV := hT.2.2.1.2.2.2.2.2.2.2.2 c hc
      have := f_apart_n (i_120 (nRoll (sd m s g) / 65536)) (f_cdx hV) (i_60 (nRoll (nRoll (sd m s g)) / 65536)) (f_cdy hV)
      exact ⟨_, by omega, this.1⟩
  obtain ⟨y, hy, ey⟩ := hp
  have e10 : Int32.ofNat z / (10 : Int32) = Int32.ofNat (z / 10) := n_div (b := 10) (by omega) (by decide)
  have e : f_pL m s g c + f_outA m blur g c / 10 = Int32.ofNat (y + z / 10) := by
    rw [ey, ez, e10, n_add]
  unfold nTL
  rw [e, f_nat rfl (by omega)]
  exact ⟨rfl, by omega⟩
theorem sd_wd (hW : gs_Wd m M) : ∀ g, sd M s g = sd m s g
  | 0 => rfl
  | g + 1 => by
    show (if gd M g 4 = -1 then sd M s g else nRoll (nRoll (sd M s g))) = if gd m g 4 = -1 then sd m s g else nRoll (nRoll (sd m s g))
    rw [sd_wd hW g]
    unfold gd
    rw [wd_cell hW 132 (by decide) (by decide)]
theorem nTL_wd (hW : gs_Wd m M) : nTL M blur s g c = nTL m blur s g c := by
  unfold nTL f_pL dX dY
  rw [sd_wd hW, wd_outA hW]
  unfold gd cd
  rw [wd_cell hW 132 (by decide) (by decide), wd_cell hW 133 (by decide) (by decide)]
theorem nTL_wf (hW : gs_Wd m M) : nTL M blur s g = nTL m blur s g := funext (fun _ => nTL_wd hW)
theorem x_bp_loop (hT : gs_To m T n n0 n1 n2 n5 turn blur price) (hlim : limit ≤ 999) (hl : m.2.1 T 12 = Int32.ofNat limit) (hg : g < n) (hxy : gd m g 4 ≠ -1 → x = Int32.ofNat (dX m s g) ∧ y = Int32.ofNat (dY m s g)) : ∀ (q c F : Nat), c + q = n5 → q < F →
    gs_iter X (gs_exec X (d + 2)) gT_X8_cloudsByPlace F 6 [(0, .inr (.inr T)), (1, .inr (.inr (T + (27 + g)))), (2, .inl x), (3, .inl y), (4, .inl (Int32.ofNat (pm (nTL m blur s g) limit c))), (5, .inl (Int32.ofNat c))] [] m = gs_rI (Int32.ofNat (pm (nTL m blur s g) limit n5)) m := by
  obtain ⟨⟨h, -, -, hn, h0, h1, h2, -, -, -, hR, -, hV⟩, hP, ⟨-, e9, -, hn5, -, -, -, hRC, hCV⟩, hp, -, bp⟩ := id hT
  have hg12 : g < 12 := by omega
  have r5 : m.2.1 (T + (27 + g)) 5 = gd m g 4 := hR g hg (5, 4) (by decide)
  intro q
  induction q with
  | zero =>
    intro c F hc hF
    obtain ⟨F, rfl⟩ : ∃ z, F = z + 1 := ⟨F - 1, by omega⟩
    rw [eq_X8_cloudsByPlace_6, fl_t0 h, e9, if_neg (by rw [gs_nlt (by omega) (by omega)]; omega), show c = n5 by omega]
  | succ q ih =>
    intro c F hc hF
    obtain ⟨F, rfl⟩ : ∃ z, F = z + 1 := ⟨F - 1, by omega⟩
    have i := ih (c + 1) F (by omega) (by omega)
    have hcn : c < n5 := by omega
    have hc10 : c < 10 := by omega
    have hr := (hRC c hcn).1
    obtain ⟨eT, bT⟩ := nTL_n (s := s) hT hg hcn
    unfold f_pL at eT
    have ep : pm (nTL m blur s g) limit (c + 1) = if limit < nTL m blur s g c then pm (nTL m blur s g) limit c else pm (nTL m blur s g) limit c ||| 2 ^ c := rfl
    have fin : (if Int32.ofNat limit < Int32.ofNat (nTL m blur s g c) then gs_iter X (gs_exec X (d + 2)) gT_X8_cloudsByPlace F 6 [(0, .inr (.inr T)), (1, .inr (.inr (T + (27 + g)))), (2, .inl x), (3, .inl y), (4, .inl (Int32.ofNat (pm (nTL m blur s g) limit c))), (5, .inl (Int32.ofNat (c + 1)))] [] m else gs_iter X (gs_exec X (d + 2)) gT_X8_cloudsByPlace F 6 [(0, .inr (.inr T)), (1, .inr (.inr (T + (27 + g)))), (2, .inl x), (3, .inl y), (4, .inl (Int32.ofNat (pm (nTL m blur s g) limit c ||| 2 ^ c))), (5, .inl (Int32.ofNat (c + 1)))] [] m) = gs_rI (Int32.ofNat (pm (nTL m blur s g) limit n5)) m := by
      by_cases z : limit < nTL m blur s g c
      · rw [if_pos z] at ep
        rw [if_pos ((gs_nlt (by omega) (by omega)).mpr z), ← ep]
        exact i
      · rw [if_neg z] at ep
        rw [if_neg (fun y => z ((gs_nlt (by omega) (by omega)).mp y)), ← ep]
        exact i
    rw [eq_X8_cloudsByPlace_6, fl_t0 h, e9, if_pos (by rw [gs_nlt (by omega) (by omega)]; omega)]
    simp only [fl_t0 h, sh_t0_7 h, gs_nn_s, x_cx h hc10, sh_cloud h hc10, fl_tg h hg12, r5, gs_ns, or_pow (show c ≤ 12 by omega)]
    by_cases hgt : gd m g 4 = -1
    · rw [if_pos hgt] at eT
      rw [if_pos hgt, fl_tc h hc10, x_yearsOutside (d := d + 1) h hR hRC hg hn hcn hn5, gs_bI_s, gs_nz_n (by decide), fl_t0 h, hl, eT]
      exact fin
    · rw [if_neg hgt] at eT
      obtain ⟨ex, ey⟩ := hxy hgt
      rw [if_neg hgt, fl_tc h hc10, fl_tc h hc10, hr 0 (by decide), hr 1 (by decide), x_apart (by rw [ex]; exact i_120 _) (f_cdx (hCV c hcn)), gs_bI_s, fl_tc h hc10, x_yearsOutside (d := d + 1) h hR hRC hg hn hcn hn5, gs_bI_s, gs_nz_n (by decide), fl_t0 h, hl, ex, ey, eT]
      rw [ex, ey] at fin
      exact fin
theorem x_byPlace (hX : gs_Fu X) (hT : gs_To m T n n0 n1 n2 n5 turn blur price) (hlim : limit ≤ 999) (hl : m.2.1 T 12 = Int32.ofNat limit) (hg : g < n) (hxy : gd m g 4 ≠ -1 → x = Int32.ofNat (dX m s g) ∧ y = Int32.ofNat (dY m s g)) : gs_exec X (d + 3) 101 [.inr (.inr T), .inr (.inr (T + (27 + g))), .inl x, .inl y] m = gs_rI (Int32.ofNat (pm (nTL m blur s g) limit n5)) m := by
  have hn5 := hT.2.2.1.2.2.2.1
  rw [eq_X8_cloudsByPlace]
  exact x_bp_loop hT hlim hl hg hxy n5 0 X.1 (by omega) (by unfold gs_Fu at hX; omega)
theorem wd_g (h : gs_Wx rsG m M) : gs_Wd m M := wx_mono h (fun x i q => by
  unfold rsG at q
  unfold rsD gs_rs
  omega)
/-- the masks of a drawing -/
def dm (m : gs_M) (blur limit kn : Nat) (D : Int32) (n5 s g : Nat) : Nat := if trd kn D g then pm (nTL m blur s g) limit n5 else 0
theorem x_dp_loop (hX : gs_Fu X) (hT : gs_To m T n n0 n1 n2 n5 turn blur price) (hlim : limit ≤ 999) (hl : m.2.1 T 12 = Int32.ofNat limit) (hK : gs_Kn m n kn D) : ∀ (q g F : Nat) (M : gs_M), g + q = n → q < F → gs_Wx rsG m M → M.2.1 0 4 = Int32.ofNat (sd m s g) → (∀ j, j < g → M.2.1 15 j = Int32.ofNat (dm m blur limit kn D n5 s j)) →
    ∃ M', gs_iter X (gs_exec X (d + 3)) gT_X11_drawPlaces F 7 [(0, .inr (.inr 0)), (1, .inl (trv kn D)), (2, .inl (Int32.ofNat g))] [] M = gs_rU M' ∧ gs_Wx rsG m M' ∧ M'.2.1 0 4 = Int32.ofNat (sd m s n) ∧ (∀ j, j < n → M'.2.1 15 j = Int32.ofNat (dm m blur limit kn D n5 s j)) := by
  have h := hT.1.1
  have hn := hT.1.2.2.2.1
  have hkn := hK.2.1
  intro q
  induction q with
  | zero =>
    intro g F M hg hF hW h9 hdm
    obtain ⟨F, rfl⟩ : ∃ z, F = z + 1 := ⟨F - 1, by omega⟩
    have hWd := wd_g hW
    have hM := wd_sh h hWd
    have e8 := (wd_to hT hWd).1.2.1
    have e : g = n := by omega
    rw [e] at h9 hdm
    refine ⟨M, ?_, hW, h9, hdm⟩
    rw [eq_X11_drawPlaces_7, fl_0 hM, sh_told hM, gs_nn_s, fl_t0 hM, e8, if_neg (by rw [gs_nlt (by omega) (by omega)]; omega)]
  | succ q ih =>
    intro g F M hg hF hW h9 hdm
    obtain ⟨F, rfl⟩ : ∃ z, F = z + 1 := ⟨F - 1, by omega⟩
    have hWd := wd_g hW
    have hTM := wd_to hT hWd
    have hM := hTM.1.1
    have e8 := hTM.1.2.1
    have hgn : g < n := by omega
    have hg12 : g < 12 := by omega
    have r5 : M.2.1 (T + (27 + g)) 5 = gd M g 4 := hTM.1.2.2.2.2.2.2.2.2.2.2.1 g hgn (5, 4) (by decide)
    have e4 : gd M g 4 = gd m g 4 := by
      unfold gd
      rw [wd_cell hWd 132 (by decide) (by decide)]
    have hb := tr_bit (kn := kn) (k := g) (D := D) (by omega) (by omega)
    have es : sd m s (g + 1) = if gd m g 4 = -1 then sd m s g else nRoll (nRoll (sd m s g)) := rfl
    have nxt : ∀ M1 : gs_M, gs_Wx rsG m M1 → M1.2.1 0 4 = Int32.ofNat (sd m s (g + 1)) → (∀ j, j < g → M1.2.1 15 j = M.2.1 15 j) → (∀ K : gs_M → gs_O, (if isBit (trv kn D) (Int32.ofNat g) then K (gs_sI M1 15 g (Int32.ofNat (pm (nTL m blur s g) limit n5))) else K (gs_sI M1 15 g 0)) = K (gs_sI M1 15 g (Int32.ofNat (dm m blur limit kn D n5 s g)))) ∧ (∃ M', gs_iter X (gs_exec X (d + 3)) gT_X11_drawPlaces F 7 [(0, .inr (.inr 0)), (1, .inl (trv kn D)), (2, .inl (Int32.ofNat (g + 1)))] [] (gs_sI M1 15 g (Int32.ofNat (dm m blur limit kn D n5 s g))) = gs_rU M' ∧ gs_Wx rsG m M' ∧ M'.2.1 0 4 = Int32.ofNat (sd m s n) ∧ (∀ j, j < n → M'.2.1 15 j = Int32.ofNat (dm m blur limit kn D n5 s j))) := by
      intro M1 w1 n9 n15
      refine ⟨fun K => ?_, ih (g + 1) F _ (by omega) (by omega) (wx_sI w1 (Or.inr (Or.inr (Or.inl rfl)))) (by rw [gs_sIn (Or.inl (by decide))]; exact n9) (fun j hj => ?_)⟩
      · unfold dm
        by_cases t : trd kn D g
        · rw [if_pos (hb.mpr t), if_pos t]
        · rw [if_neg (fun z => t (hb.mp z)), if_neg t]
          rfl
      · by_cases z : j = g
        · rw [z, gs_sIe]
        · rw [gs_sIn (Or.inr z), n15 j (by omega), hdm j (by omega)]
    rw [eq_X11_drawPlaces_7]
    simp only [fl_0 hM, sh_told hM, gs_nn_s, fl_t0 hM, e8, if_pos ((gs_nlt (show g < 2147483648 by omega) (show n < 2147483648 by omega)).mpr hgn), sh_t0_6 hM, x_gx hM hg12, sh_guest hM hg12, fl_tg hM hg12, r5, e4]
    by_cases hgt : gd m g 4 = -1
    · rw [if_pos hgt] at es
      obtain ⟨n1, M', n2, n3⟩ := nxt M hW (by rw [es]; exact h9) (fun _ _ => rfl)
      refine ⟨M', ?_, n3⟩
      rw [if_pos hgt]
      simp only [sh_0_1 hM, gs_nn_s, fl_6 hM, sh_6_12 hM, x_i15 hM hg12, x_byPlace (d := d) (s := s) (x := 0) (y := 0) hX hTM hlim (show M.2.1 T 12 = Int32.ofNat limit by rw [show M.2.1 T = m.2.1 T from wd_t h hWd 0 (by decide)]; exact hl) hgn (fun z => absurd (e4.trans hgt) z), gs_bI_s, gs_ns, nTL_wf hWd]
      exact (n1 _).trans n2
    · rw [if_neg hgt] at es
      have hW1 : gs_Wx rsG m (gs_sI M 0 4 (Int32.ofNat (nRoll (sd m s g)))) := wx_sI hW (Or.inl ⟨rfl, rfl⟩)
      have hW2 : gs_Wx rsG m (gs_sI (gs_sI M 0 4 (Int32.ofNat (nRoll (sd m s g)))) 0 4 (Int32.ofNat (nRoll (nRoll (sd m s g))))) := wx_sI hW1 (Or.inl ⟨rfl, rfl⟩)
      obtain ⟨n1, M', n2, n3⟩ := nxt _ hW2 (by rw [es]; exact gs_sIe _ _ _ _) (fun j _ => by rw [gs_sIn (Or.inl (by decide)), gs_sIn (Or.inl (by decide))])
      refine ⟨M', ?_, n3⟩
      have hM1 := wd_sh h (wd_g hW1)
      have hT2 := wd_to hT (wd_g hW2)
      have hM2 := hT2.1.1
      have l1 := nRoll_lt (sd m s g)
      have l2 := nRoll_lt (nRoll (sd m s g))
      have e1 : Int32.ofNat (nRoll (sd m s g) / 65536) - Int32.ofNat (nRoll (sd m s g) / 65536) / 120 * 120 = Int32.ofNat (nRoll (sd m s g) / 65536 % 120) := n_mod (b := 120) (by omega) (by decide)
      have e2 : Int32.ofNat (nRoll (nRoll (sd m s g)) / 65536) - Int32.ofNat (nRoll (nRoll (sd m s g)) / 65536) / 60 * 60 = Int32.ofNat (nRoll (nRoll (sd m s g)) / 65536 % 60) := n_mod (b := 60) (by omega) (by decide)
      have bp := x_byPlace (X := X) (d := d) (s := s) (g := g) (x := Int32.ofNat (dX m s g)) (y := Int32.ofNat (dY m s g)) hX hT2 hlim (by rw [show (gs_sI (gs_sI M 0 4 (Int32.ofNat (nRoll (sd m s g)))) 0 4 (Int32.ofNat (nRoll (nRoll (sd m s g))))).2.1 T = m.2.1 T from wd_t h (wd_g hW2) 0 (by decide)]; exact hl) hgn (fun _ => by
        unfold dX dY
        rw [sd_wd (wd_g hW2)]
        exact ⟨rfl, rfl⟩)
      rw [nTL_wf (wd_g hW2)] at bp
      unfold dX dY at bp
      rw [if_neg hgt, x_roll hM h9, gs_bI_s, gs_nz_n (by decide), fl_0 hM1, x_roll hM1 (gs_sIe _ _ _ _), gs_bI_s, gs_nz_n (by decide), e1, e2]
      simp only [fl_0 hM2, sh_0_1 hM2, gs_nn_s, fl_6 hM2, sh_6_12 hM2, sh_told hM2, fl_t0 hM2, bp, gs_bI_s, x_i15 hM2 hg12, gs_ns]
      exact (n1 _).trans n2
end LK
