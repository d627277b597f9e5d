/-! text: from the state and into it. -/
theorem rI_inj {v v' : Int32} {m m' : gs_M} (h : gs_rI v m = gs_rI v' m') : v = v' ∧ m = m' := by
  unfold gs_rI at h
  simp only [Option.some.injEq, Prod.mk.injEq, Sum.inl.injEq] at h
  exact h
section TXT
variable {X : gs_E} {m M : gs_M} {T S n n0 n1 n2 n5 n6 n7 n8 turn price limit blur kn z t : Nat} {D a : Int32} {A A0 B : Nat → Nat → Int32} {c1 E : Nat → Int32}
theorem bl_rl (hM : gs_Sh M S) (hA : ∀ a i, a < 49 → M.2.1 (S + a) i = A a i) (h1 : ∀ k, k < 9 → M.2.1 119 k = B 1 k) (h4 : ∀ k, k < 4 → M.2.1 122 k = B 4 k) (hB : ∀ j k, j < 18 → k < wdr j → M.2.1 (124 + j) k = B (5 + j) (wdr j + k)) (hR : gs_Rl A0 B c1 E n0 n1 n2 n n5 n6 n7 n8) (hb : B 4 3 = Int32.ofNat blur) (hbl : blur < 100) (hP : gs_BP A A0 B blur n5) : ∃ turn price limit, gs_Bl M S n n0 n1 n2 n5 n6 n7 n8 turn price limit blur := by
  obtain ⟨⟨⟨a0, a1, a2, a3, a5, a6, a7, a8⟩, ⟨b0, b1, b2, b3, b5, b6, b7, b8⟩, l0, l1, l2, l3, l5, l6, l7, l8⟩, rR, rP, rBk, rG, rC, rW, rK, rS, ⟨⟨u0, tu, htu, etu⟩, ⟨u1, pr, hpr, epr⟩, ⟨u2, li, hli, eli⟩, ⟨u3, -⟩, -⟩, -, -⟩ := hR
  have hA0 : ∀ a i, a < 49 → ¬ (39 ≤ a ∧ a < 49 ∧ (i = 9 ∨ i = 10)) → M.2.1 (S + a) i = A0 a i := fun a i ha hn => (hA a i ha).trans (hP.1 a i hn)
  have r124 : ∀ k, k < 8 → M.2.1 124 k = B 5 (8 + k) := fun k hk => hB 0 k (by decide) hk
  have r125 : ∀ k, k < 8 → M.2.1 125 k = B 6 (8 + k) := fun k hk => hB 1 k (by decide) hk
  have r126 : ∀ k, k < 8 → M.2.1 126 k = B 7 (8 + k) := fun k hk => hB 2 k (by decide) hk
  have r127 : ∀ k, k < 10 → M.2.1 127 k = B 8 (10 + k) := fun k hk => hB 3 k (by decide) hk
  have r128 : ∀ k, k < 10 → M.2.1 128 k = B 9 (10 + k) := fun k hk => hB 4 k (by decide) hk
  have r129 : ∀ k, k < 10 → M.2.1 129 k = B 10 (10 + k) := fun k hk => hB 5 k (by decide) hk
  have r130 : ∀ k, k < 8 → M.2.1 130 k = B 11 (8 + k) := fun k hk => hB 6 k (by decide) hk
  have r131 : ∀ k, k < 8 → M.2.1 131 k = B 12 (8 + k) := fun k hk => hB 7 k (by decide) hk
  have r134 : ∀ k, k < 6 → M.2.1 134 k = B 15 (6 + k) := fun k hk => hB 10 k (by decide) hk
  have r135 : ∀ k, k < 6 → M.2.1 135 k = B 16 (6 + k) := fun k hk => hB 11 k (by decide) hk
  have r136 : ∀ k, k < 6 → M.2.1 136 k = B 17 (6 + k) := fun k hk => hB 12 k (by decide) hk
  have r137 : ∀ k, k < 6 → M.2.1 137 k = B 18 (6 + k) := fun k hk => hB 13 k (by decide) hk
  have r138 : ∀ k, k < 18 → M.2.1 138 k = B 19 (18 + k) := fun k hk => hB 14 k (by decide) hk
  have r139 : ∀ k, k < 64 → M.2.1 139 k = B 20 (64 + k) := fun k hk => hB 15 k (by decide) hk
  have r140 : ∀ k, k < 64 → M.2.1 140 k = B 21 (64 + k) := fun k hk => hB 16 k (by decide) hk
  have r141 : ∀ k, k < 64 → M.2.1 141 k = B 22 (64 + k) := fun k hk => hB 17 k (by decide) hk
  have hgd : ∀ g i, g < 12 → i < 16 → gd M g i = bg B g i := fun g i hg hi => by
    have q : M.2.1 132 (16 * g + i) = B 13 (192 + (16 * g + i)) := hB 8 (16 * g + i) (by decide) (by show 16 * g + i < 192; omega)
    rw [← Nat.add_assoc] at q
    exact q
  have hcd : ∀ c i, c < 10 → i < 9 → cd M c i = bc B c i := fun c i hc hi => by
    have q : M.2.1 133 (9 * c + i) = B 14 (90 + (9 * c + i)) := hB 9 (9 * c + i) (by decide) (by show 9 * c + i < 90; omega)
    rw [← Nat.add_assoc] at q
    exact q
  have hcn : ∀ c i, c < 10 → i < 9 → cn M c i = bN (bc B c) i := fun c i hc hi => by
    unfold cn
    rw [hcd c i hc hi]
  have hG : gs_Ga M S n n0 n1 n2 tu := by
    refine ⟨hM, (hA0 0 8 (by decide) (by decide)).trans a3, (h1 3 (by decide)).trans b3, l3, l0, l1, l2, (hA0 0 10 (by decide) (by decide)).trans (u0.trans etu), (h4 0 (by decide)).trans etu, htu, fun g hg p hp => ?_, fun k hk => ?_, fun g hg => gVl_c (b := bg B g) (b' := gd M g) (fun i hi => hgd g i (by omega) hi) (rG g hg).2.2⟩
    · rw [hA0 (27 + g) p.1 (by omega) (by omega), hgd g p.2 (by omega) (cm_b p hp)]
      exact (rG g hg).1 p hp
    · rw [hA0 2 k (by decide) (by omega), hA0 3 k (by decide) (by omega), hA0 4 k (by decide) (by omega), r124 k (by omega), r125 k (by omega), r126 k (by omega)]
      exact rR k hk
  have hRP : gs_RP M S n n1 := by
    refine ⟨fun k hk => ?_, fun g hg => ?_⟩
    · rw [hA0 6 k (by decide) (by omega), hA0 7 k (by decide) (by omega), hA0 8 k (by decide) (by omega), r127 k (by omega), r128 k (by omega), r129 k (by omega)]
      exact rP k hk
    · rw [hA0 (27 + g) 8 (by omega) (by omega), hA0 (27 + g) 9 (by omega) (by omega), hgd g 6 (by omega) (by decide)]
      exact (rG g hg).2.1
  have hCa : gs_Ca M S n5 blur := by
    refine ⟨hM, (hA0 0 9 (by decide) (by decide)).trans a5, (h1 5 (by decide)).trans b5, l5, (hA0 0 13 (by decide) (by decide)).trans (u3.trans hb), (h4 3 (by decide)).trans hb, hbl, fun c hc => ⟨fun i hi => ?_, ?_, ?_⟩, fun c hc => cVl_c (b := bc B c) (b' := cd M c) (fun i hi => hcd c i (by omega) hi) (rC c hc).2⟩
    · rw [hA0 (39 + c) i (by omega) (by omega), hcd c i (by omega) hi]
      exact (rC c hc).1 i hi
    · rw [hA (39 + c) 9 (by omega), hcn c 2 (by omega) (by decide), hcn c 3 (by omega) (by decide), hcn c 4 (by omega) (by decide), hcn c 5 (by omega) (by decide)]
      exact (hP.2 c hc).1
    · rw [hA (39 + c) 10 (by omega), hcn c 2 (by omega) (by decide), hcn c 3 (by omega) (by decide), hcn c 4 (by omega) (by decide), hcn c 5 (by omega) (by decide), hcn c 6 (by omega) (by decide)]
      exact (hP.2 c hc).2
  have hK : gs_RK M S n8 := fun k hk => by
    have q := rK k hk
    unfold kj pj oj
    unfold kB pB oB at q
    rw [r139 k (by omega), r140 k (by omega), r141 k (by omega), hA0 18 k (by decide) (by omega), hA0 19 k (by decide) (by omega)]
    exact q
  refine ⟨tu, pr, li, ⟨hG, hRP, hCa, (hA0 0 11 (by decide) (by decide)).trans (u1.trans epr), (h4 1 (by decide)).trans epr, hpr⟩, ⟨(hA0 0 12 (by decide) (by decide)).trans (u2.trans eli), (h4 2 (by decide)).trans eli, by omega⟩, ⟨hG, (hA0 13 3 (by decide) (by decide)).trans a6, (h1 6 (by decide)).trans b6, l6, (hA0 17 3 (by decide) (by decide)).trans a8, (h1 8 (by decide)).trans b8, l8, hK, fun s hs => ?_⟩, fun k hk => ?_, fun k hk => ?_, fun k hk => ?_, l7, ⟨(hA0 1 3 (by decide) (by decide)).trans a0, (hA0 5 3 (by decide) (by decide)).trans a1, (hA0 9 3 (by decide) (by decide)).trans a2, (hA0 21 3 (by decide) (by decide)).trans a7⟩, (h1 0 (by decide)).trans b0, (h1 1 (by decide)).trans b1, (h1 2 (by decide)).trans b2, (h1 7 (by decide)).trans b7⟩
  · obtain ⟨q1, q2, q3, q4, q5, q6, q7, q8, q9, q10, q11⟩ := rS.1 s hs
    have eb : ∀ t, t ≤ s → sbg M t = sbB B t := fun t ht => by unfold sbg; rw [r136 t (by omega)]
    have ee : ∀ t, t ≤ s → sen M t = seB B t := fun t ht => by unfold sen; rw [r137 t (by omega)]
    rw [hA0 14 s (by decide) (by omega), hA0 15 s (by decide) (by omega), hA0 16 s (by decide) (by omega), r134 s (by omega), r135 s (by omega), r136 s (by omega), r137 s (by omega), eb s (Nat.le_refl _), ee s (Nat.le_refl _)]
    refine ⟨q1, q2, q3, q4, q5, q6, q7, q8, q9, fun t ht => ?_, ?_⟩
    · rw [ee t (by omega)]
      exact q10 t ht
    · rw [← q11]
      refine gs_wks_c _ (fun i h1 h2 => ?_)
      unfold kj pj oj
      rw [r139 i (by omega), r140 i (by omega), r141 i (by omega)]
      exact ⟨rfl, rfl, rfl⟩
  · rw [hA0 10 k (by decide) (by omega), hA0 11 k (by decide) (by omega), r130 k (by omega), r131 k (by omega)]
    exact rBk k hk
  · rw [hA0 22 k (by decide) (by omega), hA0 23 k (by decide) (by omega), hA0 24 k (by decide) (by omega), r138 (3 * k) (by omega), r138 (3 * k + 1) (by omega), r138 (3 * k + 2) (by omega), ← Nat.add_assoc, ← Nat.add_assoc]
    exact ⟨(rW k hk).1, (rW k hk).2.1, (rW k hk).2.2.1⟩
  · rw [r138 (3 * k + 2) (by omega), ← Nat.add_assoc]
    exact (rW k hk).2.2.2
theorem xf_sx {mx : gs_M} (h : gs_Sh m T) (hS : S = 85 - T) (hx : gs_Xf S m mx) : gs_Sx mx T S := by
  have s := sx_of h hS
  refine ⟨?_, hS, ?_⟩
  · have s1 := s.1
    unfold gs_Sh at s1 ⊢
    rw [hx.1, hx.2.1]
    exact s1
  · rw [hx.2.1]
    exact s.2.2
theorem x_mc (hX : gs_Fu X) (h : gs_Sz m T n n0 n1 n2 n5 n6 n7 n8 turn price limit blur kn z D) {b : Nat} (ea : a = Int32.ofNat b) (hb : b ≤ z) : ∃ v mc TR, gs_exec X 39 118 [.inr (.inr 0), .inl a] m = gs_rI v mc ∧ gs_Sh mc TR ∧ ∀ x i, ¬ (rsPx (85 - T) x i ∨ x = 0) → mc.2.1 x i = m.2.1 x i := by
  have h0 := sz_sh h
  have hT := h0.2.1
  obtain ⟨hTp, hL, hD, hN, f1, f2⟩ := h.2.2.2.2.2
  rcases j_text (X := X) (d := 30) (d' := 29) (S := 85 - T) (mr := m) (TR := T) hX h0 rfl h0 ea hb hTp hTp.2.1 (fun _ _ => rfl) hL hD hN with ⟨mx, mr', j1, j2, j3, -⟩ | ⟨k, mx, mr', M, A, A0, B, c1, E, p0, p1, p2, p3, p5, p6, p7, p8, bl, j1, j2, j3, j4, -⟩
  · exact ⟨_, _, T, j1, (xf_sx h0 rfl j3).1, fun x i hx => j3.2.2.1 x i (fun y => hx (Or.inl y))⟩
  · have w := wp_sh (xf_sx h0 rfl j4)
    unfold gs_wp at w
    rw [show 85 - (85 - T) = T by omega] at w
    refine ⟨_, _, 85 - T, j1, w, fun x i hx => ?_⟩
    rw [gs_sIn (by omega), gs_sIn (by omega), gs_sIn (by omega), gs_sIn (by omega)]
    exact j4.2.2.1 x i (fun y => hx (Or.inl y))
theorem q_textA (hX : gs_Fu X) (hc : gs_Ct t m) (h : gs_Sz m T n n0 n1 n2 n5 n6 n7 n8 turn price limit blur kn z D) {b : Nat} (ea : a = Int32.ofNat b) (hb : b ≤ z) : gs_Q2 X 39 118 210 [.inl a] m (gs_Iv (t + 1)) := by
  have h0 := sz_sh h
  have hT := h0.2.1
  obtain ⟨hTp, hL, hD, hN, f1, f2⟩ := h.2.2.2.2.2
  obtain ⟨v, mc, TR, e1, hmc, fr⟩ := x_mc (a := a) hX h ea hb
  have no : ∀ x i, 116 ≤ x → mc.2.1 x i = m.2.1 x i := fun x i hx => fr x i (fun q => by unfold rsPx at q; omega)
  rcases j_text (X := X) (d := 30) (d' := 29) (S := 85 - T) (mr := mc) (TR := TR) hX h0 rfl hmc ea hb hTp ((no 116 1 (by omega)).trans hTp.2.1) (fun j _ => no 117 j (by omega)) hL (fun j hj => (no 118 j (by omega)).trans (hD j hj)) (fun k hk => (no 121 k (by omega)).trans (hN k hk)) with ⟨mx, mr', j1, j2, xf, w, g1, g2, g3⟩ | ⟨k, mx, mr', M, A, A0, B, c1, E, p0, p1, p2, p3, p5, p6, p7, p8, bl, j1, j2, kp, xf, w, g1, ⟨y1, y2, y3, y4⟩, hA, hB, rl, ⟨hb3, hbl⟩, bp⟩
  · obtain ⟨rfl, rfl⟩ := rI_inj (e1.symm.trans j1)
    have sx := xf_sx h0 rfl xf
    have hM : gs_Sh mr' T := wc_sh (show gs_Sh (gs_gb mx) T from sx.1) w
    have frM : ∀ x i, ¬ rsIo (85 - T) x i → mr'.2.1 x i = m.2.1 x i := fun x i hx => (w.2.2 x i (fun q => hx (rsQx_io q))).trans (xf.2.2.1 x i (fun q => hx (rsPx_io q)))
    have fm : ∀ x i, x < 116 → mr'.2.1 x i = mx.2.1 x i := fun x i hx => w.2.2 x i (fun q => by unfold rsQx upr at q; omega)
    refine ⟨_, _, mr', j1, j2, sx.1.1, ⟨⟨_, _, _, _, _, _, _, _, _, _, _, _, _, _, 0, _, sz_io (S := 85 - T) h hM rfl frM ⟨⟨?_, g1, by decide, fun j hj => absurd hj (Nat.not_lt_zero _)⟩, fun k hk => ?_, fun j hj => ?_, fun k hk => ?_, ?_, ?_⟩⟩, ct_gb hc ?_⟩⟩
    · rw [fm 3 4 (by decide)]
      exact xf.2.2.2
    · rw [frM 5 k (fun q => by unfold rsIo upr at q; omega)]
      exact hL k hk
    · rw [frM 118 j (fun q => by unfold rsIo upr at q; omega)]
      exact hD j hj
    · rw [frM 121 k (fun q => by unfold rsIo upr at q; omega)]
      exact hN k hk
    · rw [fm 1 9 (by decide)]
      exact g2
    · rw [fm 1 10 (by decide)]
      exact g3
    · rw [w.1]
      show (mx.1.1, mx.1.2.1 + 1, mx.1.2.2 + 6) = (m.1.1, m.1.2.1 + 1, m.1.2.2 + 6)
      rw [xf.1]
  · have hE := rI_inj (e1.symm.trans j1)
    have em := hE.2
    have sx := xf_sx h0 rfl xf
    have wp := wp_sh sx
    unfold gs_wp at wp
    rw [show 85 - (85 - T) = T by omega] at wp
    have hmc : gs_Sh mc (85 - T) := by rw [em]; exact wp
    have hM : gs_Sh M (85 - T) := wc_sh (wc_sh hmc w) kp.1
    have mc0 : ∀ x i, x ≠ 0 → mc.2.1 x i = mx.2.1 x i := fun x i hx => by
      rw [em, gs_sIn (by omega), gs_sIn (by omega), gs_sIn (by omega), gs_sIn (by omega)]
      rfl
    have Mc : ∀ x i, x < 116 → M.2.1 x i = mc.2.1 x i := fun x i hx => (kp.1.2.2 x i (fun q => by unfold rsKp at q; omega)).trans (w.2.2 x i (fun q => by unfold rsQx upr at q; omega))
    have Mr : ∀ x i, ¬ rsQx x i → ¬ (rsKp x i ∨ (x = 116 ∧ (i = 36 ∨ i = 37))) → M.2.1 x i = mc.2.1 x i := fun x i h1 h2 => (kp.1.2.2 x i h2).trans (w.2.2 x i h1)
    have k5 : M.2.1 0 5 = Int32.ofNat p3 := by rw [Mc 0 5 (by decide), em]; rfl
    have k6 : M.2.1 0 6 = 0 := by rw [Mc 0 6 (by decide), em]; rfl
    have k7 : M.2.1 0 7 = 1 := by rw [Mc 0 7 (by decide), em]; rfl
    have k8 : M.2.1 0 8 = 1 := by rw [Mc 0 8 (by decide), em]; rfl
    obtain ⟨tu, pr, li, hBl⟩ := bl_rl (A := A) (A0 := A0) (B := B) hM (fun a i ha => by rw [Mc _ _ (by omega), mc0 _ _ (by omega)]; exact hA a i) (fun k hk => (kp.2.1 k hk).trans (hB 1 k)) (fun k hk => (kp.2.2.1 k hk).trans (hB 4 k)) (fun j k hj hk => by
      rw [kp.2.2.2.1 j hj k hk, ← hB (5 + j) (wdr j + k), show 119 + (5 + j) = 124 + j by omega]) rl hb3 hbl bp
    refine ⟨v, mc, M, e1, by rw [hE.1]; exact j2, hmc.1, iv_of (z := 0) (kn := p3) (D := 0) hc ?_ ⟨hBl, ⟨k5, Nat.le_refl _, Or.inl ⟨kp.2.2.2.2.2, rfl⟩, k6, kp.2.2.2.2.1⟩, ?_, fun q => ?_, fun q => ?_, ⟨⟨?_, ?_, by decide, fun j hj => absurd hj (Nat.not_lt_zero _)⟩, fun k hk => ?_, fun j hj => ?_, fun k hk => ?_, ?_, ?_⟩⟩⟩
    · rw [kp.1.1, w.1, em]
      exact xf.1
    · rw [Mr 116 51 (fun q => by unfold rsQx upr at q; omega) (fun q => by unfold rsKp at q; omega), no 116 51 (by omega)]
      exact h.2.2.1
    · rw [k8] at q
      exact absurd q (by decide)
    · rw [k7] at q
      exact absurd q (by decide)
    · rw [Mc 3 4 (by decide), mc0 3 4 (by decide)]
      exact xf.2.2.2
    · rw [kp.1.2.2 116 1 (fun q => by unfold rsKp at q; omega)]
      exact g1
    · rw [Mc 5 k (by decide), fr 5 k (fun q => by unfold rsPx at q; omega)]
      exact hL k hk
    · rw [Mr 118 j (fun q => by unfold rsQx upr at q; omega) (fun q => by unfold rsKp at q; omega), no 118 j (by omega)]
      exact hD j hj
    · rw [Mr 121 k (fun q => by unfold rsQx upr at q; omega) (fun q => by unfold rsKp at q; omega), no 121 k (by omega)]
      exact hN k hk
    · rw [Mc 1 9 (by decide), mc0 1 9 (by decide), kp.1.2.2 116 4 (fun q => by unfold rsKp at q; omega), y1, y3]
    · rw [Mc 1 10 (by decide), mc0 1 10 (by decide), kp.1.2.2 116 5 (fun q => by unfold rsKp at q; omega), y2, y4]
theorem q_text (hX : gs_Fu X) (hc : gs_Ct t m) (h : gs_Sz m T n n0 n1 n2 n5 n6 n7 n8 turn price limit blur kn z D) : gs_Q2 X 39 118 210 [.inl a] m (gs_Iv (t + 1)) := by
  have h0 := sz_sh h
  obtain ⟨t1, t2, t3, -⟩ := h.2.2.2.2.2.1
  have s0 : gs_Sh (gs_sI m 116 2 0) T := h0
  have e1 := eq_X11_text X 38 0 a m
  have e2 := eq_X12_text X 38 116 a m
  by_cases q : a < 0
  · rw [if_pos q] at e1
    refine qt (v := -2) hc h e1 (e2.trans ?_)
    rw [fl_116 h0]
    show (if a < 0 then gs_rI (-2) (gs_sI m 116 2 0) else _) = _
    rw [if_pos q]
  · by_cases q2 : Int32.ofNat z < a
    · have t2' : (gs_sI m 116 2 0).2.1 116 1 = Int32.ofNat z := t2
      refine qt (v := -2) hc h (e1.trans ?_) (e2.trans ?_)
      · rw [if_neg q, fl_0 h0, sh_0_0 h0, gs_nn_s, fl_1 h0, sh_1_8 h0, gs_nn_s, fl_3 h0, t1, if_pos q2]
      · rw [fl_116 h0]
        show (if a < 0 then _ else gs_fld (gs_sI m 116 2 0) 116 11 (if (gs_sI m 116 2 0).2.1 116 1 < a then gs_rI (-2) (gs_sI m 116 2 0) else _)) = _
        rw [if_neg q, fl_116 s0, t2', if_pos q2]
    · have q' : 0 ≤ a.toInt := by
        have : ¬ a.toInt < (0 : Int32).toInt := fun y => q (i_lt.mpr y)
        have z0 : (0 : Int32).toInt = 0 := rfl
        rw [z0] at this
        omega
      have q2' : ¬ (Int32.ofNat z).toInt < a.toInt := fun y => q2 (i_lt.mpr y)
      rw [gs_n32 (by omega)] at q2'
      exact q_textA (b := a.toInt.toNat) hX hc h (Int32.toInt_inj.mp (by rw [gs_n32 (by omega)]; omega)) (by omega)
end TXT
