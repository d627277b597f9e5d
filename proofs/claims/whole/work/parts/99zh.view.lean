/-! What both sides have told, as it is seen: the lower rows alone count. -/
def gs_Vw (m M : gs_M) (T : Nat) : Prop := (∀ o i, o < 49 → ¬ (o = 17 ∧ i = 4) → M.2.1 (T + o) i = m.2.1 (T + o) i) ∧ (∀ i, i < 9 → M.2.1 119 i = m.2.1 119 i) ∧ (∀ i, i < 4 → M.2.1 122 i = m.2.1 122 i) ∧ ∀ j k, j < 18 → k < wdr j → M.2.1 (124 + j) k = m.2.1 (124 + j) k
def gs_Bl (m : gs_M) (T n n0 n1 n2 n5 n6 n7 n8 turn price limit blur : Nat) : Prop := gs_To m T n n0 n1 n2 n5 turn blur price ∧ (m.2.1 T 12 = Int32.ofNat limit ∧ m.2.1 122 2 = Int32.ofNat limit ∧ limit ≤ 999) ∧ gs_So m T n n0 n1 n2 turn n6 n8 ∧ gs_RB m T n2 ∧ gs_RW m T n7 ∧ gs_WV m n7 ∧ n7 ≤ 6 ∧ (m.2.1 (T + 1) 3 = Int32.ofNat n0 ∧ m.2.1 (T + 5) 3 = Int32.ofNat n1 ∧ m.2.1 (T + 9) 3 = Int32.ofNat n2 ∧ m.2.1 (T + 21) 3 = Int32.ofNat n7) ∧ m.2.1 119 0 = Int32.ofNat n0 ∧ m.2.1 119 1 = Int32.ofNat n1 ∧ m.2.1 119 2 = Int32.ofNat n2 ∧ m.2.1 119 7 = Int32.ofNat n7
theorem cm_b : ∀ p ∈ gs_cm, p.2 < 16 := by decide
theorem gVl_c {b b' : Nat → Int32} {n0 n1 n2 : Nat} (e : ∀ i, i < 16 → b' i = b i) (h : gVl b n0 n1 n2) : gVl b' n0 n1 n2 := by
  unfold gVl at h ⊢
  rw [e 0 (by decide), e 1 (by decide), e 2 (by decide), e 3 (by decide), e 4 (by decide), e 5 (by decide), e 6 (by decide), e 7 (by decide), e 8 (by decide), e 9 (by decide), e 10 (by decide), e 11 (by decide), e 12 (by decide), e 13 (by decide)]
  exact h
theorem cVl_c {b b' : Nat → Int32} (e : ∀ i, i < 9 → b' i = b i) (h : cVl b) : cVl b' := by
  have en : ∀ i, i < 9 → bN b' i = bN b i := fun i hi => by unfold bN; rw [e i hi]
  unfold cVl at h ⊢
  rw [en 0 (by decide), en 1 (by decide), en 2 (by decide), en 3 (by decide), en 4 (by decide), en 5 (by decide), en 6 (by decide), en 7 (by decide), en 8 (by decide)]
  refine ⟨fun i hi => ?_, h.2⟩
  rw [e i hi, en i hi]
  exact h.1 i hi
theorem gv_gVl {m : gs_M} {n0 n1 n2 g : Nat} : gs_GV m n0 n1 n2 g ↔ gVl (gd m g) n0 n1 n2 := Iff.rfl
theorem cv_cVl {m : gs_M} {c : Nat} : gs_CV m c ↔ cVl (cd m c) := Iff.rfl
section VW
variable {m M : gs_M} {T n n0 n1 n2 n5 n6 n7 n8 turn price limit blur kn g c a b : Nat} {D : Int32}
theorem vw_gd (v : gs_Vw m M T) (hg : g < 12) {i : Nat} (hi : i < 16) : gd M g i = gd m g i := v.2.2.2 8 (16 * g + i) (by decide) (by show 16 * g + i < 192; omega)
theorem vw_cd (v : gs_Vw m M T) (hc : c < 10) {i : Nat} (hi : i < 9) : cd M c i = cd m c i := v.2.2.2 9 (9 * c + i) (by decide) (by show 9 * c + i < 90; omega)
theorem vw_cn (v : gs_Vw m M T) (hc : c < 10) {i : Nat} (hi : i < 9) : cn M c i = cn m c i := by
  unfold cn
  rw [vw_cd v hc hi]
theorem vw_ga (v : gs_Vw m M T) (hM : gs_Sh M T) (h : gs_Ga m T n n0 n1 n2 turn) : gs_Ga M T n n0 n1 n2 turn := by
  obtain ⟨-, a1, a2, a3, a4, a5, a6, a7, a8, a9, hG, hR, hV⟩ := h
  refine ⟨hM, (v.1 0 8 (by decide) (by decide)).trans a1, (v.2.1 3 (by decide)).trans a2, a3, a4, a5, a6, (v.1 0 10 (by decide) (by decide)).trans a7, (v.2.2.1 0 (by decide)).trans a8, a9, fun g hg p hp => ?_, fun k hk => ?_, fun g hg => ?_⟩
  · rw [v.1 (27 + g) p.1 (by omega) (by omega), vw_gd v (by omega) (cm_b p hp)]
    exact hG g hg p hp
  · have r4 : M.2.1 124 k = m.2.1 124 k := v.2.2.2 0 k (by decide) (by show k < 8; omega)
    have r5 : M.2.1 125 k = m.2.1 125 k := v.2.2.2 1 k (by decide) (by show k < 8; omega)
    have r6 : M.2.1 126 k = m.2.1 126 k := v.2.2.2 2 k (by decide) (by show k < 8; omega)
    rw [v.1 2 k (by decide) (by omega), v.1 3 k (by decide) (by omega), v.1 4 k (by decide) (by omega), r4, r5, r6]
    exact hR k hk
  · exact gVl_c (b := gd m g) (b' := gd M g) (fun i hi => vw_gd v (by omega) hi) (hV g hg)
theorem vw_rp (v : gs_Vw m M T) (hn : n ≤ 12) (h1 : n1 ≤ 10) (h : gs_RP m T n n1) : gs_RP M T n n1 := by
  refine ⟨fun k hk => ?_, fun g hg => ?_⟩
  · have r4 : M.2.1 127 k = m.2.1 127 k := v.2.2.2 3 k (by decide) (by show k < 10; omega)
    have r5 : M.2.1 128 k = m.2.1 128 k := v.2.2.2 4 k (by decide) (by show k < 10; omega)
    have r6 : M.2.1 129 k = m.2.1 129 k := v.2.2.2 5 k (by decide) (by show k < 10; omega)
    rw [v.1 6 k (by decide) (by omega), v.1 7 k (by decide) (by omega), v.1 8 k (by decide) (by omega), r4, r5, r6]
    exact h.1 k hk
  · rw [v.1 (27 + g) 8 (by omega) (by omega), v.1 (27 + g) 9 (by omega) (by omega), vw_gd v (by omega) (by decide)]
    exact h.2 g hg
theorem vw_ca (v : gs_Vw m M T) (hM : gs_Sh M T) (h : gs_Ca m T n5 blur) : gs_Ca M T n5 blur := by
  obtain ⟨-, a1, a2, a3, a4, a5, a6, hR, hV⟩ := h
  refine ⟨hM, (v.1 0 9 (by decide) (by decide)).trans a1, (v.2.1 5 (by decide)).trans a2, a3, (v.1 0 13 (by decide) (by decide)).trans a4, (v.2.2.1 3 (by decide)).trans a5, a6, fun c hc => ?_, fun c hc => ?_⟩
  · have q := hR c hc
    refine ⟨fun i hi => ?_, ?_, ?_⟩
    · rw [v.1 (39 + c) i (by omega) (by omega), vw_cd v (by omega) hi]
      exact q.1 i hi
    · rw [v.1 (39 + c) 9 (by omega) (by omega), vw_cn v (by omega) (by decide), vw_cn v (by omega) (by decide), vw_cn v (by omega) (by decide), vw_cn v (by omega) (by decide)]
      exact q.2.1
    · rw [v.1 (39 + c) 10 (by omega) (by omega), vw_cn v (by omega) (by decide), vw_cn v (by omega) (by decide), vw_cn v (by omega) (by decide), vw_cn v (by omega) (by decide), vw_cn v (by omega) (by decide)]
      exact q.2.2
  · exact cVl_c (b := cd m c) (b' := cd M c) (fun i hi => vw_cd v (by omega) hi) (hV c hc)
theorem vw_to (v : gs_Vw m M T) (hM : gs_Sh M T) (h : gs_To m T n n0 n1 n2 n5 turn blur price) : gs_To M T n n0 n1 n2 n5 turn blur price := by
  obtain ⟨hG, hP, hC, e1, e2, e3⟩ := h
  exact ⟨vw_ga v hM hG, vw_rp v hG.2.2.2.1 hG.2.2.2.2.2.1 hP, vw_ca v hM hC, (v.1 0 11 (by decide) (by decide)).trans e1, (v.2.2.1 1 (by decide)).trans e2, e3⟩
theorem vw_rk (v : gs_Vw m M T) (h8 : n8 ≤ 64) (h : gs_RK m T n8) : gs_RK M T n8 := by
  intro k hk
  have r9 : M.2.1 139 k = m.2.1 139 k := v.2.2.2 15 k (by decide) (by show k < 64; omega)
  have r0 : M.2.1 140 k = m.2.1 140 k := v.2.2.2 16 k (by decide) (by show k < 64; omega)
  have r1 : M.2.1 141 k = m.2.1 141 k := v.2.2.2 17 k (by decide) (by show k < 64; omega)
  have q := h k hk
  unfold kj pj oj at q ⊢
  rw [r9, r0, r1, v.1 18 k (by decide) (by omega), v.1 19 k (by decide) (by omega)]
  exact q
theorem vw_so (v : gs_Vw m M T) (hM : gs_Sh M T) (h : gs_So m T n n0 n1 n2 turn n6 n8) : gs_So M T n n0 n1 n2 turn n6 n8 := by
  obtain ⟨hG, e6, e6', b6, e8, e8', b8, hK, hS⟩ := h
  refine ⟨vw_ga v hM hG, (v.1 13 3 (by decide) (by decide)).trans e6, (v.2.1 6 (by decide)).trans e6', b6, (v.1 17 3 (by decide) (by decide)).trans e8, (v.2.1 8 (by decide)).trans e8', b8, vw_rk v b8 hK, fun s hs => ?_⟩
  obtain ⟨q1, q2, q3, q4, q5, q6, q7, q8, q9, q10, q11⟩ := hS s hs
  have r6 : ∀ t, t ≤ s → M.2.1 136 t = m.2.1 136 t := fun t ht => v.2.2.2 12 t (by decide) (by show t < 6; omega)
  have r7 : ∀ t, t ≤ s → M.2.1 137 t = m.2.1 137 t := fun t ht => v.2.2.2 13 t (by decide) (by show t < 6; omega)
  have r4 : M.2.1 134 s = m.2.1 134 s := v.2.2.2 10 s (by decide) (by show s < 6; omega)
  have r5 : M.2.1 135 s = m.2.1 135 s := v.2.2.2 11 s (by decide) (by show s < 6; omega)
  have eb : ∀ t, t ≤ s → sbg M t = sbg m t := fun t ht => by unfold sbg; rw [r6 t ht]
  have ee : ∀ t, t ≤ s → sen M t = sen m t := fun t ht => by unfold sen; rw [r7 t ht]
  rw [v.1 14 s (by decide) (by omega), v.1 15 s (by decide) (by omega), v.1 16 s (by decide) (by omega), r4, r5, r7 s (Nat.le_refl _), r6 s (Nat.le_refl _), eb s (Nat.le_refl _), ee s (Nat.le_refl _)]
  refine ⟨q1, q2, q3, q4, q5, q6, q7, q8, q9, fun t ht => ?_, ?_⟩
  · rw [ee t (by omega)]
    exact q10 t ht
  · rw [← q11]
    refine gs_wks_c _ (fun i h1 h2 => ?_)
    have r9 : M.2.1 139 i = m.2.1 139 i := v.2.2.2 15 i (by decide) (by show i < 64; omega)
    have r0 : M.2.1 140 i = m.2.1 140 i := v.2.2.2 16 i (by decide) (by show i < 64; omega)
    have r1 : M.2.1 141 i = m.2.1 141 i := v.2.2.2 17 i (by decide) (by show i < 64; omega)
    unfold kj pj oj
    rw [r9, r0, r1]
    exact ⟨rfl, rfl, rfl⟩
theorem bl_vw (v : gs_Vw m M T) (hM : gs_Sh M T) (h : gs_Bl m T n n0 n1 n2 n5 n6 n7 n8 turn price limit blur) : gs_Bl M T n n0 n1 n2 n5 n6 n7 n8 turn price limit blur := by
  obtain ⟨hT, ⟨l1, l2, l3⟩, hS, hB, hW, hV, h7, ⟨c0, c1, c2, c7⟩, d0, d1, d2, d7⟩ := h
  have b2 : n2 ≤ 8 := hT.1.2.2.2.2.2.2.1
  refine ⟨vw_to v hM hT, ⟨(v.1 0 12 (by decide) (by decide)).trans l1, (v.2.2.1 2 (by decide)).trans l2, l3⟩, vw_so v hM hS, fun k hk => ?_, fun k hk => ?_, fun k hk => ?_, h7, ⟨(v.1 1 3 (by decide) (by decide)).trans c0, (v.1 5 3 (by decide) (by decide)).trans c1, (v.1 9 3 (by decide) (by decide)).trans c2, (v.1 21 3 (by decide) (by decide)).trans c7⟩, (v.2.1 0 (by decide)).trans d0, (v.2.1 1 (by decide)).trans d1, (v.2.1 2 (by decide)).trans d2, (v.2.1 7 (by decide)).trans d7⟩
  · have r0 : M.2.1 130 k = m.2.1 130 k := v.2.2.2 6 k (by decide) (by show k < 8; omega)
    have r1 : M.2.1 131 k = m.2.1 131 k := v.2.2.2 7 k (by decide) (by show k < 8; omega)
    rw [v.1 10 k (by decide) (by omega), v.1 11 k (by decide) (by omega), r0, r1]
    exact hB k hk
  · have r8 : ∀ i, i < 18 → M.2.1 138 i = m.2.1 138 i := fun i hi => v.2.2.2 14 i (by decide) hi
    rw [v.1 22 k (by decide) (by omega), v.1 23 k (by decide) (by omega), v.1 24 k (by decide) (by omega), r8 (3 * k) (by omega), r8 (3 * k + 1) (by omega), r8 (3 * k + 2) (by omega)]
    exact hW k hk
  · have r8 : ∀ i, i < 18 → M.2.1 138 i = m.2.1 138 i := fun i hi => v.2.2.2 14 i (by decide) hi
    rw [r8 (3 * k + 2) (by omega)]
    exact hV k hk
/-! what is kept stays with the view -/
theorem ix4 (h : gs_GV m n0 n1 n2 g) (h1 : n1 ≤ 10) : (gd m g 4).toInt.toNat < 10 := by
  rcases h.2.2.2.2.2.1 with e | ⟨k, hk, e⟩
  · rw [e]; decide
  · rw [e, gs_n32 (by omega)]
    omega
theorem vw_px (v : gs_Vw m M T) (hg : g < 12) (h4 : (gd m g 4).toInt.toNat < 10) {r : Nat} : f_px M g r = f_px m g r ∧ f_py M g r = f_py m g r := by
  have r5 : M.2.1 128 (gd m g 4).toInt.toNat = m.2.1 128 (gd m g 4).toInt.toNat := v.2.2.2 4 _ (by decide) h4
  have r6 : M.2.1 129 (gd m g 4).toInt.toNat = m.2.1 129 (gd m g 4).toInt.toNat := v.2.2.2 5 _ (by decide) h4
  unfold f_px f_py
  rw [vw_gd v hg (by decide : 4 < 16), vw_gd v hg (by decide : 5 < 16), vw_gd v hg (by decide : 6 < 16), r5, r6]
  exact ⟨rfl, rfl⟩
theorem vw_day (v : gs_Vw m M T) (hg : g < 12) : f_dayG M turn g = f_dayG m turn g := by
  unfold f_dayG
  rw [vw_gd v hg (by decide : 0 < 16), vw_gd v hg (by decide : 1 < 16), vw_gd v hg (by decide : 2 < 16), vw_gd v hg (by decide : 3 < 16)]
theorem vw_oneA (v : gs_Vw m M T) (ha : a < 12) (hb : b < 12) (ga : gs_GV m n0 n1 n2 a) (gb : gs_GV m n0 n1 n2 b) (h1 : n1 ≤ 10) : f_oneA M turn a b = f_oneA m turn a b := by
  have pa := vw_px v ha (ix4 ga h1) (r := 0)
  have pb := vw_px v hb (ix4 gb h1) (r := 0)
  unfold f_oneA f_gates f_nearI
  rw [vw_day v ha, vw_day v hb, pa.1, pa.2, pb.1, pb.2, vw_gd v ha (by decide : 0 < 16), vw_gd v hb (by decide : 0 < 16), vw_gd v ha (by decide : 1 < 16), vw_gd v hb (by decide : 1 < 16), vw_gd v ha (by decide : 2 < 16), vw_gd v hb (by decide : 2 < 16), vw_gd v ha (by decide : 4 < 16), vw_gd v hb (by decide : 4 < 16)]
theorem resp_c {one one' : Nat → Nat → Prop} {tr : Nat → Prop} {f : Nat → Nat} (h : ∀ a b, a < n → b < n → (one' a b ↔ one a b)) : gs_resp one' tr n f ↔ gs_resp one tr n f :=
  ⟨fun q a b ha hb ta tb o => q a b ha hb ta tb ((h a b ha hb).mpr o), fun q a b ha hb ta tb o => q a b ha hb ta tb ((h a b ha hb).mp o)⟩
theorem evs_c {one one' : Nat → Nat → Prop} {tr : Nat → Prop} {r : Nat → Nat} (h : ∀ a b, a < n → b < n → (one' a b ↔ one a b)) (hE : gs_Evs one tr n r) : gs_Evs one' tr n r :=
  ⟨fun g hg ht => ⟨(hE.1 g hg ht).1, (hE.1 g hg ht).2.1, fun f hf => (hE.1 g hg ht).2.2 f ((resp_c h).mp hf)⟩, (resp_c h).mpr hE.2⟩
theorem vw_ce (v : gs_Vw m M T) (hG : gs_Ga m T n n0 n1 n2 turn) (hC : gs_CE m n turn kn D) (e8 : M.2.1 0 8 = m.2.1 0 8) (e17 : M.2.1 17 = m.2.1 17) : gs_CE M n turn kn D := by
  intro z
  obtain ⟨r, h1, h2⟩ := hC (e8.symm.trans z)
  have hn := hG.2.2.2.1
  refine ⟨r, evs_c (fun a b ha hb => ?_) h1, fun g hg => ?_⟩
  · unfold oneP
    rw [vw_oneA v (by omega) (by omega) (hG.2.2.2.2.2.2.2.2.2.2.2.2 a ha) (hG.2.2.2.2.2.2.2.2.2.2.2.2 b hb) hG.2.2.2.2.2.1]
  · rw [e17]
    exact h2 g hg
theorem vw_tollA (v : gs_Vw m M T) (hg : g < 12) (hc : c < 10) (h4 : (gd m g 4).toInt.toNat < 10) : f_tollA M price blur g c = f_tollA m price blur g c := by
  have e : nT M price g c = nT m price g c := funext fun r => by
    have p := vw_px v hg h4 (r := r)
    unfold nT ap
    rw [p.1, p.2, vw_cd v hc (by decide : 0 < 9), vw_cd v hc (by decide : 1 < 9)]
  unfold f_tollA f_pt f_outA
  rw [e, vw_gd v hg (by decide : 4 < 16), vw_gd v hg (by decide : 6 < 16), vw_gd v hg (by decide : 1 < 16), vw_gd v hg (by decide : 13 < 16), vw_cn v hc (by decide : 2 < 9), vw_cn v hc (by decide : 3 < 9), vw_cn v hc (by decide : 4 < 9), vw_cn v hc (by decide : 5 < 9), vw_cn v hc (by decide : 6 < 9)]
theorem bsc_c2 {B B' : Nat → Nat} {t t' : Nat → Nat} {set : Nat} (hB : ∀ s, B' s = B s) : ∀ r c v, (∀ i, i < c + r → t' i = t i) → bsc B' t' set r c v = bsc B t set r c v
  | 0, _, _, _ => rfl
  | r + 1, c, v, h => by
    rw [bsc_s, bsc_s, hB]
    have e := h c (by omega)
    unfold skp
    rw [e, bsc_c2 hB r (c + 1) _ (fun i hi => h i (by omega)), bsc_c2 hB r (c + 1) _ (fun i hi => h i (by omega))]
theorem bst_c2 {t t' : Nat → Nat → Nat} {n k : Nat} (h : ∀ g c, g < n → c < k → t' g c = t g c) : ∀ q, q ≤ n → ∀ set, bst t' n k q set = bst t n k q set
  | 0, _, _ => rfl
  | q + 1, hq, set => by
    rw [bst_s, bst_s, bst_c2 h q (by omega) set]
    exact bsc_c2 (B := bst t n k q) (B' := bst t' n k q) (t := t (n - (q + 1))) (t' := t' (n - (q + 1))) (fun s => bst_c2 h q (by omega) s) k 0 _ (fun i hi => h _ i (by omega) (by omega))
theorem pck_c2 {B B' : Nat → Nat} {t t' : Nat → Nat} {set tgt : Nat} (hB : ∀ s, B' s = B s) : ∀ r c, (∀ i, i < c + r → t' i = t i) → pck B' t' set tgt r c = pck B t set tgt r c
  | 0, _, _ => rfl
  | r + 1, c, h => by
    rw [pck_s, pck_s, hB]
    have e := h c (by omega)
    unfold skp
    rw [e, pck_c2 hB r (c + 1) (fun i hi => h i (by omega))]
theorem grd_c2 {t t' : Nat → Nat → Nat} {n k : Nat} (h : ∀ g c, g < n → c < k → t' g c = t g c) : ∀ q, q ≤ n → ∀ set, grd t' n k q set = grd t n k q set
  | 0, _, _ => rfl
  | q + 1, hq, set => by
    rw [grd_s, grd_s, bst_c2 h (q + 1) hq, pck_c2 (B := bst t n k q) (B' := bst t' n k q) (t := t (n - (q + 1))) (t' := t' (n - (q + 1))) (fun s => bst_c2 h q (by omega) s) k 0 (fun i hi => h _ i (by omega) (by omega)), grd_c2 h q (by omega)]
theorem nTt_c2 {t t' : Nat → Nat → Nat} {σ : Nat → Nat} {k : Nat} : ∀ n, (∀ g c, g < n → c < k → t' g c = t g c) → nTt t' σ k n = nTt t σ k n
  | 0, _ => rfl
  | n + 1, h => by
    show nTt t' σ k n + _ = nTt t σ k n + _
    rw [nTt_c2 n (fun g c hg hc => h g c (by omega) hc)]
    by_cases z : σ n < k
    · rw [if_pos z, if_pos z, h n (σ n) (by omega) z]
    · rw [if_neg z, if_neg z]
theorem pc_c2 {t t' : Nat → Nat → Nat} {k : Nat} (h : ∀ g c, g < n → c < k → t' g c = t g c) (e6 : M.2.1 6 = m.2.1 6) (e7 : M.2.1 7 = m.2.1 7) (e14 : M.2.1 14 = m.2.1 14) (hP : gs_PC m n k t) : gs_PC M n k t' := by
  have es : sgm t' n k = sgm t n k := funext fun g => by
    unfold sgm
    rw [grd_c2 h n (Nat.le_refl _)]
  unfold gs_PC at hP ⊢
  rw [e6, e7, e14, es, nTt_c2 n h]
  refine ⟨hP.1, hP.2.1, fun g c hg hc => ?_, hP.2.2.2⟩
  rw [hP.2.2.1 g c hg hc]
  unfold tlI
  rw [h g c hg hc]
theorem vw_cp (v : gs_Vw m M T) (hG : gs_Ga m T n n0 n1 n2 turn) (h5 : n5 ≤ 10) (hC : gs_CP m n n5 price blur limit kn D) (e07 : M.2.1 0 7 = m.2.1 0 7) (e6 : M.2.1 6 = m.2.1 6) (e7 : M.2.1 7 = m.2.1 7) (e14 : M.2.1 14 = m.2.1 14) : gs_CP M n n5 price blur limit kn D := by
  intro z
  have hn := hG.2.2.2.1
  refine pc_c2 (fun g c hg hc => ?_) e6 e7 e14 (hC (e07.symm.trans z))
  unfold tlF nTo
  rw [vw_tollA v (by omega) (by omega) (ix4 (hG.2.2.2.2.2.2.2.2.2.2.2.2 g hg) hG.2.2.2.2.2.1)]
end VW
