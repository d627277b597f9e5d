/-! What reckoning may leave otherwise: working places, and what is kept of pairs and events. -/
def gs_Wx (R : Nat → Nat → Prop) (m m' : gs_M) : Prop := m'.1 = m.1 ∧ m'.2.2.2 = m.2.2.2 ∧ ∀ x i, ¬ R x i → m'.2.1 x i = m.2.1 x i
def rsE (x i : Nat) : Prop := gs_rs x i ∨ x = 17 ∨ (x = 0 ∧ i = 8)
def rsP (x i : Nat) : Prop := gs_rs x i ∨ (6 ≤ x ∧ x ≤ 15) ∨ (x = 0 ∧ i = 7)
def rsD (x i : Nat) : Prop := gs_rs x i ∨ (6 ≤ x ∧ x ≤ 17) ∨ (x = 0 ∧ (i = 7 ∨ i = 8)) ∨ (x = 116 ∧ i = 51)
abbrev gs_Wd (m m' : gs_M) : Prop := gs_Wx rsD m m'
theorem wx_refl {R : Nat → Nat → Prop} (m : gs_M) : gs_Wx R m m := ⟨rfl, rfl, fun _ _ _ => rfl⟩
theorem wx_trans {R : Nat → Nat → Prop} {m m' m'' : gs_M} (h1 : gs_Wx R m m') (h2 : gs_Wx R m' m'') : gs_Wx R m m'' := ⟨h2.1.trans h1.1, h2.2.1.trans h1.2.1, fun x i h => (h2.2.2 x i h).trans (h1.2.2 x i h)⟩
theorem wx_mono {R R' : Nat → Nat → Prop} {m m' : gs_M} (h : gs_Wx R m m') (hR : ∀ x i, R x i → R' x i) : gs_Wx R' m m' := ⟨h.1, h.2.1, fun x i hn => h.2.2 x i (fun q => hn (hR x i q))⟩
theorem wx_sI {R : Nat → Nat → Prop} {m m' : gs_M} {a j : Nat} {x : Int32} (h : gs_Wx R m m') (hs : R a j) : gs_Wx R m (gs_sI m' a j x) := ⟨h.1, h.2.1, fun y i hn => by
  rw [gs_sIn, h.2.2 y i hn]
  by_cases e : y = a
  · exact Or.inr fun e2 => hn (by rw [e, e2]; exact hs)
  · exact Or.inl e⟩
theorem wx_sJ {R : Nat → Nat → Prop} {m m' : gs_M} {a j : Nat} {x : Int64} (h : gs_Wx R m m') : gs_Wx R m (gs_sJ m' a j x) := h
theorem wx_r {R : Nat → Nat → Prop} {m m' : gs_M} (h : gs_Wr m m') (hR : ∀ x i, gs_rs x i → R x i) : gs_Wx R m m' := ⟨h.1, h.2.1, fun x i hn => h.2.2 x i (fun q => hn (hR x i q))⟩
theorem wd_e {m m' : gs_M} (h : gs_Wx rsE m m') : gs_Wd m m' := wx_mono h (fun x i q => by
  rcases q with q | q | q
  · exact Or.inl q
  · exact Or.inr (Or.inl (by omega))
  · exact Or.inr (Or.inr (Or.inl ⟨q.1, Or.inr q.2⟩)))
theorem wd_p {m m' : gs_M} (h : gs_Wx rsP m m') : gs_Wd m m' := wx_mono h (fun x i q => by
  rcases q with q | q | q
  · exact Or.inl q
  · exact Or.inr (Or.inl (by omega))
  · exact Or.inr (Or.inr (Or.inl ⟨q.1, Or.inl q.2⟩)))
theorem wd_r {m m' : gs_M} (h : gs_Wr m m') : gs_Wd m m' := wx_r h (fun _ _ q => Or.inl q)
theorem wd_cell {m m' : gs_M} (h : gs_Wd m m') (x : Nat) (hx : x ≠ 116 ∧ x ≠ 0 ∧ x ≠ 35 ∧ x ≠ 84 ∧ 17 < x) (hx2 : x < 142 ∨ 151 < x) : m'.2.1 x = m.2.1 x := funext fun i => h.2.2 x i (fun q => by unfold rsD gs_rs at q; omega)
theorem wd_sh {m m' : gs_M} {T : Nat} (h : gs_Sh m T) (hW : gs_Wd m m') : gs_Sh m' T := by
  unfold gs_Sh at h ⊢
  rw [hW.1, hW.2.1]
  exact h
theorem wd_t {m m' : gs_M} {T : Nat} (h : gs_Sh m T) (hW : gs_Wd m m') (o : Nat) (ho : o < 49 ∧ o ≠ 17) : m'.2.1 (T + o) = m.2.1 (T + o) := by
  rcases h.2.1 with e | e <;> exact wd_cell hW _ (by omega) (by omega)
section WD
variable {m M : gs_M} {T n n0 n1 n2 n5 n6 n8 turn blur price c g s : Nat} {x w : Int32}
theorem wd_ca {m' : gs_M} (hC : gs_Ca m T n5 blur) (hW : gs_Wd m m') : gs_Ca m' T n5 blur := by
  obtain ⟨h, h1, h2, h3, h4, h5, h6, hR, hV⟩ := hC
  have e133 : m'.2.1 133 = m.2.1 133 := wd_cell hW 133 (by decide) (by decide)
  have eT : m'.2.1 T = m.2.1 T := wd_t h hW 0 (by decide)
  refine ⟨wd_sh h hW, by rw [eT]; exact h1, by rw [wd_cell hW 119 (by decide) (by decide)]; exact h2, h3, by rw [eT]; exact h4, by rw [wd_cell hW 122 (by decide) (by decide)]; exact h5, h6, fun c hc => ?_, fun c hc => ?_⟩
  · have q := hR c hc
    have ec : m'.2.1 (T + (39 + c)) = m.2.1 (T + (39 + c)) := wd_t h hW (39 + c) (by omega)
    unfold cn cd at q ⊢
    rw [ec, e133]
    exact q
  · have q := hV c hc
    unfold gs_CV cn cd at q ⊢
    rw [e133]
    exact q
theorem wd_ga {m' : gs_M} (hG : gs_Ga m T n n0 n1 n2 turn) (hW : gs_Wd m m') : gs_Ga m' T n n0 n1 n2 turn := by
  obtain ⟨h, h2, h3, h4, h5, h6, h7, h8, h9, h10, h11, h12, h13⟩ := hG
  have eT : m'.2.1 T = m.2.1 T := wd_t h hW 0 (by decide)
  have c : ∀ x, x < 142 → (x ≠ 116 ∧ x ≠ 0 ∧ x ≠ 35 ∧ x ≠ 84 ∧ 17 < x) → m'.2.1 x = m.2.1 x := fun x hx hx2 => wd_cell hW x hx2 (Or.inl hx)
  refine ⟨wd_sh h hW, by rw [eT]; exact h2, by rw [c 119 (by decide) (by decide)]; exact h3, h4, h5, h6, h7, by rw [eT]; exact h8, by rw [c 122 (by decide) (by decide)]; exact h9, h10, fun g hg p hp => ?_, fun k hk => ?_, fun g hg => ?_⟩
  · have q := h11 g hg p hp
    unfold gd at q ⊢
    rw [wd_t h hW (27 + g) (by omega), c 132 (by decide) (by decide)]
    exact q
  · have q := h12 k hk
    rw [wd_t h hW 2 (by decide), wd_t h hW 3 (by decide), wd_t h hW 4 (by decide), c 124 (by decide) (by decide), c 125 (by decide) (by decide), c 126 (by decide) (by decide)]
    exact q
  · have q := h13 g hg
    unfold gs_GV gd at q ⊢
    rw [c 132 (by decide) (by decide)]
    exact q
theorem wd_rp {m' : gs_M} (h : gs_Sh m T) (hn : n ≤ 12) (hP : gs_RP m T n n1) (hW : gs_Wd m m') : gs_RP m' T n n1 := by
  have c : ∀ x, x < 142 → (x ≠ 116 ∧ x ≠ 0 ∧ x ≠ 35 ∧ x ≠ 84 ∧ 17 < x) → m'.2.1 x = m.2.1 x := fun x hx hx2 => wd_cell hW x hx2 (Or.inl hx)
  refine ⟨fun k hk => ?_, fun g hg => ?_⟩
  · have q := hP.1 k hk
    rw [wd_t h hW 6 (by decide), wd_t h hW 7 (by decide), wd_t h hW 8 (by decide), c 127 (by decide) (by decide), c 128 (by decide) (by decide), c 129 (by decide) (by decide)]
    exact q
  · have q := hP.2 g hg
    unfold gd at q ⊢
    rw [wd_t h hW (27 + g) (by omega), c 132 (by decide) (by decide)]
    exact q
theorem wd_to {m' : gs_M} (hT : gs_To m T n n0 n1 n2 n5 turn blur price) (hW : gs_Wd m m') : gs_To m' T n n0 n1 n2 n5 turn blur price := by
  obtain ⟨hG, hP, hC, h1, h2, h3⟩ := hT
  refine ⟨wd_ga hG hW, wd_rp hG.1 hG.2.2.2.1 hP hW, wd_ca hC hW, ?_, ?_, h3⟩
  · rw [show m'.2.1 T = m.2.1 T from wd_t hG.1 hW 0 (by decide)]; exact h1
  · rw [wd_cell hW 122 (by decide) (by decide)]; exact h2
theorem wd_nT {m' : gs_M} (hW : gs_Wd m m') : nT m' price g c = nT m price g c := funext fun r => by
  unfold nT ap f_px f_py gd cd
  rw [wd_cell hW 128 (by decide) (by decide), wd_cell hW 129 (by decide) (by decide), wd_cell hW 132 (by decide) (by decide), wd_cell hW 133 (by decide) (by decide)]
theorem wd_gd {m' : gs_M} (hW : gs_Wd m m') (g i : Nat) : gd m' g i = gd m g i := by
  unfold gd
  rw [wd_cell hW 132 (by decide) (by decide)]
theorem wd_pt {m' : gs_M} (hW : gs_Wd m m') : f_pt m' price g c = f_pt m price g c := by
  unfold f_pt
  rw [wd_nT hW, wd_gd hW, wd_gd hW]
theorem wd_outA {m' : gs_M} (hW : gs_Wd m m') : f_outA m' blur g c = f_outA m blur g c := by
  unfold f_outA cn cd
  rw [wd_gd hW, wd_gd hW, wd_cell hW 133 (by decide) (by decide)]
theorem wd_tollA {m' : gs_M} (hW : gs_Wd m m') : f_tollA m' price blur g c = f_tollA m price blur g c := by
  unfold f_tollA
  rw [wd_pt hW, wd_outA hW]
theorem wd_178 (h : gs_Sh m T) (hW : gs_Wd m M) : M.2.1 (T + 17) 3 = m.2.1 (T + 17) 3 := hW.2.2 _ _ (fun q => by
  unfold rsD gs_rs at q
  have := h.2.1
  omega)
theorem wd_gs_RK (h : gs_Sh m T) (hW : gs_Wd m M) (hK : gs_RK m T n8) : gs_RK M T n8 := by
  have c139 := wd_cell hW 139 (by decide) (by decide)
  have c140 := wd_cell hW 140 (by decide) (by decide)
  have c141 := wd_cell hW 141 (by decide) (by decide)
  have c18 := wd_t h hW 18 (by decide)
  have c19 := wd_t h hW 19 (by decide)
  unfold gs_RK kj pj oj
  rw [c139, c140, c141, c18, c19]
  exact hK
theorem wd_so (hO : gs_So m T n n0 n1 n2 turn n6 n8) (hW : gs_Wd m M) : gs_So M T n n0 n1 n2 turn n6 n8 := by
  obtain ⟨hG, e6, e6', b6, e8, e8', b8, hK, hS⟩ := hO
  have h := hG.1
  refine ⟨wd_ga hG hW, ?_, ?_, b6, (wd_178 h hW).trans e8, ?_, b8, wd_gs_RK h hW hK, ?_⟩
  · rw [wd_t h hW 13 (by decide)]; exact e6
  · rw [wd_cell hW 119 (by decide) (by decide)]; exact e6'
  · rw [wd_cell hW 119 (by decide) (by decide)]; exact e8'
  · unfold sbg sen kj pj oj
    rw [wd_cell hW 134 (by decide) (by decide), wd_cell hW 135 (by decide) (by decide), wd_cell hW 136 (by decide) (by decide), wd_cell hW 137 (by decide) (by decide), wd_cell hW 139 (by decide) (by decide), wd_cell hW 140 (by decide) (by decide), wd_cell hW 141 (by decide) (by decide), wd_t h hW 14 (by decide), wd_t h hW 15 (by decide), wd_t h hW 16 (by decide)]
    exact hS
theorem wd_rb {M : gs_M} (h : gs_Sh m T) (hB : gs_RB m T n2) (hW : gs_Wd m M) : gs_RB M T n2 := by
  unfold gs_RB
  rw [wd_t h hW 10 (by decide), wd_t h hW 11 (by decide), wd_cell hW 130 (by decide) (by decide), wd_cell hW 131 (by decide) (by decide)]
  exact hB
theorem wd_rw {M : gs_M} {n7 : Nat} (h : gs_Sh m T) (hB : gs_RW m T n7) (hW : gs_Wd m M) : gs_RW M T n7 := by
  unfold gs_RW
  rw [wd_t h hW 22 (by decide), wd_t h hW 23 (by decide), wd_t h hW 24 (by decide), wd_cell hW 138 (by decide) (by decide)]
  exact hB
theorem wd_wv {M : gs_M} {n7 : Nat} (hB : gs_WV m n7) (hW : gs_Wd m M) : gs_WV M n7 := by
  unfold gs_WV
  rw [wd_cell hW 138 (by decide) (by decide)]
  exact hB
theorem wd_oneA {M : gs_M} (hW : gs_Wd m M) {a b : Nat} : f_oneA M turn a b = f_oneA m turn a b := by
  unfold f_oneA f_gates f_nearI f_dayG f_px f_py gd
  rw [wd_cell hW 128 (by decide) (by decide), wd_cell hW 129 (by decide) (by decide), wd_cell hW 132 (by decide) (by decide)]
end WD
/-! Bits of a number. Which guests are trusted. -/
theorem bit_one (z : Int32) : z &&& 1 = 1 ↔ z.toBitVec.getLsbD 0 = true := by
  rw [← Int32.toBitVec_inj, Int32.toBitVec_and]
  show z.toBitVec &&& 1#32 = 1#32 ↔ _
  rw [BitVec.and_one_eq_setWidth_ofBool_getLsbD]
  cases z.toBitVec.getLsbD 0
  · decide
  · decide
theorem bit_sh : ∀ k, k < 32 → ((Int32.ofNat k &&& 31).toBitVec.smod 32).toNat = k := by decide
theorem bit_iff (x : Int32) {k : Nat} (hk : k < 32) : isBit x (Int32.ofNat k) ↔ x.toBitVec.getLsbD k = true := by
  show (x >>> (Int32.ofNat k &&& 31)) &&& 1 = 1 ↔ _
  rw [bit_one, Int32.toBitVec_shiftRight, BitVec.getLsbD_sshiftRight', bit_sh k hk]
  simp [hk]
abbrev trd (kn : Nat) (D : Int32) (g : Nat) : Prop := g < kn ∧ ¬ isBit D (Int32.ofNat g)
def trv (kn : Nat) (D : Int32) : Int32 := (((1 : Int32) <<< ((Int32.ofNat kn) &&& 31)) - (1 : Int32)) &&& (D ^^^ (-1 : Int32))
theorem bit_mask : ∀ kn, kn ≤ 12 → ∀ k, k < 12 → (((1 : Int32) <<< (Int32.ofNat kn &&& 31)) - 1).toBitVec.getLsbD k = decide (k < kn) := by decide
theorem bit_neg1 : ∀ k, k < 12 → (-1 : Int32).toBitVec.getLsbD k = true := by decide
theorem tr_bit {kn k : Nat} {D : Int32} (hkn : kn ≤ 12) (hk : k < 12) : isBit (trv kn D) (Int32.ofNat k) ↔ trd kn D k := by
  unfold trd
  rw [bit_iff _ (show k < 32 by omega), bit_iff D (show k < 32 by omega)]
  unfold trv
  rw [Int32.toBitVec_and, BitVec.getLsbD_and, Int32.toBitVec_xor, BitVec.getLsbD_xor, bit_mask kn hkn k hk, bit_neg1 k hk]
  simp
/-- who is known, who is doubted -/
def gs_Kn (m : gs_M) (n kn : Nat) (D : Int32) : Prop := m.2.1 0 5 = Int32.ofNat kn ∧ kn ≤ n ∧ ((m.2.1 116 37 = -1 ∧ kn = n) ∨ m.2.1 116 37 = Int32.ofNat kn) ∧ m.2.1 0 6 = D ∧ m.2.1 116 36 = D
theorem wd_kn {m M : gs_M} {n kn : Nat} {D : Int32} (hK : gs_Kn m n kn D) (hW : gs_Wd m M) : gs_Kn M n kn D := by
  unfold gs_Kn
  rw [hW.2.2 0 5 (fun q => by unfold rsD gs_rs at q; omega), hW.2.2 116 37 (fun q => by unfold rsD gs_rs at q; omega), hW.2.2 0 6 (fun q => by unfold rsD gs_rs at q; omega), hW.2.2 116 36 (fun q => by unfold rsD gs_rs at q; omega)]
  exact hK
section TRU
variable {X : gs_E} {d : Nat} {m : gs_M} {T n n0 n1 n2 turn kn g : Nat} {D : Int32}
theorem x_trusted (h : gs_Sh m T) (hK : gs_Kn m n kn D) : gs_exec X (d + 1) 167 [.inr (.inr 0)] m = gs_rI (trv kn D) m := by
  rw [eq_X11_trusted, fl_0 h, fl_0 h, hK.1, hK.2.2.2.1]
  rfl
theorem r_counts (h : gs_Sh m T) (hK : gs_Kn m n kn D) (e3 : m.2.1 119 3 = Int32.ofNat n) (hn : n ≤ 12) (hg : g < n) : gs_exec X (d + 2) 268 [.inr (.inr 116), .inl (Int32.ofNat g)] m = gs_rI (b2 (trd kn D g)) m := by
  obtain ⟨-, hk, hs, -, hD⟩ := hK
  have hc : isIx (Int32.ofNat g) (Int32.ofNat n) := ⟨gs_nneg (by omega), (gs_nlt (by omega) (by omega)).mpr hg⟩
  have hkm : (if m.2.1 116 37 < 0 then m.2.1 119 3 else m.2.1 116 37) = Int32.ofNat kn := by
    rcases hs with ⟨e, ek⟩ | e
    · rw [e, if_pos (by decide), e3, ek]
    · rw [e, if_neg (gs_nneg (by omega))]
  rw [eq_X12_counts, fl_116 h, r_isGuest h, gs_bI_s, b2_if, e3, if_pos hc, fl_116 h, r_knownMany h, gs_bI_s, hkm]
  unfold b2
  by_cases h1 : g < kn
  · rw [if_pos ((gs_nlt (by omega) (by omega)).mpr h1), fl_116 h, hD, r_isOf, gs_bI_s, b2_if]
    by_cases h2 : isBit D (Int32.ofNat g)
    · rw [if_pos h2, if_neg (show ¬ trd kn D g from fun q => q.2 h2)]; rfl
    · rw [if_neg h2, if_pos (show trd kn D g from ⟨h1, h2⟩)]; rfl
  · rw [if_neg (fun q => h1 ((gs_nlt (by omega) (by omega)).mp q)), if_neg (show ¬ trd kn D g from fun q => h1 q.1)]; rfl
end TRU
