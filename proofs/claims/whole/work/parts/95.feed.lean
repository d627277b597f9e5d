/-! Feed: the tape on both sides. -/
/-- the tape's size and bytes -/
def gs_Tp (m : gs_M) (z : Nat) : Prop := m.2.1 3 4 = Int32.ofNat z ∧ m.2.1 116 1 = Int32.ofNat z ∧ z ≤ 800 ∧ ∀ j, j < z → m.2.1 4 j = (m.2.1 117 j).toInt8.toInt32 ∧ isN (m.2.1 117 j) 256
abbrev sb (v : Int32) (r : Nat) : Int32 := v >>> (Int32.ofNat (24 - 8 * r) &&& 31)
def wd5 (a b c e f : Int32) (q : Nat) : Int32 := if q = 0 then a else if q = 1 then b else if q = 2 then c else if q = 3 then e else f
abbrev fb (a b c e f : Int32) (j : Nat) : Int32 := sb (wd5 a b c e f (j / 4)) (j % 4)
theorem n_and255 (v : Int32) : ∃ k, k < 256 ∧ v &&& 255 = Int32.ofNat k := by
  refine ⟨(v &&& 255).toBitVec.toNat, ?_, ?_⟩
  · rw [Int32.toBitVec_and, BitVec.toNat_and]
    show v.toBitVec.toNat &&& (2 ^ 8 - 1) < 256
    rw [Nat.and_two_pow_sub_one_eq_mod]
    exact Nat.mod_lt _ (by decide)
  · apply Int32.toBitVec_inj.mp
    rw [Int32.toBitVec_ofNat']
    apply BitVec.eq_of_toNat_eq
    rw [BitVec.toNat_ofNat, Nat.mod_eq_of_lt (BitVec.isLt _)]
theorem b_255b : ∀ i, i < 8 → (255 : Int32).toBitVec.getLsbD i = true := by decide
theorem b_255 (v : Int32) : (v &&& 255).toInt8 = v.toInt8 := by
  apply Int8.toBitVec_inj.mp
  rw [Int32.toBitVec_toInt8, Int32.toBitVec_toInt8]
  apply BitVec.eq_of_getLsbD_eq
  intro i hi
  rw [BitVec.getLsbD_signExtend, BitVec.getLsbD_signExtend, if_pos (show i < 32 by omega), if_pos (show i < 32 by omega), Int32.toBitVec_and, BitVec.getLsbD_and, b_255b i hi, Bool.and_true]
def rsC (x i : Nat) : Prop := x = 4 ∨ (x = 3 ∧ i = 4)
def rsU (x i : Nat) : Prop := x = 117 ∨ (x = 116 ∧ (i = 1 ∨ i = 2))
def xT (m M : gs_M) (z N : Nat) (f : Nat → Int32) : Prop := gs_Wx rsC m M ∧ M.2.1 3 4 = Int32.ofNat (z + N) ∧ (∀ j, j < N → M.2.1 4 (z + j) = (f j).toInt8.toInt32) ∧ ∀ j, j < z → M.2.1 4 j = m.2.1 4 j
def rT (m M : gs_M) (z N : Nat) (f : Nat → Int32) : Prop := gs_Wx rsU m M ∧ M.2.1 116 1 = Int32.ofNat z ∧ (∀ j, j < N → M.2.1 117 (z + j) = f j &&& 255) ∧ ∀ j, j < z → M.2.1 117 j = m.2.1 117 j
section FD
variable {X : gs_E} {d : Nat} {m M : gs_M} {T z N : Nat} {f : Nat → Int32} {a b c e g v x : Int32}
theorem wc_sh {R : Nat → Nat → Prop} (h : gs_Sh m T) (hW : gs_Wx R m M) : gs_Sh M T := by
  unfold gs_Sh at h ⊢
  rw [hW.1, hW.2.1]
  exact h
theorem xT_step {y : Int32} (hx : xT m M z N f) (hy : y = f N) : xT m (gs_sI (gs_sI M 4 (z + N) y.toInt8.toInt32) 3 4 (Int32.ofNat (z + N + 1))) z (N + 1) f := by
  obtain ⟨h1, h2, h3, h4⟩ := hx
  refine ⟨wx_sI (wx_sI h1 (Or.inl rfl)) (Or.inr ⟨rfl, rfl⟩), gs_sIe _ _ _ _, fun j hj => ?_, fun j hj => ?_⟩
  · rw [gs_sIn (Or.inl (by decide))]
    by_cases q : j = N
    · rw [q, gs_sIe, hy]
    · rw [gs_sIn (Or.inr (by omega))]
      exact h3 j (by omega)
  · rw [gs_sIn (Or.inl (by decide)), gs_sIn (Or.inr (by omega))]
    exact h4 j hj
theorem x_put_step {k : Nat} (h : gs_Sh M T) (e : M.2.1 3 4 = Int32.ofNat k) (hk : k < 800) (hv : ¬ x < 0) {F : Nat} : gs_iter X (gs_exec X d) gT_X9_put (F + 1) 3 [(0, .inr (.inr 3)), (1, .inl v), (2, .inl x)] [] M = gs_iter X (gs_exec X d) gT_X9_put F 3 [(0, .inr (.inr 3)), (1, .inl v), (2, .inl (x + (-8)))] [] (gs_sI (gs_sI M 4 k (v >>> (x &&& 31)).toInt8.toInt32) 3 4 (Int32.ofNat (k + 1))) := by
  have e8 : ∀ y : Int32, Int8.toInt32 (Int32.toInt8 (Int8.toInt32 (Int32.toInt8 y))) = Int8.toInt32 (Int32.toInt8 y) := fun y => by simp
  rw [eq_X9_put_3, if_neg hv, fl_3 h, e, if_pos (by show _ < Int32.ofNat 800; rw [gs_nlt (by omega) (by omega)]; omega), fl_3 h, sh_3_0 h, gs_nn_s, fl_3 h, gs_ixn h.1 (show gs_ok 4 12 153 = true from rfl) (show k < 800 from hk), e8]
  have r : (gs_sI M 4 k (v >>> (x &&& 31)).toInt8.toInt32).2.1 3 4 = Int32.ofNat k := by
    rw [gs_sIn (Or.inl (by decide))]
    exact e
  simp only [gs_fld_sI, fl_3 h, r, gs_ns]
theorem x_put (hX : gs_Fu X) (h : gs_Sh m T) (hx : xT m M z N f) (hz : z + N + 4 ≤ 800) (hf : ∀ r, r < 4 → sb v r = f (N + r)) : ∃ M', gs_exec X (d + 1) 106 [.inr (.inr 3), .inl v] M = gs_rU M' ∧ xT m M' z (N + 4) f := by
  obtain ⟨F, hF⟩ : ∃ F, X.1 = F + 1 + 1 + 1 + 1 + 1 := ⟨X.1 - 5, by unfold gs_Fu at hX; omega⟩
  have x1 := xT_step hx (hf 0 (by decide))
  have x2 := xT_step x1 (hf 1 (by decide))
  have x3 := xT_step x2 (hf 2 (by decide))
  have x4 := xT_step x3 (hf 3 (by decide))
  refine ⟨_, ?_, x4⟩
  rw [eq_X9_put, hF, x_put_step (wc_sh h hx.1) hx.2.1 (by omega) (by decide)]
  have s1 := x_put_step (X := X) (d := d) (v := v) (x := (24 : Int32) + (-8)) (F := F + 1 + 1 + 1) (wc_sh h x1.1) x1.2.1 (by omega) (by decide)
  have s2 := x_put_step (X := X) (d := d) (v := v) (x := (24 : Int32) + (-8) + (-8)) (F := F + 1 + 1) (wc_sh h x2.1) x2.2.1 (by omega) (by decide)
  have s3 := x_put_step (X := X) (d := d) (v := v) (x := (24 : Int32) + (-8) + (-8) + (-8)) (F := F + 1) (wc_sh h x3.1) x3.2.1 (by omega) (by decide)
  refine s1.trans (s2.trans (s3.trans ?_))
  rw [eq_X9_put_3, if_pos (by decide)]
  rfl
theorem wd5_at (j q : Nat) (hq : j / 4 = q) : fb a b c e g j = sb (wd5 a b c e g q) (j % 4) := by rw [← hq]
theorem x_feed (hX : gs_Fu X) (h : gs_Sh m T) (e4 : m.2.1 3 4 = Int32.ofNat z) (hz : z ≤ 800) : ∃ M, gs_exec X (d + 2) 117 [.inr (.inr 0), .inl a, .inl b, .inl c, .inl e, .inl g] m = gs_rI (if 800 < z + 20 then -1 else Int32.ofNat (z + 20)) M ∧ (if 800 < z + 20 then M = m else xT m M z 20 (fb a b c e g)) := by
  rw [eq_X11_feed, fl_0 h, sh_0_0 h, gs_nn_s, fl_1 h, sh_1_8 h, gs_nn_s, fl_3 h, e4]
  have e20 : Int32.ofNat z + (20 : Int32) = Int32.ofNat (z + 20) := n_add z 20
  rw [e20]
  by_cases q : 800 < z + 20
  · rw [if_pos q, if_pos (by show Int32.ofNat 800 < _; rw [gs_nlt (by omega) (by omega)]; exact q)]
    exact ⟨m, rfl, by rw [if_pos q]⟩
  · have x0 : xT m m z 0 (fb a b c e g) := ⟨wx_refl m, e4, fun j hj => by omega, fun _ _ => rfl⟩
    have wf : ∀ (N q : Nat) (w : Int32), N = 4 * q → wd5 a b c e g q = w → ∀ r, r < 4 → sb w r = fb a b c e g (N + r) := fun N q w hN hw r hr => by
      rw [wd5_at (N + r) q (by omega), hw, show (N + r) % 4 = r by omega]
    obtain ⟨M1, p1, t1⟩ := x_put (X := X) (d := d) (v := a) hX h x0 (by omega) (wf 0 0 a rfl rfl)
    obtain ⟨M2, p2, t2⟩ := x_put (X := X) (d := d) (v := b) hX h t1 (by omega) (wf 4 1 b rfl rfl)
    obtain ⟨M3, p3, t3⟩ := x_put (X := X) (d := d) (v := c) hX h t2 (by omega) (wf 8 2 c rfl rfl)
    obtain ⟨M4, p4, t4⟩ := x_put (X := X) (d := d) (v := e) hX h t3 (by omega) (wf 12 3 e rfl rfl)
    obtain ⟨M5, p5, t5⟩ := x_put (X := X) (d := d) (v := g) hX h t4 (by omega) (wf 16 4 g rfl rfl)
    refine ⟨M5, ?_, ?_⟩
    · rw [if_neg q, if_neg (by show ¬ Int32.ofNat 800 < _; rw [gs_nlt (by omega) (by omega)]; exact q), fl_3 h, p1, gs_bU_s, fl_3 (wc_sh h t1.1), p2, gs_bU_s, fl_3 (wc_sh h t2.1), p3, gs_bU_s, fl_3 (wc_sh h t3.1), p4, gs_bU_s, fl_3 (wc_sh h t4.1), p5, gs_bU_s, fl_3 (wc_sh h t5.1), t5.2.1]
    · rw [if_neg q]
      exact t5
theorem rT_step {y : Int32} (hx : rT m M z N f) (hy : y = f N &&& 255) : rT m (gs_sI M 117 (z + N) y) z (N + 1) f := by
  obtain ⟨h1, h2, h3, h4⟩ := hx
  refine ⟨wx_sI h1 (Or.inl rfl), by rw [gs_sIn (Or.inl (by decide))]; exact h2, fun j hj => ?_, fun j hj => ?_⟩
  · by_cases q : j = N
    · rw [q, gs_sIe, hy]
    · rw [gs_sIn (Or.inr (by omega))]
      exact h3 j (by omega)
  · rw [gs_sIn (Or.inr (by omega))]
    exact h4 j hj
theorem n_24 : ∀ r, r < 4 → (24 : Int32) - (8 : Int32) * Int32.ofNat r = Int32.ofNat (24 - 8 * r) := by decide
theorem r_feed_loop (h : gs_Sh m T) (hz : z + 20 ≤ 800) : ∀ (q j F : Nat) (M : gs_M), j + q = 20 → q < F → rT m M z j (fb a b c e g) →
    ∃ M', gs_iter X (gs_exec X d) gT_X12_feed F 23 [(0, .inr (.inr 116)), (1, .inl a), (2, .inl b), (3, .inl c), (4, .inl e), (5, .inl g), (6, .inl (Int32.ofNat j))] [] M = gs_rI (Int32.ofNat (z + 20)) (gs_sI M' 116 1 (Int32.ofNat (z + 20))) ∧ rT m M' z 20 (fb a b c e g) := by
  intro q
  induction q with
  | zero =>
    intro j F M hj hF hr
    obtain ⟨F, rfl⟩ : ∃ y, F = y + 1 := ⟨F - 1, by omega⟩
    have hM := wc_sh h hr.1
    have ej : j = 20 := by omega
    subst ej
    have e20 : Int32.ofNat z + (20 : Int32) = Int32.ofNat (z + 20) := n_add z 20
    refine ⟨M, ?_, hr⟩
    rw [eq_X12_feed_23, if_neg (by decide)]
    simp only [gs_fld_sI, fl_116 hM, hr.2.1, e20, gs_sIe]
  | succ q ih =>
    intro j F M hj hF hr
    obtain ⟨F, rfl⟩ : ∃ y, F = y + 1 := ⟨F - 1, by omega⟩
    have hM := wc_sh h hr.1
    have em : Int32.ofNat j - Int32.ofNat j / (4 : Int32) * (4 : Int32) = Int32.ofNat (j % 4) := n_mod (b := 4) (by omega) (by decide)
    have e24 := n_24 (j % 4) (by omega)
    have ez : Int32.ofNat z + Int32.ofNat j = Int32.ofNat (z + j) := n_add z j
    have lt4 : Int32.ofNat j < (4 : Int32) ↔ j < 4 := gs_nlt (b := 4) (by omega) (by decide)
    have lt8 : Int32.ofNat j < (8 : Int32) ↔ j < 8 := gs_nlt (b := 8) (by omega) (by decide)
    have lt12 : Int32.ofNat j < (12 : Int32) ↔ j < 12 := gs_nlt (b := 12) (by omega) (by decide)
    have lt16 : Int32.ofNat j < (16 : Int32) ↔ j < 16 := gs_nlt (b := 16) (by omega) (by decide)
    have lt20 : Int32.ofNat j < (20 : Int32) ↔ j < 20 := gs_nlt (b := 20) (by omega) (by decide)
    have nxt : ∀ w : Int32, wd5 a b c e g (j / 4) = w → ∃ M', gs_iter X (gs_exec X d) gT_X12_feed F 23 [(0, .inr (.inr 116)), (1, .inl a), (2, .inl b), (3, .inl c), (4, .inl e), (5, .inl g), (6, .inl (Int32.ofNat (j + 1)))] [] (gs_sI M 117 (z + j) (w >>> (Int32.ofNat (24 - 8 * (j % 4)) &&& 31) &&& 255)) = gs_rI (Int32.ofNat (z + 20)) (gs_sI M' 116 1 (Int32.ofNat (z + 20))) ∧ rT m M' z 20 (fb a b c e g) := fun w hw => ih (j + 1) F _ (by omega) (by omega) (rT_step hr (by rw [← hw]))
    have i117 : ∀ K : Nat → gs_O, gs_ix M 117 13 (Int32.ofNat (z + j)) K = K (z + j) := fun K => gs_ixn hM.1 rfl (show z + j < 800 by omega)
    rw [eq_X12_feed_23, if_pos (lt20.mpr (by omega))]
    simp only [fl_116 hM, sh_116_0 hM, gs_nn_s, gs_nz_n (show (4 : Int32) ≠ 0 by decide), hr.2.1, ez, i117, em, e24, gs_ns]
    by_cases q0 : j < 4
    · rw [if_pos (lt4.mpr q0)]
      exact nxt a (by rw [show j / 4 = 0 by omega]; rfl)
    rw [if_neg (fun y => q0 (lt4.mp y))]
    by_cases q1 : j < 8
    · rw [if_pos (lt8.mpr q1)]
      exact nxt b (by rw [show j / 4 = 1 by omega]; rfl)
    rw [if_neg (fun y => q1 (lt8.mp y))]
    by_cases q2 : j < 12
    · rw [if_pos (lt12.mpr q2)]
      exact nxt c (by rw [show j / 4 = 2 by omega]; rfl)
    rw [if_neg (fun y => q2 (lt12.mp y))]
    by_cases q3 : j < 16
    · rw [if_pos (lt16.mpr q3)]
      exact nxt e (by rw [show j / 4 = 3 by omega]; rfl)
    rw [if_neg (fun y => q3 (lt16.mp y))]
    exact nxt g (by rw [show j / 4 = 4 by omega]; rfl)
theorem r_feed (hX : gs_Fu X) (h : gs_Sh m T) (e1 : m.2.1 116 1 = Int32.ofNat z) (hz : z ≤ 800) : ∃ M, gs_exec X (d + 1) 174 [.inr (.inr 116), .inl a, .inl b, .inl c, .inl e, .inl g] m = gs_rI (if 800 < z + 20 then -1 else Int32.ofNat (z + 20)) M ∧ (if 800 < z + 20 then M = gs_sI m 116 2 0 else ∃ M1, M = gs_sI M1 116 1 (Int32.ofNat (z + 20)) ∧ rT m M1 z 20 (fb a b c e g)) := by
  have hs : gs_Sh (gs_sI m 116 2 0) T := h
  have e1s : (gs_sI m 116 2 0).2.1 116 1 = Int32.ofNat z := by
    rw [gs_sIn (Or.inr (by decide))]
    exact e1
  have e20 : Int32.ofNat z + (20 : Int32) = Int32.ofNat (z + 20) := n_add z 20
  rw [eq_X12_feed, fl_116 h]
  simp only [gs_fld_sI, fl_116 h, e1s, e20]
  by_cases q : 800 < z + 20
  · rw [if_pos q, if_pos (by show Int32.ofNat 800 < _; rw [gs_nlt (by omega) (by omega)]; exact q)]
    exact ⟨_, rfl, by rw [if_pos q]⟩
  · rw [if_neg q, if_neg (by show ¬ Int32.ofNat 800 < _; rw [gs_nlt (by omega) (by omega)]; exact q)]
    obtain ⟨M', l1, l2⟩ := r_feed_loop (X := X) (d := d) (a := a) (b := b) (c := c) (e := e) (g := g) h (show z + 20 ≤ 800 by omega) 20 0 X.1 (gs_sI m 116 2 0) (by omega) (by unfold gs_Fu at hX; omega) ⟨wx_sI (wx_refl m) (Or.inr ⟨rfl, Or.inr rfl⟩), e1s, fun j hj => by omega, fun j _ => by rw [gs_sIn (Or.inl (by decide))]⟩
    exact ⟨_, l1, by rw [if_neg q]; exact ⟨M', rfl, l2⟩⟩
/-- after both were fed, the tapes agree again -/
theorem tp_feed {M1 M2 : gs_M} (hT : gs_Tp m z) (hq : ¬ 800 < z + 20) (hx : xT m M1 z 20 f) (hr : rT M1 M2 z 20 f) : gs_Tp (gs_sI M2 116 1 (Int32.ofNat (z + 20))) (z + 20) := by
  obtain ⟨t1, t2, t3, t4⟩ := hT
  obtain ⟨x1, x2, x3, x4⟩ := hx
  obtain ⟨r1, r2, r3, r4⟩ := hr
  refine ⟨?_, gs_sIe _ _ _ _, by omega, fun j hj => ?_⟩
  · rw [gs_sIn (Or.inl (by decide)), r1.2.2 3 4 (fun q => by unfold rsU at q; omega)]
    exact x2
  · rw [gs_sIn (Or.inl (by decide)), gs_sIn (Or.inl (by decide)), r1.2.2 4 j (fun q => by unfold rsU at q; omega)]
    by_cases q : j < z
    · rw [x4 j q, r4 j q, x1.2.2 117 j (fun q => by unfold rsC at q; omega)]
      exact t4 j q
    · obtain ⟨i, hi⟩ : ∃ i, j = z + i := ⟨j - z, by omega⟩
      rw [hi, x3 i (by omega), r3 i (by omega), b_255]
      obtain ⟨k, hk, ek⟩ := n_and255 (f i)
      exact ⟨rfl, k, hk, ek⟩
end FD
