/-! The class's search for a cloud. -/
def rsF (x i : Nat) : Prop := x = 13 ∨ (x = 6 ∧ i = 10)
def kM (m : gs_M) (T n k : Nat) (dr own : Nat → Nat) (t : Nat) : Prop := gs_Sh m T ∧ m.2.1 6 8 = Int32.ofNat k ∧ n ≤ 12 ∧ k ≤ 10 ∧ (∀ g, g < n → m.2.1 15 g = Int32.ofNat (dr g)) ∧ (∀ c, c < k → m.2.1 13 c = gI (own c)) ∧ m.2.1 6 10 = Int32.ofNat t
theorem and_pow {s c : Nat} (hc : c ≤ 12) : Int32.ofNat s &&& ((1 : Int32) <<< (Int32.ofNat c &&& 31)) = 0 ↔ ¬ tB s c := by
  have e : Int32.ofNat s &&& ((1 : Int32) <<< (Int32.ofNat c &&& 31)) = Int32.ofNat (s &&& 2 ^ c) := by
    rw [shl_pow c hc]
    apply Int32.toBitVec_inj.mp
    rw [Int32.toBitVec_and, Int32.toBitVec_ofNat', Int32.toBitVec_ofNat', Int32.toBitVec_ofNat', BitVec.ofNat_and]
  have b : 2 ^ c ≤ 2 ^ 12 := Nat.pow_le_pow_right (by decide) hc
  have p : 0 < 2 ^ c := Nat.pow_pos (by decide)
  have le : s &&& 2 ^ c ≤ 2 ^ c := Nat.and_le_right
  rw [e]
  constructor
  · intro q z
    have q2 := (n_eq (b := 0) (by omega) (by omega)).mp q
    have w : (s &&& 2 ^ c).testBit c = true := by
      rw [Nat.testBit_and, z, Nat.testBit_two_pow_self]
      rfl
    rw [q2] at w
    simp at w
  · intro q
    have w : s &&& 2 ^ c = 0 := by
      apply Nat.eq_of_testBit_eq
      intro i
      rw [Nat.testBit_and, Nat.zero_testBit, Nat.testBit_two_pow]
      by_cases z : c = i
      · rw [← z, Bool.eq_false_iff.mpr q]
        rfl
      · rw [decide_eq_false z, Bool.and_false]
    rw [w]
    rfl
section FI
variable {X : gs_E} {d : Nat} {m M : gs_M} {T n k g c h i : Nat} {dr own own' : Nat → Nat} {t t' : Nat}
theorem x_i13 (h : gs_Sh m T) (hc : c < 10) {K : Nat → gs_O} : gs_ix m 13 13 (Int32.ofNat c) K = K c := gs_ixn h.1 rfl hc
theorem x_i15 (h : gs_Sh m T) (hg : g < 12) {K : Nat → gs_O} : gs_ix m 15 13 (Int32.ofNat g) K = K g := gs_ixn h.1 rfl hg
theorem kM_tr (hM : kM m T n k dr own t) (x : Nat) : kM (gs_sI m 6 10 (Int32.ofNat x)) T n k dr own x := by
  obtain ⟨a, b, c, e, f, p, q⟩ := hM
  refine ⟨sh_sI a, ?_, c, e, fun g hg => ?_, fun c hc => ?_, gs_sIe _ _ _ _⟩
  · rw [gs_sIn (Or.inr (by decide))]; exact b
  · rw [gs_sIn (Or.inl (by decide))]; exact f g hg
  · rw [gs_sIn (Or.inl (by decide))]; exact p c hc
theorem kM_own (hM : kM m T n k dr own t) : kM (gs_sI m 13 i (Int32.ofNat g)) T n k dr (uN own i (g + 1)) t := by
  obtain ⟨a, b, c, e, f, p, q⟩ := hM
  refine ⟨sh_sI a, ?_, c, e, fun g hg => ?_, fun c hc => ?_, ?_⟩
  · rw [gs_sIn (Or.inl (by decide))]; exact b
  · rw [gs_sIn (Or.inl (by decide))]; exact f g hg
  · by_cases z : c = i
    · rw [z, gs_sIe, uN_e]; rfl
    · rw [gs_sIn (Or.inr z), uN_n z]; exact p c hc
  · rw [gs_sIn (Or.inl (by decide))]; exact q
/-- what a search leaves behind -/
def kR (o : gs_O) (m : gs_M) (T n k : Nat) (dr own : Nat → Nat) (t g : Nat) : Prop := (∃ M own' t', o = gs_rI 1 M ∧ gs_Wx rsF m M ∧ kM M T n k dr own' t' ∧ kA own' n k dr ∧ kS own own' t k g) ∨ (∃ M t', o = gs_rI 0 M ∧ gs_Wx rsF m M ∧ kM M T n k dr own t' ∧ kF own t t' k dr g)
theorem x_fc_loop {r dep : Nat} (hg : g < n) (hA : kA own n k dr) (hJ : kJ own t k) (hN : kN own t k g) (ht : dep ≤ cb t k) (hr : dep + r = 10)
    (rec : ∀ r', r = r' + 1 → ∀ (m : gs_M) (g t : Nat), kM m T n k dr own t → g < n → kJ own t k → kN own t k g → dep + 1 ≤ cb t k → kR (gs_exec X (d + r) 40 [.inr (.inr 6), .inl (Int32.ofNat g), .inl (Int32.ofNat (dep + 1))] m) m T n k dr own t g) :
    ∀ (q i F : Nat) (M : gs_M) (t' : Nat), i + q = k → q < F → gs_Wx rsF m M → kM M T n k dr own t' → kL own t t' k dr g i → cb t k ≤ cb t' k → kR (gs_iter X (gs_exec X (d + r)) gT_X4_findsCloud F 10 [(0, .inr (.inr 6)), (1, .inl (Int32.ofNat g)), (2, .inl (Int32.ofNat dep)), (3, .inl (Int32.ofNat i))] [] M) m T n k dr own t g := by
  intro q
  induction q with
  | zero =>
    intro i F M t' hi hF hW hM hL hcb
    obtain ⟨F, rfl⟩ : ∃ y, F = y + 1 := ⟨F - 1, by omega⟩
    obtain ⟨h, e8, hn, hk, h15, h13, h10⟩ := id hM
    rw [eq_X4_findsCloud_10, fl_6 h, e8, if_neg (fun y => by have := (gs_nlt (by omega) (by omega)).mp y; omega), gs_bt0]
    rw [show i = k by omega] at hL
    exact Or.inr ⟨M, t', rfl, hW, hM, hL⟩
  | succ q ih =>
    intro i F M t' hi hF hW hM hL hcb
    obtain ⟨F, rfl⟩ : ∃ y, F = y + 1 := ⟨F - 1, by omega⟩
    obtain ⟨h, e8, hn, hk, h15, h13, h10⟩ := id hM
    rw [eq_X4_findsCloud_10, fl_6 h, e8, if_pos ((gs_nlt (by omega) (by omega)).mpr (by omega)), fl_6 h, sh_6_12 h, gs_nn_s, x_i15 h (by omega), h15 g hg, gs_ns]
    by_cases z1 : tB (dr g) i
    · rw [if_neg (fun y => (and_pow (by omega)).mp y z1), fl_6 h, h10]
      by_cases z2 : tB t' i
      · rw [if_neg (fun y => (and_pow (by omega)).mp y z2)]
        exact ih (i + 1) F M t' (by omega) (by omega) hW hM (kL_skip hL (fun _ => z2)) hcb
      · have hz := cb_or k (show i < k by omega) z2
        have hc2 := cb_le (t' ||| 2 ^ i) k
        have zt : ¬ tB t i := fun y => z2 (hL.1 i (by omega) y)
        have hJ' := kJ_sub hJ hL.1
        have hN' := kN_sub hN hL.1
        rw [if_pos ((and_pow (by omega)).mpr z2), fl_6 h, fl_6 h, or_pow (by omega)]
        simp only [gs_fld_sI, gs_ix_sI, gs_sI222, fl_6 h, sh_6_6 h, gs_nn_s, x_i13 h (show i < 10 by omega)]
        have hM1 := kM_tr hM (t' ||| 2 ^ i)
        have hW1 : gs_Wx rsF m (gs_sI M 6 10 (Int32.ofNat (t' ||| 2 ^ i))) := wx_sI hW (Or.inr ⟨rfl, rfl⟩)
        rw [hM1.2.2.2.2.2.1 i (by omega)]
        by_cases z3 : own i = 0
        · rw [z3, if_pos (show gI 0 = -1 from rfl), gs_bt1]
          exact Or.inl ⟨_, _, _, rfl, wx_sI hW1 (Or.inl rfl), kM_own hM1, kA_upd hA hg z1, kS_weak hJ hN hL.1 (kS_free hJ' hN' (by omega) z2 z3)⟩
        · obtain ⟨y, hy⟩ : ∃ y, own i = y + 1 := ⟨own i - 1, by omega⟩
          have hyn := (hA i (by omega)).1
          have eI : gI (own i) = Int32.ofNat y := by
            rw [hy]
            rfl
          rw [eI, if_neg (gs_neg1 (by omega)), gs_ns]
          obtain ⟨r', hr'⟩ : ∃ r', r = r' + 1 := ⟨r - 1, by omega⟩
          rcases rec r' hr' _ y (t' ||| 2 ^ i) hM1 (by omega) (kJ_sub hJ' (fun c _ q => tb_or.mpr (Or.inl q))) (kN_own hJ' (by omega) z2 hy) (by omega) with ⟨M2, own2, t2, e2, w2, m2, a2, s2⟩ | ⟨M2, t2, e2, w2, m2, f2⟩
          · rw [e2, gs_bI_s, if_neg (by decide), fl_6 m2.1, sh_6_6 m2.1, gs_nn_s, x_i13 m2.1 (by omega), gs_bt1]
            exact Or.inl ⟨_, _, _, rfl, wx_sI (wx_trans hW1 w2) (Or.inl rfl), kM_own m2, kA_upd a2 hg z1, kS_weak hJ hN hL.1 (kS_chain hJ' hN' (by omega) z2 hy s2)⟩
          · rw [e2, gs_bI_s, if_pos rfl]
            have mono : cb t k ≤ cb t2 k := cb_mono k (fun c hc q => f2.1 c hc (tb_or.mpr (Or.inl (hL.1 c hc q))))
            exact ih (i + 1) F M2 t2 (by omega) (by omega) (wx_trans hW1 w2) m2 (kL_fail hL (by omega) hy f2) mono
    · rw [if_pos ((and_pow (by omega)).mpr z1)]
      exact ih (i + 1) F M t' (by omega) (by omega) hW hM (kL_skip hL (fun y => absurd y z1)) hcb
theorem x_finds (hX : gs_Fu X) (hA : kA own n k dr) : ∀ (r dep : Nat) (m : gs_M) (g t : Nat), dep + r = 10 → kM m T n k dr own t → g < n → kJ own t k → kN own t k g → dep ≤ cb t k → kR (gs_exec X (d + r + 1) 40 [.inr (.inr 6), .inl (Int32.ofNat g), .inl (Int32.ofNat dep)] m) m T n k dr own t g := by
  intro r
  induction r with
  | zero =>
    intro dep m g t hd hM hg hJ hN ht
    rw [eq_X4_findsCloud, if_neg (fun y => by have := (gs_nlt (a := 10) (by omega) (by omega)).mp y; omega)]
    exact x_fc_loop (r := 0) hg hA hJ hN ht (by omega) (fun r' e => by omega) k 0 X.1 m t (by omega) (by have := hM.2.2.2.1; unfold gs_Fu at hX; omega) (wx_refl m) hM kL_0 (Nat.le_refl _)
  | succ r ih =>
    intro dep m g t hd hM hg hJ hN ht
    rw [eq_X4_findsCloud, if_neg (fun y => by have := (gs_nlt (a := 10) (by omega) (by omega)).mp y; omega)]
    exact x_fc_loop (r := r + 1) hg hA hJ hN ht (by omega) (fun r' e m g t a1 a2 a3 a4 a5 => ih (dep + 1) m g t (by omega) a1 a2 a3 a4 a5) k 0 X.1 m t (by omega) (by have := hM.2.2.2.1; unfold gs_Fu at hX; omega) (wx_refl m) hM kL_0 (Nat.le_refl _)
end FI
