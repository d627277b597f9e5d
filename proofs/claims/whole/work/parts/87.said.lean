/-! What may be said of a cloud. -/
/-- how many of the first guests can go with a cloud, how many of the first clouds with a guest -/
def nGu (tl : Nat → Nat → Nat) (c : Nat) : Nat → Nat
  | 0 => 0
  | g + 1 => nGu tl c g + if tl g c = 100000 then 0 else 1
def nCl (tl : Nat → Nat → Nat) (g : Nat) : Nat → Nat
  | 0 => 0
  | c + 1 => nCl tl g c + if tl g c = 100000 then 0 else 1
/-- one more than the guest that goes with a cloud, or 0 -/
def gN (σ : Nat → Nat) (c : Nat) : Nat → Nat
  | 0 => 0
  | g + 1 => if σ g = c then g + 1 else gN σ c g
def gI (z : Nat) : Int32 := if z = 0 then -1 else Int32.ofNat (z - 1)
def gm (tl : Nat → Nat → Nat) (c : Nat) : Nat → Nat
  | 0 => 0
  | g + 1 => if tl g c = 100000 then gm tl c g else gm tl c g ||| 2 ^ g
def cb (x : Nat) : Nat → Nat
  | 0 => 0
  | k + 1 => cb x k + if x.testBit k = true then 1 else 0
theorem n_1lt {b : Nat} (hb : b < 2147483648) : (1 : Int32) < Int32.ofNat b ↔ 1 < b := gs_nlt (a := 1) (by decide) hb
theorem nGu_le {tl : Nat → Nat → Nat} {c : Nat} : ∀ n, nGu tl c n ≤ n
  | 0 => Nat.le_refl _
  | n + 1 => by
    have := nGu_le (tl := tl) (c := c) n
    show nGu tl c n + (if tl n c = 100000 then 0 else 1) ≤ n + 1
    split <;> omega
theorem nCl_le {tl : Nat → Nat → Nat} {g : Nat} : ∀ n, nCl tl g n ≤ n
  | 0 => Nat.le_refl _
  | n + 1 => by
    have := nCl_le (tl := tl) (g := g) n
    show nCl tl g n + (if tl g n = 100000 then 0 else 1) ≤ n + 1
    split <;> omega
theorem gm_lt {tl : Nat → Nat → Nat} {c : Nat} : ∀ n, n ≤ 12 → gm tl c n < 2 ^ 12
  | 0, _ => by
    show 0 < 2 ^ 12
    decide
  | n + 1, h => by
    have i := gm_lt (tl := tl) (c := c) n (by omega)
    show (if tl n c = 100000 then gm tl c n else gm tl c n ||| 2 ^ n) < 2 ^ 12
    split
    · exact i
    · exact Nat.or_lt_two_pow i (Nat.pow_lt_pow_right (by decide) (by omega))
theorem gm_bit {tl : Nat → Nat → Nat} {c j : Nat} : ∀ n, (gm tl c n).testBit j = true ↔ (j < n ∧ tl j c ≠ 100000)
  | 0 => by
    show (0 : Nat).testBit j = true ↔ _
    simp
  | n + 1 => by
    have i := gm_bit (tl := tl) (c := c) (j := j) n
    show (if tl n c = 100000 then gm tl c n else gm tl c n ||| 2 ^ n).testBit j = true ↔ _
    by_cases z : tl n c = 100000
    · rw [if_pos z, i]
      constructor
      · exact fun q => ⟨by omega, q.2⟩
      · intro q
        by_cases e : j = n
        · rw [e] at q
          exact absurd z q.2
        · exact ⟨by omega, q.2⟩
    · rw [if_neg z, tb_or, i]
      constructor
      · rintro (q | q)
        · exact ⟨by omega, q.2⟩
        · rw [← q]
          exact ⟨by omega, z⟩
      · intro q
        by_cases e : n = j
        · exact Or.inr e
        · exact Or.inl ⟨by omega, q.2⟩
theorem gm_0 {tl : Nat → Nat → Nat} {c : Nat} : ∀ n, gm tl c n = 0 ↔ nGu tl c n = 0
  | 0 => Iff.rfl
  | n + 1 => by
    have i := gm_0 (tl := tl) (c := c) n
    show (if tl n c = 100000 then gm tl c n else gm tl c n ||| 2 ^ n) = 0 ↔ nGu tl c n + (if tl n c = 100000 then 0 else 1) = 0
    by_cases z : tl n c = 100000
    · rw [if_pos z, if_pos z, i]
      exact Iff.rfl
    · rw [if_neg z, if_neg z]
      constructor
      · intro q
        have t : (gm tl c n ||| 2 ^ n).testBit n = true := tb_or.mpr (Or.inr rfl)
        rw [q] at t
        simp at t
      · intro q
        omega
theorem cb_gm {tl : Nat → Nat → Nat} {c n : Nat} : ∀ k, cb (gm tl c n) k = nGu tl c (min k n)
  | 0 => by
    rw [Nat.zero_min]
    rfl
  | k + 1 => by
    have i := cb_gm (tl := tl) (c := c) (n := n) k
    show cb (gm tl c n) k + (if (gm tl c n).testBit k = true then 1 else 0) = _
    rw [i]
    by_cases e : k < n
    · rw [Nat.min_eq_left (by omega), Nat.min_eq_left (by omega)]
      show _ = nGu tl c k + (if tl k c = 100000 then 0 else 1)
      by_cases z : tl k c = 100000
      · rw [if_neg (fun q => (gm_bit n |>.mp q).2 z), if_pos z]
      · rw [if_pos (gm_bit n |>.mpr ⟨e, z⟩), if_neg z]
    · rw [Nat.min_eq_right (by omega), Nat.min_eq_right (by omega), if_neg (fun q => e (gm_bit n |>.mp q).1)]
      rfl
theorem and_one (z : Int32) : z &&& 1 = if z &&& 1 = 1 then 1 else 0 := by
  by_cases h : z &&& 1 = 1
  · rw [if_pos h]
    exact h
  · rw [if_neg h]
    have h2 := fun q => h ((bit_one z).mpr q)
    apply Int32.toBitVec_inj.mp
    rw [Int32.toBitVec_and, show (1 : Int32).toBitVec = 1#32 from rfl, BitVec.and_one_eq_setWidth_ofBool_getLsbD]
    cases e : z.toBitVec.getLsbD 0
    · decide
    · exact absurd e h2
theorem f_mo_cb {x : Nat} : ∀ q k, k + q ≤ 16 → f_mo (Int32.ofNat x) q k (Int32.ofNat (cb x k)) = Int32.ofNat (cb x (k + q))
  | 0, k, _ => rfl
  | q + 1, k, h => by
    show f_mo (Int32.ofNat x) q (k + 1) (Int32.ofNat (cb x k) + ((Int32.ofNat x >>> (Int32.ofNat k &&& 31)) &&& 1)) = _
    have e : (Int32.ofNat x >>> (Int32.ofNat k &&& 31)) &&& 1 = Int32.ofNat (if x.testBit k = true then 1 else 0) := by
      rw [and_one]
      by_cases z : x.testBit k = true
      · rw [if_pos ((tb_bit (by omega)).mpr z), if_pos z]
        rfl
      · rw [if_neg (fun y => z ((tb_bit (by omega)).mp y)), if_neg z]
        rfl
    rw [e, n_add]
    have i := f_mo_cb (x := x) q (k + 1) (by omega)
    rw [show k + 1 + q = k + (q + 1) by omega] at i
    exact i
theorem mo_gm {tl : Nat → Nat → Nat} {c n : Nat} (hn : n ≤ 12) : f_mo (Int32.ofNat (gm tl c n)) 16 0 0 = Int32.ofNat (nGu tl c n) := by
  have i := f_mo_cb (x := gm tl c n) 16 0 (by omega)
  have z : Int32.ofNat (cb (gm tl c n) 0) = 0 := rfl
  have z2 : cb (gm tl c n) (0 + 16) = nGu tl c n := by
    rw [cb_gm, Nat.min_eq_right (show n ≤ 0 + 16 by omega)]
  rw [z, z2] at i
  exact i
theorem gN_le {σ : Nat → Nat} {c : Nat} : ∀ n, gN σ c n ≤ n
  | 0 => Nat.le_refl _
  | n + 1 => by
    have := gN_le (σ := σ) (c := c) n
    show (if σ n = c then n + 1 else gN σ c n) ≤ n + 1
    split <;> omega
theorem gN_none {σ : Nat → Nat} {c : Nat} : ∀ n, (∀ g, g < n → σ g ≠ c) → gN σ c n = 0
  | 0, _ => rfl
  | n + 1, h => by
    show (if σ n = c then n + 1 else gN σ c n) = 0
    rw [if_neg (h n (by omega))]
    exact gN_none n (fun g hg => h g (by omega))
theorem gN_one {σ : Nat → Nat} {c g : Nat} (e : σ g = c) : ∀ n, g < n → (∀ h, g < h → h < n → σ g ≠ σ h) → gN σ c n = g + 1
  | 0, hg, _ => by omega
  | n + 1, hg, h => by
    show (if σ n = c then n + 1 else gN σ c n) = g + 1
    by_cases z : g = n
    · rw [← z, if_pos e]
    · rw [if_neg (fun y => h n (by omega) (by omega) (e.trans y.symm))]
      exact gN_one e n (by omega) (fun j h1 h2 => h j h1 (by omega))
theorem sgm_inj {tl : Nat → Nat → Nat} {n k : Nat} (hk : k ≤ 10) : ∀ g h, g < h → h < n → sgm tl n k g ≠ 10 → sgm tl n k g ≠ sgm tl n k h := by
  obtain ⟨gv, -⟩ := grd_v (t := tl) (n := n) hk n 0
  have glen := vld_len n 0 _ gv
  have ge : lst (sgm tl n k) n n = grd tl n k n 0 := by
    have := lst_get glen n (Nat.le_refl _)
    rw [Nat.sub_self] at this
    exact this
  have gi := vld_inv (t := tl) (n := n) (σ := sgm tl n k) hk n 0 (Nat.le_refl _) (by rw [ge]; exact gv)
  exact fun g h h1 h2 h3 => gi.2 g h (by omega) h1 h2 h3
section SAI
variable {X : gs_E} {d : Nat} {m M : gs_M} {T n n0 n1 n2 n5 turn price blur limit kn k g c : Nat} {D x w : Int32} {tl tf : Nat → Nat → Nat}
def f_said (tl : Nat → Nat → Nat) (n k : Nat) (x : Int32) : Int32 := if isIx x (Int32.ofNat k) then (if nGu tl x.toInt.toNat n = 0 then 0 else if gN (sgm tl n k) x.toInt.toNat n = 0 then 1 else if 1 < nGu tl x.toInt.toNat n then 2 else if 1 < nCl tl (gN (sgm tl n k) x.toInt.toNat n - 1) k then 3 else 4) else -1
theorem x_abl {g c : Nat} (h : gs_Sh m T) (hn : n ≤ 12) (hk : k ≤ 10) (h7 : ∀ g c, g < n → c < k → m.2.1 7 (g * 10 + c) = tlI tl g c) (hT : ∀ g c, g < n → c < k → tl g c = 100000 ∨ tl g c ≤ 999) (hg : g < n) (hc : c < k) : gs_exec X (d + 1) 30 [.inr (.inr 6), .inl (Int32.ofNat g), .inl (Int32.ofNat c)] m = gs_rI (b2 (¬ tl g c = 100000)) m := by
  have e : tlI tl g c = -1 ↔ tl g c = 100000 := by
    unfold tlI
    rcases hT g c hg hc with z | z
    · rw [if_pos z]
      exact ⟨fun _ => z, fun _ => rfl⟩
    · rw [if_neg (by omega)]
      exact ⟨fun q => absurd q (gs_neg1 (by omega)), fun q => by omega⟩
  rw [eq_X4_isAble, fl_6 h, sh_6_0 h, gs_nn_s, x_i7 h (by omega) (by omega), h7 g c hg hc]
  unfold b2
  by_cases z : tl g c = 100000
  · rw [if_pos (e.mpr z), if_neg (fun q => q z)]; rfl
  · rw [if_neg (fun q => z (e.mp q)), if_pos z]; rfl
theorem x_gf_loop (h : gs_Sh m T) (hn : n ≤ 12) (hk : k ≤ 10) (e7 : m.2.1 6 7 = Int32.ofNat n) (h7 : ∀ g c, g < n → c < k → m.2.1 7 (g * 10 + c) = tlI tl g c) (hT : ∀ g c, g < n → c < k → tl g c = 100000 ∨ tl g c ≤ 999) (hc : c < k) : ∀ (q g F : Nat), g + q = n → q < F → gs_iter X (gs_exec X (d + 1)) gT_X4_guestsFor F 4 [(0, .inr (.inr 6)), (1, .inl (Int32.ofNat c)), (2, .inl (Int32.ofNat (nGu tl c g))), (3, .inl (Int32.ofNat g))] [] m = gs_rI (Int32.ofNat (nGu tl c n)) m := by
  intro q
  induction q with
  | zero =>
    intro g F hg hF
    obtain ⟨F, rfl⟩ : ∃ y, F = y + 1 := ⟨F - 1, by omega⟩
    rw [eq_X4_guestsFor_4, fl_6 h, e7, if_neg (fun y => by have := (gs_nlt (by omega) (by omega)).mp y; omega), show g = n by omega]
  | succ q ih =>
    intro g F hg hF
    obtain ⟨F, rfl⟩ : ∃ y, F = y + 1 := ⟨F - 1, by omega⟩
    have i := ih (g + 1) F (by omega) (by omega)
    rw [eq_X4_guestsFor_4, fl_6 h, e7, if_pos ((gs_nlt (by omega) (by omega)).mpr (by omega)), fl_6 h, x_abl h hn hk h7 hT (by omega) hc, gs_bI_s, b2_if, gs_ns, gs_ns]
    have e : nGu tl c (g + 1) = nGu tl c g + (if tl g c = 100000 then 0 else 1) := rfl
    by_cases z : tl g c = 100000
    · rw [if_pos z] at e
      have e2 : nGu tl c (g + 1) = nGu tl c g := e
      rw [if_neg (fun y => y z), ← e2]
      exact i
    · rw [if_neg z] at e
      rw [if_pos z, ← e]
      exact i
theorem x_cf_loop (h : gs_Sh m T) (hn : n ≤ 12) (hk : k ≤ 10) (e8 : m.2.1 6 8 = Int32.ofNat k) (h7 : ∀ g c, g < n → c < k → m.2.1 7 (g * 10 + c) = tlI tl g c) (hT : ∀ g c, g < n → c < k → tl g c = 100000 ∨ tl g c ≤ 999) (hg : g < n) : ∀ (q c F : Nat), c + q = k → q < F → gs_iter X (gs_exec X (d + 1)) gT_X4_cloudsFor F 4 [(0, .inr (.inr 6)), (1, .inl (Int32.ofNat g)), (2, .inl (Int32.ofNat (nCl tl g c))), (3, .inl (Int32.ofNat c))] [] m = gs_rI (Int32.ofNat (nCl tl g k)) m := by
  intro q
  induction q with
  | zero =>
    intro c F hc hF
    obtain ⟨F, rfl⟩ : ∃ y, F = y + 1 := ⟨F - 1, by omega⟩
    rw [eq_X4_cloudsFor_4, fl_6 h, e8, if_neg (fun y => by have := (gs_nlt (by omega) (by omega)).mp y; omega), show c = k by omega]
  | succ q ih =>
    intro c F hc hF
    obtain ⟨F, rfl⟩ : ∃ y, F = y + 1 := ⟨F - 1, by omega⟩
    have i := ih (c + 1) F (by omega) (by omega)
    rw [eq_X4_cloudsFor_4, fl_6 h, e8, if_pos ((gs_nlt (by omega) (by omega)).mpr (by omega)), fl_6 h, x_abl h hn hk h7 hT hg (by omega), gs_bI_s, b2_if, gs_ns, gs_ns]
    have e : nCl tl g (c + 1) = nCl tl g c + (if tl g c = 100000 then 0 else 1) := rfl
    by_cases z : tl g c = 100000
    · rw [if_pos z] at e
      have e2 : nCl tl g (c + 1) = nCl tl g c := e
      rw [if_neg (fun y => y z), ← e2]
      exact i
    · rw [if_neg z] at e
      rw [if_pos z, ← e]
      exact i
theorem sgI_eq (hn : n ≤ 12) (hk : k ≤ 10) (hg : g < n) (hc : c < k) : sgI (sgm tl n k) k g = Int32.ofNat c ↔ sgm tl n k g = c := by
  unfold sgI
  rcases grd_at (tl := tl) hn hk hg with e | ⟨e1, e2⟩
  · rw [if_neg (by omega)]
    exact ⟨fun q => absurd q.symm (gs_neg1 (by omega)), fun q => by omega⟩
  · rw [if_pos e1, n_eq (by omega) (by omega)]
theorem x_go_loop (h : gs_Sh m T) (hn : n ≤ 12) (hk : k ≤ 10) (e7 : m.2.1 6 7 = Int32.ofNat n) (h14 : ∀ g, g < n → m.2.1 14 g = sgI (sgm tl n k) k g) (hc : c < k) : ∀ (q g F : Nat), g + q = n → q < F → (∀ i, i < g → sgm tl n k i ≠ c) → gs_iter X (gs_exec X d) gT_X4_guestOf F 2 [(0, .inr (.inr 6)), (1, .inl (Int32.ofNat c)), (2, .inl (Int32.ofNat g))] [] m = gs_rI (gI (gN (sgm tl n k) c n)) m := by
  intro q
  induction q with
  | zero =>
    intro g F hg hF hno
    obtain ⟨F, rfl⟩ : ∃ y, F = y + 1 := ⟨F - 1, by omega⟩
    rw [eq_X4_guestOf_2, fl_6 h, e7, if_neg (fun y => by have := (gs_nlt (by omega) (by omega)).mp y; omega), gN_none n (fun i hi => hno i (by omega))]
    rfl
  | succ q ih =>
    intro g F hg hF hno
    obtain ⟨F, rfl⟩ : ∃ y, F = y + 1 := ⟨F - 1, by omega⟩
    rw [eq_X4_guestOf_2, fl_6 h, e7, if_pos ((gs_nlt (by omega) (by omega)).mpr (by omega)), fl_6 h, sh_6_11 h, gs_nn_s, x_i14 h (by omega), h14 g (by omega), gs_ns]
    by_cases z : sgm tl n k g = c
    · rw [if_pos ((sgI_eq hn hk (by omega) hc).mpr z), gN_one z n (by omega) (fun j h1 h2 => sgm_inj hk g j h1 h2 (by omega))]
      rfl
    · rw [if_neg (fun y => z ((sgI_eq hn hk (by omega) hc).mp y))]
      exact ih (g + 1) F (by omega) (by omega) (fun i hi => by
        by_cases e : i = g
        · rw [e]
          exact z
        · exact hno i (by omega))
theorem tlF_v (hl : limit ≤ 999) : tlF m price blur limit kn D g c = 100000 ∨ tlF m price blur limit kn D g c ≤ 999 := by
  unfold tlF
  split
  · omega
  · exact Or.inl rfl
theorem x_said (hX : gs_Fu X) (hP : gs_Pa m T n n0 n1 n2 n5 turn blur price limit kn D) (hC : gs_CP m n n5 price blur limit kn D) : ∃ M, gs_exec X (d + 8) 142 [.inr (.inr 0), .inl x] m = gs_rI (f_said (tlF m price blur limit kn D) n n5 x) M ∧ gs_Wx rsP m M ∧ gs_CP M n n5 price blur limit kn D := by
  obtain ⟨a1, a2, a3, a4, a5, a6⟩ := id hP
  obtain ⟨h, hn3, -, hn, -⟩ := id a1.1
  obtain ⟨-, hk5, hk3, hk, -⟩ := id a1.2.2.1
  unfold f_said
  rw [eq_X11_said, fl_0 h, x_isCloud h, gs_bI_s, b2_if, hk5]
  by_cases hc : isIx x (Int32.ofNat n5)
  · obtain ⟨c, hg, rfl, eg⟩ := i_gst hc (by omega)
    obtain ⟨M, e, hW, h7, hPC⟩ := x_reckonPairs (X := X) (d := d) hX a1 a4 a2 a5 hC
    have hM := wd_sh h (wd_p hW)
    refine ⟨M, ?_, hW, fun _ => hPC⟩
    rw [wd_tlF (wd_p hW)] at hPC
    obtain ⟨p7, p8, pt, p14, -, -⟩ := hPC
    have hT := fun g c (_ : g < n) (_ : c < n5) => tlF_v (m := m) (price := price) (blur := blur) (kn := kn) (D := D) (g := g) (c := c) a4
    rw [if_pos hc, if_pos hc, eg]
    generalize tlF m price blur limit kn D = tl at pt p14 hT ⊢
    have l1 := x_gf_loop (X := X) (d := d + 5) (c := c) hM hn hk p7 pt hT hg n 0 X.1 (by omega) (by unfold gs_Fu at hX; omega)
    have l2 := x_go_loop (X := X) (d := d + 6) (c := c) hM hn hk p7 p14 hg n 0 X.1 (by omega) (by unfold gs_Fu at hX; omega) (fun i hi => by omega)
    have l1b : gs_iter X (gs_exec X (d + 6)) gT_X4_guestsFor X.1 4 [(0, .inr (.inr 6)), (1, .inl (Int32.ofNat c)), (2, .inl 0), (3, .inl 0)] [] M = _ := l1
    have l2b : gs_iter X (gs_exec X (d + 6)) gT_X4_guestOf X.1 2 [(0, .inr (.inr 6)), (1, .inl (Int32.ofNat c)), (2, .inl 0)] [] M = _ := l2
    have b1 := nGu_le (tl := tl) (c := c) n
    have b2 := gN_le (σ := sgm tl n n5) (c := c) n
    rw [fl_0 h, e, gs_bU_s, fl_0 hM, sh_0_1 hM, gs_nn_s, fl_6 hM, eq_X4_guestsFor, l1b, gs_bI_s]
    by_cases z1 : nGu tl c n = 0
    · rw [if_pos z1, z1, if_pos (show Int32.ofNat 0 = 0 from rfl)]
    rw [if_neg z1, if_neg (fun y => z1 ((n_eq (by omega) (by omega)).mp (y.trans (show (0 : Int32) = Int32.ofNat 0 from rfl)))), fl_0 hM, sh_0_1 hM, gs_nn_s, fl_6 hM, eq_X4_guestOf, l2b, gs_bI_s]
    by_cases z2 : gN (sgm tl n n5) c n = 0
    · rw [if_pos z2, z2, if_pos (show gI 0 = -1 from rfl)]
    have eI : gI (gN (sgm tl n n5) c n) = Int32.ofNat (gN (sgm tl n n5) c n - 1) := by
      unfold gI
      rw [if_neg z2]
    rw [if_neg z2, eI, if_neg (gs_neg1 (by omega))]
    by_cases z3 : 1 < nGu tl c n
    · rw [if_pos z3, if_pos ((n_1lt (by omega)).mpr z3)]
    have l3 := x_cf_loop (X := X) (d := d + 5) (g := gN (sgm tl n n5) c n - 1) hM hn hk p8 pt hT (by omega) n5 0 X.1 (by omega) (by unfold gs_Fu at hX; omega)
    have l3b : gs_iter X (gs_exec X (d + 6)) gT_X4_cloudsFor X.1 4 [(0, .inr (.inr 6)), (1, .inl (Int32.ofNat (gN (sgm tl n n5) c n - 1))), (2, .inl 0), (3, .inl 0)] [] M = _ := l3
    have b3 := nCl_le (tl := tl) (g := gN (sgm tl n n5) c n - 1) n5
    rw [if_neg z3, if_neg (fun y => z3 ((n_1lt (by omega)).mp y)), fl_0 hM, sh_0_1 hM, gs_nn_s, fl_6 hM, eq_X4_cloudsFor, l3b, gs_bI_s]
    by_cases z4 : 1 < nCl tl (gN (sgm tl n n5) c n - 1) n5
    · rw [if_pos z4, if_pos ((n_1lt (by omega)).mpr z4)]
    · rw [if_neg z4, if_neg (fun y => z4 ((n_1lt (by omega)).mp y))]
  · rw [if_neg hc, if_neg hc]
    exact ⟨m, rfl, wx_refl m, hC⟩
theorem i_able {t : Nat} (h : t = 100000 ∨ t ≤ 999) : Int32.ofNat t < (100000 : Int32) ↔ t ≠ 100000 := by
  rw [show (100000 : Int32) = Int32.ofNat 100000 from rfl, gs_nlt (by omega) (by omega)]
  omega
theorem r_gr_loop (h : gs_Sh m T) (e3 : m.2.1 119 3 = Int32.ofNat n) (hn : n ≤ 12) (hk : k ≤ 10) (h148 : ∀ g c, g < n → c < k → m.2.1 148 (10 * g + c) = Int32.ofNat (tl g c)) (hT : ∀ g c, g < n → c < k → tl g c = 100000 ∨ tl g c ≤ 999) (hc : c < k) : ∀ (q g F : Nat), g + q = n → q < F → gs_iter X (gs_exec X d) gT_X12_goers F 4 [(0, .inr (.inr 116)), (1, .inl (Int32.ofNat c)), (2, .inl (Int32.ofNat (gm tl c g))), (3, .inl (Int32.ofNat g))] [] m = gs_rI (Int32.ofNat (gm tl c n)) m := by
  intro q
  induction q with
  | zero =>
    intro g F hg hF
    obtain ⟨F, rfl⟩ : ∃ y, F = y + 1 := ⟨F - 1, by omega⟩
    rw [eq_X12_goers_4, fl_116 h, sh_116_12 h, gs_nn_s, r_i119_3 h, e3, if_neg (fun y => by have := (gs_nlt (by omega) (by omega)).mp y; omega), show g = n by omega]
  | succ q ih =>
    intro g F hg hF
    obtain ⟨F, rfl⟩ : ∃ y, F = y + 1 := ⟨F - 1, by omega⟩
    have i := ih (g + 1) F (by omega) (by omega)
    rw [eq_X12_goers_4, fl_116 h, sh_116_12 h, gs_nn_s, r_i119_3 h, e3, if_pos ((gs_nlt (by omega) (by omega)).mpr (by omega)), fl_116 h, sh_116_55 h, gs_nn_s, r_i148 h (by omega) (by omega), h148 g c (by omega) hc, gs_ns, or_pow (by omega), show Int32.ofNat (gm tl c g) ||| (0 : Int32) = Int32.ofNat (gm tl c g) by simp]
    have e : gm tl c (g + 1) = if tl g c = 100000 then gm tl c g else gm tl c g ||| 2 ^ g := rfl
    by_cases z : tl g c = 100000
    · rw [if_pos z] at e
      rw [if_neg (fun y => (i_able (hT g c (by omega) hc)).mp y z), ← e]
      exact i
    · rw [if_neg z] at e
      rw [if_pos ((i_able (hT g c (by omega) hc)).mpr z), ← e]
      exact i
theorem r_gw_loop (h : gs_Sh m T) (e5 : m.2.1 119 5 = Int32.ofNat k) (hn : n ≤ 12) (hk : k ≤ 10) (h148 : ∀ g c, g < n → c < k → m.2.1 148 (10 * g + c) = Int32.ofNat (tl g c)) (hT : ∀ g c, g < n → c < k → tl g c = 100000 ∨ tl g c ≤ 999) (hg : g < n) : ∀ (q c F : Nat), c + q = k → q < F → gs_iter X (gs_exec X d) gT_X12_goesWith F 4 [(0, .inr (.inr 116)), (1, .inl (Int32.ofNat g)), (2, .inl (Int32.ofNat (nCl tl g c))), (3, .inl (Int32.ofNat c))] [] m = gs_rI (Int32.ofNat (nCl tl g k)) m := by
  intro q
  induction q with
  | zero =>
    intro c F hc hF
    obtain ⟨F, rfl⟩ : ∃ y, F = y + 1 := ⟨F - 1, by omega⟩
    rw [eq_X12_goesWith_4, fl_116 h, sh_116_12 h, gs_nn_s, r_i119_5 h, e5, if_neg (fun y => by have := (gs_nlt (by omega) (by omega)).mp y; omega), show c = k by omega]
  | succ q ih =>
    intro c F hc hF
    obtain ⟨F, rfl⟩ : ∃ y, F = y + 1 := ⟨F - 1, by omega⟩
    have i := ih (c + 1) F (by omega) (by omega)
    rw [eq_X12_goesWith_4, fl_116 h, sh_116_12 h, gs_nn_s, r_i119_5 h, e5, if_pos ((gs_nlt (by omega) (by omega)).mpr (by omega)), fl_116 h, sh_116_55 h, gs_nn_s, r_i148 h (by omega) (by omega), h148 g c hg (by omega), gs_ns, gs_ns, show Int32.ofNat (nCl tl g c) + (0 : Int32) = Int32.ofNat (nCl tl g c) by simp]
    have e : nCl tl g (c + 1) = nCl tl g c + (if tl g c = 100000 then 0 else 1) := rfl
    by_cases z : tl g c = 100000
    · rw [if_pos z] at e
      have e2 : nCl tl g (c + 1) = nCl tl g c := e
      rw [if_neg (fun y => (i_able (hT g c hg (by omega))).mp y z), ← e2]
      exact i
    · rw [if_neg z] at e
      rw [if_pos ((i_able (hT g c hg (by omega))).mpr z), ← e]
      exact i
theorem pI_eq (hn : n ≤ 12) (hk : k ≤ 10) (hg : g < n) (hc : c < k) : pI (sgm tl n k g) = Int32.ofNat c ↔ sgm tl n k g = c := by
  rw [(pI_neg (tl := tl) hn hk hg).2]
  exact sgI_eq hn hk hg hc
theorem r_sd_loop (hX : gs_Fu X) (h : gs_Sh m T) (e3 : m.2.1 119 3 = Int32.ofNat n) (e5 : m.2.1 119 5 = Int32.ofNat k) (hn : n ≤ 12) (hk : k ≤ 10) (h148 : ∀ g c, g < n → c < k → m.2.1 148 (10 * g + c) = Int32.ofNat (tl g c)) (h150 : ∀ g, g < n → m.2.1 150 g = pI (sgm tl n k g)) (hT : ∀ g c, g < n → c < k → tl g c = 100000 ∨ tl g c ≤ 999) (hc : c < k) : ∀ (q g F : Nat), g + q = n → q < F → gs_iter X (gs_exec X (d + 1)) gT_X12_said F 36 [(0, .inr (.inr 116)), (1, .inl (Int32.ofNat c)), (2, .inl (Int32.ofNat (gm tl c n))), (3, .inl (gI (gN (sgm tl n k) c g))), (4, .inl (Int32.ofNat g))] [] m = gs_rI (if gN (sgm tl n k) c n = 0 then 1 else if 1 < nGu tl c n then 2 else if 1 < nCl tl (gN (sgm tl n k) c n - 1) k then 3 else 4) m := by
  intro q
  induction q with
  | zero =>
    intro g F hg hF
    obtain ⟨F, rfl⟩ : ∃ y, F = y + 1 := ⟨F - 1, by omega⟩
    have b1 := nGu_le (tl := tl) (c := c) n
    have b2 := gN_le (σ := sgm tl n k) (c := c) n
    rw [eq_X12_said_36, fl_116 h, sh_116_12 h, gs_nn_s, r_i119_3 h, e3, if_neg (fun y => by have := (gs_nlt (by omega) (by omega)).mp y; omega), show g = n by omega]
    by_cases z2 : gN (sgm tl n k) c n = 0
    · rw [if_pos z2, z2, if_pos (show gI 0 < 0 by decide)]
    have eI : gI (gN (sgm tl n k) c n) = Int32.ofNat (gN (sgm tl n k) c n - 1) := by
      unfold gI
      rw [if_neg z2]
    rw [if_neg z2, eI, if_neg (gs_nneg (by omega)), r_manyOf hX, gs_bI_s, mo_gm hn]
    by_cases z3 : 1 < nGu tl c n
    · rw [if_pos z3, if_pos ((n_1lt (by omega)).mpr z3)]
    have l3 := r_gw_loop (X := X) (d := d) (g := gN (sgm tl n k) c n - 1) h e5 hn hk h148 hT (by omega) k 0 X.1 (by omega) (by unfold gs_Fu at hX; omega)
    have l3b : gs_iter X (gs_exec X d) gT_X12_goesWith X.1 4 [(0, .inr (.inr 116)), (1, .inl (Int32.ofNat (gN (sgm tl n k) c n - 1))), (2, .inl 0), (3, .inl 0)] [] m = _ := l3
    have b3 := nCl_le (tl := tl) (g := gN (sgm tl n k) c n - 1) k
    rw [if_neg z3, if_neg (fun y => z3 ((n_1lt (by omega)).mp y)), fl_116 h, eq_X12_goesWith, l3b, gs_bI_s]
    by_cases z4 : 1 < nCl tl (gN (sgm tl n k) c n - 1) k
    · rw [if_pos z4, if_pos ((n_1lt (by omega)).mpr z4)]
    · rw [if_neg z4, if_neg (fun y => z4 ((n_1lt (by omega)).mp y))]
  | succ q ih =>
    intro g F hg hF
    obtain ⟨F, rfl⟩ : ∃ y, F = y + 1 := ⟨F - 1, by omega⟩
    have i := ih (g + 1) F (by omega) (by omega)
    rw [eq_X12_said_36, fl_116 h, sh_116_12 h, gs_nn_s, r_i119_3 h, e3, if_pos ((gs_nlt (by omega) (by omega)).mpr (by omega)), fl_116 h, sh_116_57 h, gs_nn_s, r_i150 h (by omega), h150 g (by omega), gs_ns]
    have e : gN (sgm tl n k) c (g + 1) = if sgm tl n k g = c then g + 1 else gN (sgm tl n k) c g := rfl
    by_cases z : sgm tl n k g = c
    · rw [if_pos z] at e
      have e2 : gI (gN (sgm tl n k) c (g + 1)) = Int32.ofNat g := by
        rw [e]
        rfl
      rw [if_pos ((pI_eq hn hk (by omega) hc).mpr z), ← e2]
      exact i
    · rw [if_neg z] at e
      rw [if_neg (fun y => z ((pI_eq hn hk (by omega) hc).mp y)), ← e]
      exact i
theorem r_said (hX : gs_Fu X) (hP : gs_Pa m T n n0 n1 n2 n5 turn blur price limit kn D) : ∃ M, gs_exec X (d + 8) 289 [.inr (.inr 116), .inl x] m = gs_rI (f_said (tlF m price blur limit kn D) n n5 x) M ∧ gs_Wr m M := by
  have hW0 := wr_thr (m := m) (x := 0)
  have hP2 := wr_pa hP hW0
  have h := hP.1.1.1
  obtain ⟨hs, -, e3, hn, -⟩ := id hP2.1.1
  obtain ⟨-, -, e5, hk, -⟩ := id hP2.1.2.2.1
  have a4 := hP.2.2.2.1
  unfold f_said
  rw [eq_X12_said, fl_116 h]
  show ∃ M, gs_fld (gs_sI m 116 2 0) 116 11 _ = _ ∧ _
  rw [fl_116 hs, r_isCloud hs, gs_bI_s, b2_if, e5]
  by_cases hc : isIx x (Int32.ofNat n5)
  · obtain ⟨c, hg, rfl, eg⟩ := i_gst hc (by omega)
    obtain ⟨M, e, hW, h148, h150⟩ := r_pairsN (X := X) (d := d) hX hP2
    rw [wd_tlF (wd_r hW0)] at h148 h150
    have hWr := wq_r hW
    have hM := wr_sh hs hWr
    have hPM := wr_pa hP2 hWr
    have e3M := hPM.1.1.2.2.1
    have e5M := hPM.1.2.2.1.2.2.1
    have hT := fun g c (_ : g < n) (_ : c < n5) => tlF_v (m := m) (price := price) (blur := blur) (kn := kn) (D := D) (g := g) (c := c) a4
    refine ⟨M, ?_, wr_trans hW0 hWr⟩
    rw [if_pos hc, if_pos hc, fl_116 hs, e, gs_bU_s, fl_116 hM, eg]
    generalize tlF m price blur limit kn D = tl at h148 h150 hT ⊢
    have l1 := r_gr_loop (X := X) (d := d + 6) (c := c) hM e3M hn hk h148 hT hg n 0 X.1 (by omega) (by unfold gs_Fu at hX; omega)
    have l1b : gs_iter X (gs_exec X (d + 6)) gT_X12_goers X.1 4 [(0, .inr (.inr 116)), (1, .inl (Int32.ofNat c)), (2, .inl 0), (3, .inl 0)] [] M = _ := l1
    rw [eq_X12_goers, l1b, gs_bI_s]
    have b1 := gm_lt (tl := tl) (c := c) n hn
    by_cases z1 : nGu tl c n = 0
    · rw [if_pos z1, (gm_0 n).mpr z1, if_pos (show Int32.ofNat 0 = 0 from rfl)]
    · rw [if_neg z1, if_neg (fun y => z1 ((gm_0 n).mp ((n_eq (by omega) (by omega)).mp (y.trans (show (0 : Int32) = Int32.ofNat 0 from rfl)))))]
      exact r_sd_loop (X := X) (d := d + 6) (c := c) hX hM e3M e5M hn hk h148 h150 hT hg n 0 X.1 (by omega) (by unfold gs_Fu at hX; omega)
  · rw [if_neg hc, if_neg hc]
    exact ⟨_, rfl, hW0⟩
end SAI
