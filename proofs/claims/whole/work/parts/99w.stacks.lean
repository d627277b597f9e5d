/-! Rules of sorts, read: signs that wait, knots that are held. -/
def pcd (x : Nat) : Nat := if x = 0 then 37 else if x = 2 then 29 else ckb x
def rkn (x : Nat) : Nat := if 13 ≤ x then 6 else if 11 ≤ x then 5 else if 5 ≤ x then 4 else if x = 2 then 3 else if x = 3 then 2 else if x = 4 then 1 else 0
def pR (c2 b : Nat → Int32) : List Nat → Prop
  | [] => True
  | x :: t => (c2 t.length = Int32.ofNat (pcd x) ∧ b t.length = Int32.ofNat x ∧ x < 15 ∧ x ≠ 1) ∧ pR c2 b t
def hR (b : Nat → Int32) : List Nat → Prop
  | [] => True
  | x :: t => b t.length = Int32.ofNat x ∧ hR b t
def opn : List Nat → Nat
  | [] => 0
  | x :: t => (if x = 0 then 1 else 0) + opn t
def bns : List Nat → Nat
  | [] => 0
  | x :: t => (if 3 ≤ x then 1 else 0) + bns t
theorem pR_c {c2 b c2' b' : Nat → Int32} : ∀ ws : List Nat, (∀ i, i < ws.length → c2' i = c2 i) → (∀ i, i < ws.length → b' i = b i) → pR c2 b ws → pR c2' b' ws
  | [], _, _, _ => trivial
  | x :: t, h1, h2, h => ⟨by
      rw [h1 t.length (Nat.lt_succ_self _), h2 t.length (Nat.lt_succ_self _)]
      exact h.1, pR_c t (fun i hi => h1 i (Nat.lt_succ_of_lt hi)) (fun i hi => h2 i (Nat.lt_succ_of_lt hi)) h.2⟩
theorem hR_c {b b' : Nat → Int32} : ∀ hs : List Nat, (∀ i, i < hs.length → b' i = b i) → hR b hs → hR b' hs
  | [], _, _ => trivial
  | x :: t, h2, h => ⟨by
      rw [h2 t.length (Nat.lt_succ_self _)]
      exact h.1, hR_c t (fun i hi => h2 i (Nat.lt_succ_of_lt hi)) h.2⟩
theorem opn_le : ∀ ws : List Nat, opn ws + bns ws ≤ ws.length
  | [] => Nat.le_refl _
  | x :: t => by
    have := opn_le t
    show (if x = 0 then 1 else 0) + opn t + ((if 3 ≤ x then 1 else 0) + bns t) ≤ t.length + 1
    split <;> split <;> omega
theorem opn_z {x : Nat} {t : List Nat} (h : x = 0) : opn (x :: t) = opn t + 1 := by
  show (if x = 0 then 1 else 0) + opn t = _
  rw [if_pos h]
  omega
theorem opn_n {x : Nat} {t : List Nat} (h : x ≠ 0) : opn (x :: t) = opn t := by
  show (if x = 0 then 1 else 0) + opn t = _
  rw [if_neg h]
  omega
theorem bns_p {x : Nat} {t : List Nat} (h : 3 ≤ x) : bns (x :: t) = bns t + 1 := by
  show (if 3 ≤ x then 1 else 0) + bns t = _
  rw [if_pos h]
  omega
theorem bns_n {x : Nat} {t : List Nat} (h : ¬ 3 ≤ x) : bns (x :: t) = bns t := by
  show (if 3 ≤ x then 1 else 0) + bns t = _
  rw [if_neg h]
  omega
theorem rkn_x : ∀ x, x < 15 → x ≠ 1 → (if Int32.ofNat (pcd x) = 27 then (1 : Int32) else if Int32.ofNat (pcd x) = 28 then 2 else if Int32.ofNat (pcd x) = 29 then 3 else if Int32.ofNat (pcd x) = 37 then 0 else if Int32.ofNat (pcd x) = 45 then 5 else if Int32.ofNat (pcd x) = 46 then 5 else if Int32.ofNat (pcd x) = 47 then 6 else if Int32.ofNat (pcd x) = 48 then 6 else 4) = Int32.ofNat (rkn x) := by decide +kernel
theorem rkn_r : ∀ x, x < 15 → (if Int32.ofNat x < (13 : Int32) then if Int32.ofNat x < (11 : Int32) then if Int32.ofNat x < (5 : Int32) then if Int32.ofNat x = (2 : Int32) then (3 : Int32) else if Int32.ofNat x = (3 : Int32) then (2 : Int32) else if Int32.ofNat x = (4 : Int32) then (1 : Int32) else (0 : Int32) else (4 : Int32) else (5 : Int32) else (6 : Int32)) = Int32.ofNat (rkn x) := by decide +kernel
theorem rkn_b : ∀ x, x < 15 → rkn x ≤ 6 ∧ (rkn x = 0 → x = 0 ∨ x = 1) ∧ pcd x < 49 := by decide
theorem gs_wks_c {kn pt ot kn' pt' ot' : Nat → Nat} {f : Nat} : ∀ q, (∀ i, f ≤ i → i < f + q → kn' i = kn i ∧ pt' i = pt i ∧ ot' i = ot i) → gs_wks kn' pt' ot' f q = gs_wks kn pt ot f q
  | 0, _ => rfl
  | q + 1, h => by
    have i := gs_wks_c q (fun i h1 h2 => h i h1 (by omega))
    obtain ⟨e1, e2, e3⟩ := h (f + q) (by omega) (by omega)
    show (match gs_wks kn' pt' ot' f q with
      | some S => wstep kn' pt' ot' (f + q) S
      | none => none) = (match gs_wks kn pt ot f q with
      | some S => wstep kn pt ot (f + q) S
      | none => none)
    rw [i]
    cases gs_wks kn pt ot f q with
    | none => rfl
    | some S =>
      show wstep kn' pt' ot' (f + q) S = wstep kn pt ot (f + q) S
      unfold wstep
      rw [e1, e2, e3]
/-- what stands while a rule is read: signs ws that wait, knots hs that are held -/
def gs_Ex (A B : Nat → Nat → Int32) (c1 c2 E : Nat → Int32) (ws hs : List Nat) (kn n8 f wt mn : Nat) : Prop := (c1 2 = Int32.ofNat ws.length ∧ E 40 = Int32.ofNat ws.length) ∧ (c1 3 = Int32.ofNat (opn ws) ∧ E 42 = Int32.ofNat (opn ws) ∧ opn ws ≤ 8) ∧ (c1 4 = Int32.ofNat kn ∧ E 43 = Int32.ofNat kn ∧ kn ≤ 64) ∧ (c1 5 = Int32.ofNat wt ∧ E 44 = Int32.ofNat wt ∧ wt < 2) ∧ (c1 6 = Int32.ofNat mn ∧ E 45 = Int32.ofNat mn ∧ mn < 2) ∧ pR c2 (B 23) ws ∧ (E 41 = Int32.ofNat hs.length ∧ hR (B 24) hs ∧ hs.length + wt = bns ws + 1) ∧ kn + opn ws = n8 + ws.length ∧ (A 17 3 = Int32.ofNat n8 ∧ B 1 8 = Int32.ofNat n8) ∧ rRK A B n8 ∧ f ≤ n8 ∧ gs_wks (kB B) (pB B) (oB B) f (n8 - f) = some hs
/-- what a rule's reading leaves as it was -/
def gs_Ef (A B : Nat → Nat → Int32) (c1 E : Nat → Int32) (A0 B0 : Nat → Nat → Int32) (c10 E0 : Nat → Int32) (f : Nat) : Prop := (∀ a, a ≠ 17 → a ≠ 18 → a ≠ 19 → A a = A0 a) ∧ (∀ b, b ≠ 1 → b ≠ 20 → b ≠ 21 → b ≠ 22 → b ≠ 23 → b ≠ 24 → B b = B0 b) ∧ (∀ k, k ≠ 8 → B 1 k = B0 1 k) ∧ (∀ k, k < f → B 20 (64 + k) = B0 20 (64 + k) ∧ B 21 (64 + k) = B0 21 (64 + k) ∧ B 22 (64 + k) = B0 22 (64 + k)) ∧ c1 7 = c10 7 ∧ E 17 = E0 17
abbrev nkA (A : Nat → Nat → Int32) (n8 : Nat) (kd vl : Int32) : Nat → Nat → Int32 := gs_up2 (gs_up2 (gs_up2 A 18 n8 kd) 19 n8 vl) 17 3 (Int32.ofNat (n8 + 1))
abbrev nkB (B : Nat → Nat → Int32) (n8 h : Nat) (k a b : Int32) : Nat → Nat → Int32 := gs_up2 (gs_up2 (gs_up2 (gs_up2 (gs_up2 B 20 (64 + n8) k) 21 (64 + n8) a) 22 (64 + n8) b) 24 h (Int32.ofNat n8)) 1 8 (Int32.ofNat (n8 + 1))
section NK
variable {A B A0 B0 : Nat → Nat → Int32} {c1 E c10 E0 : Nat → Int32} {n8 h f j x y : Nat} {b vl : Int32} {hs hs' : List Nat}
theorem nk_old (k : Nat) (hk : k < n8) : (nkB B n8 h (Int32.ofNat j) (Int32.ofNat x) b 20 (64 + k) = B 20 (64 + k) ∧ nkB B n8 h (Int32.ofNat j) (Int32.ofNat x) b 21 (64 + k) = B 21 (64 + k) ∧ nkB B n8 h (Int32.ofNat j) (Int32.ofNat x) b 22 (64 + k) = B 22 (64 + k)) := by
  unfold nkB
  refine ⟨?_, ?_, ?_⟩
  · rw [up2_n (Or.inl (by decide)), up2_n (Or.inl (by decide)), up2_n (Or.inl (by decide)), up2_n (Or.inl (by decide)), up2_n (Or.inr (by omega))]
  · rw [up2_n (Or.inl (by decide)), up2_n (Or.inl (by decide)), up2_n (Or.inl (by decide)), up2_n (Or.inr (by omega)), up2_n (Or.inl (by decide))]
  · rw [up2_n (Or.inl (by decide)), up2_n (Or.inl (by decide)), up2_n (Or.inr (by omega)), up2_n (Or.inl (by decide)), up2_n (Or.inl (by decide))]
theorem nk_new : (nkB B n8 h (Int32.ofNat j) (Int32.ofNat x) b 20 (64 + n8) = Int32.ofNat j ∧ nkB B n8 h (Int32.ofNat j) (Int32.ofNat x) b 21 (64 + n8) = Int32.ofNat x ∧ nkB B n8 h (Int32.ofNat j) (Int32.ofNat x) b 22 (64 + n8) = b) := by
  unfold nkB
  refine ⟨?_, ?_, ?_⟩
  · rw [up2_n (Or.inl (by decide)), up2_n (Or.inl (by decide)), up2_n (Or.inl (by decide)), up2_n (Or.inl (by decide)), up2_e]
  · rw [up2_n (Or.inl (by decide)), up2_n (Or.inl (by decide)), up2_n (Or.inl (by decide)), up2_e]
  · rw [up2_n (Or.inl (by decide)), up2_n (Or.inl (by decide)), up2_e]
/-- one knot more -/
theorem nk_rk (hK : rRK A B n8) (hj : j ≤ 14) (hx : x ≤ 9999) (hb : 3 ≤ j → b = Int32.ofNat y ∧ y < 10000) (h0 : j = 0 → vl = Int32.ofNat x) (h1 : j = 1 → x < 6) : rRK (nkA A n8 (Int32.ofNat (ck j x)) vl) (nkB B n8 h (Int32.ofNat j) (Int32.ofNat x) b) (n8 + 1) := by
  intro k hk
  by_cases e : k = n8
  · subst e
    obtain ⟨e1, e2, e3⟩ := nk_new (B := B) (n8 := k) (h := h) (j := j) (x := x) (b := b)
    unfold kB pB oB
    rw [e1, e2, e3]
    have f1 : (Int32.ofNat j).toInt.toNat = j := f_nat rfl (by omega)
    have f2 : (Int32.ofNat x).toInt.toNat = x := f_nat rfl (by omega)
    rw [f1, f2]
    refine ⟨rfl, hj, rfl, hx, fun h3 => ?_, ?_, fun hz => ?_, h1⟩
    · obtain ⟨hb1, hb2⟩ := hb h3
      rw [hb1, f_nat (k := y) rfl (by omega)]
    · unfold nkA
      rw [up2_n (Or.inl (by decide)), up2_n (Or.inl (by decide)), up2_e]
    · unfold nkA
      rw [up2_n (Or.inl (by decide)), up2_e]
      exact h0 hz
  · have hk' : k < n8 := by omega
    obtain ⟨e1, e2, e3⟩ := nk_old (B := B) (n8 := n8) (h := h) (j := j) (x := x) (b := b) k hk'
    unfold kB pB oB
    rw [e1, e2, e3]
    have a18 : nkA A n8 (Int32.ofNat (ck j x)) vl 18 k = A 18 k := by
      unfold nkA
      rw [up2_n (Or.inl (by decide)), up2_n (Or.inl (by decide)), up2_n (Or.inr e)]
    have a19 : nkA A n8 (Int32.ofNat (ck j x)) vl 19 k = A 19 k := by
      unfold nkA
      rw [up2_n (Or.inl (by decide)), up2_n (Or.inr e), up2_n (Or.inl (by decide))]
    rw [a18, a19]
    exact hK k hk'
theorem nk_wks (hf : f ≤ n8) (hw : gs_wks (kB B) (pB B) (oB B) f (n8 - f) = some hs) : gs_wks (kB (nkB B n8 h (Int32.ofNat j) (Int32.ofNat x) b)) (pB (nkB B n8 h (Int32.ofNat j) (Int32.ofNat x) b)) (oB (nkB B n8 h (Int32.ofNat j) (Int32.ofNat x) b)) f (n8 + 1 - f) = wstep (kB (nkB B n8 h (Int32.ofNat j) (Int32.ofNat x) b)) (pB (nkB B n8 h (Int32.ofNat j) (Int32.ofNat x) b)) (oB (nkB B n8 h (Int32.ofNat j) (Int32.ofNat x) b)) n8 hs := by
  have e : gs_wks (kB (nkB B n8 h (Int32.ofNat j) (Int32.ofNat x) b)) (pB (nkB B n8 h (Int32.ofNat j) (Int32.ofNat x) b)) (oB (nkB B n8 h (Int32.ofNat j) (Int32.ofNat x) b)) f (n8 - f) = some hs := by
    rw [gs_wks_c (n8 - f) (fun i h1 h2 => ?_), hw]
    obtain ⟨e1, e2, e3⟩ := nk_old (B := B) (n8 := n8) (h := h) (j := j) (x := x) (b := b) i (by omega)
    unfold kB pB oB
    rw [e1, e2, e3]
    exact ⟨rfl, rfl, rfl⟩
  rw [show n8 + 1 - f = (n8 - f) + 1 by omega, gs_wks_s e, show f + (n8 - f) = n8 by omega]
theorem nk_ef (hE : gs_Ef A B c1 E A0 B0 c10 E0 f) (hf : f ≤ n8) (kd : Int32) : gs_Ef (nkA A n8 kd vl) (nkB B n8 h (Int32.ofNat j) (Int32.ofNat x) b) c1 E A0 B0 c10 E0 f := by
  obtain ⟨h1, h2, h3, h4, h5, h6⟩ := hE
  refine ⟨fun a g1 g2 g3 => ?_, fun a g1 g2 g3 g4 g5 g6 => ?_, fun k hk => ?_, fun k hk => ?_, h5, h6⟩
  · unfold nkA
    rw [up2_row g1, up2_row g3, up2_row g2]
    exact h1 a g1 g2 g3
  · unfold nkB
    rw [up2_row g1, up2_row g6, up2_row g4, up2_row g3, up2_row g2]
    exact h2 a g1 g2 g3 g4 g5 g6
  · unfold nkB
    rw [up2_n (Or.inr hk), up2_row (by decide), up2_row (by decide), up2_row (by decide), up2_row (by decide)]
    exact h3 k hk
  · obtain ⟨e1, e2, e3⟩ := nk_old (B := B) (n8 := n8) (h := h) (j := j) (x := x) (b := b) k (by omega)
    rw [e1, e2, e3]
    exact h4 k hk
end NK
section EX
variable {X : gs_E} {d d' T S TR L : Nat} {by_ : Nat → Nat} {m0 r0 mx mr : gs_M} {A B : Nat → Nat → Int32} {c1 c2 E : Nat → Int32} {c v p q n h x : Nat} {a b e : Int32} {Q : gs_M → gs_M → Prop}
theorem x_rank {m : gs_M} (h1 : x < 15) (h2 : x ≠ 1) : gs_exec X (d + 1) 70 [.inl (Int32.ofNat (pcd x))] m = gs_rI (Int32.ofNat (rkn x)) m := by
  rw [eq_X5_rankOf, ← rkn_x x h1 h2]
  simp only [gs_if_rI]
theorem r_rank {m : gs_M} (h1 : x < 15) : gs_exec X (d + 1) 213 [.inl (Int32.ofNat x)] m = gs_rI (Int32.ofNat (rkn x)) m := by
  rw [eq_X12_rank, ← rkn_r x h1]
  simp only [gs_if_rI]
theorem st_push (cx : gs_Cn X T S TR L by_ m0 r0) (st : gs_Sg S L m0 r0 A B c1 c2 E mx mr c v p q) (h2 : c1 2 = Int32.ofNat n) (hn : n < 72) : ∃ mx', gs_exec X (d + 1) 67 [.inr (.inr 1), .inl a] mx = gs_rU mx' ∧ gs_Sg S L m0 r0 A B (upf c1 2 (Int32.ofNat (n + 1))) (upf c2 n a) E mx' mr c v p q := by
  have sx := st_sx cx st
  have s1 : gs_Sg S L m0 r0 A B c1 (upf c2 n a) E (gs_sI mx 2 n a) mr c v p q := st_w2 cx st
  refine ⟨_, ?_, st_w1 (i := 2) (x := Int32.ofNat (n + 1)) cx s1⟩
  have e2 : mx.2.1 1 2 = Int32.ofNat n := (st.2.2.2.2.1 2).trans h2
  have e3 : (gs_sI mx 2 n a).2.1 1 2 = Int32.ofNat n := (s1.2.2.2.2.1 2).trans h2
  have cd : (Nat.ble 12 (gs_kind 2) && Nat.ble (gs_kind 2) 14 && Nat.blt (gs_rk 2) mx.1.1) = true := by
    rw [y_n sx]
    rfl
  have le : gs_len 2 = 72 := rfl
  rw [eq_X5_pushPending, yf1 sx, yf1 sx, y_10 sx, gs_nn_s, cd, le, e2, cond_true, if_pos (by rw [gs_nlt (by omega) (by omega)]; omega)]
  simp only [gs_fld_sI, gs_sI22, yf1 sx, y_10 sx, gs_nn_s, gs_ixn (y_n sx) (show gs_ok 2 13 153 = true from rfl) (show n < 72 from hn), e3, gs_ns]
theorem st_wait (cx : gs_Cn X T S TR L by_ m0 r0) (st : gs_Sg S L m0 r0 A B c1 c2 E mx mr c v p q) (h2 : E 40 = Int32.ofNat n) (hn : n < 96) : ∃ mr', gs_exec X (d + 1) 218 [.inr (.inr 116), .inl a] mr = gs_rU mr' ∧ gs_Sg S L m0 r0 A (gs_up2 B 23 n a) c1 c2 (upf E 40 (Int32.ofNat (n + 1))) mx mr' c v p q := by
  have sr := st_sr cx st
  have s1 : gs_Sg S L m0 r0 A (gs_up2 B 23 n a) c1 c2 E mx (gs_sI mr 142 n a) c v p q := st_wr st (by unfold rsVb upr; omega)
  refine ⟨_, ?_, st_we (i := 40) (x := Int32.ofNat (n + 1)) s1 (by unfold rsVb upr; omega) (by omega)⟩
  have e2 : mr.2.1 116 40 = Int32.ofNat n := (st.2.2.2.2.2.2.1 40 (by decide)).trans h2
  have e3 : (gs_sI mr 142 n a).2.1 116 40 = Int32.ofNat n := (s1.2.2.2.2.2.2.1 40 (by decide)).trans h2
  rw [eq_X12_waitsFor]
  simp only [gs_fld_sI, fl_116 sr, sh_116_38 sr, gs_nn_s, e2, gs_ixn sr.1 (show gs_ok 142 13 153 = true from rfl) (show n < 96 from hn), e3, gs_ns]
theorem st_radd (cx : gs_Cn X T S TR L by_ m0 r0) (st : gs_Sg S L m0 r0 A B c1 c2 E mx mr c v p q) (h2 : A 17 3 = Int32.ofNat n) (hn : n < 64) : ∃ mx', gs_exec X (d + 1) 72 [.inr (.inr (S + 17)), .inl a, .inl b] mx = gs_rU mx' ∧ gs_Sg S L m0 r0 (nkA A n a b) B c1 c2 E mx' mr c v p q := by
  have sx := st_sx cx st
  have s1 : gs_Sg S L m0 r0 (gs_up2 A 18 n a) B c1 c2 E (gs_sI mx (S + 18) n a) mr c v p q := st_wx cx st (by decide)
  have s2 : gs_Sg S L m0 r0 (gs_up2 (gs_up2 A 18 n a) 19 n b) B c1 c2 E (gs_sI (gs_sI mx (S + 18) n a) (S + 19) n b) mr c v p q := st_wx cx s1 (by decide)
  refine ⟨_, ?_, st_wx (a := 17) (i := 3) (x := Int32.ofNat (n + 1)) cx s2 (by decide)⟩
  have e1 : mx.2.1 (S + 17) 3 = Int32.ofNat n := (st.2.2.1 17 3).trans h2
  have e2 : (gs_sI mx (S + 18) n a).2.1 (S + 17) 3 = Int32.ofNat n := (s1.2.2.1 17 3).trans h2
  have e3 : (gs_sI (gs_sI mx (S + 18) n a) (S + 19) n b).2.1 (S + 17) 3 = Int32.ofNat n := (s2.2.2.1 17 3).trans h2
  have l6 : Int32.ofNat n < (64 : Int32) ↔ n < 64 := gs_nlt (b := 64) (by omega) (by decide)
  rw [eq_X6_add, yt17 sx, e1, if_pos (l6.mpr hn)]
  simp only [gs_fld_sI, gs_ix_sI, gs_sI22, yt17 sx, y17_0 sx, y17_1 sx, gs_nn_s, e2, e3, gs_ns, yar sx 18 13 64 (by decide) hn, yar sx 19 13 64 (by decide) hn]
theorem st_grown (cx : gs_Cn X T S TR L by_ m0 r0) (st : gs_Sg S L m0 r0 A B c1 c2 E mx mr c v p q) (h2 : B 1 8 = Int32.ofNat n) (hn : n < 64) (h3 : E 41 = Int32.ofNat h) (hh : h < 96) : ∃ mr', gs_exec X (d + 1) 214 [.inr (.inr 116), .inl a, .inl b, .inl e] mr = gs_rU mr' ∧ gs_Sg S L m0 r0 A (nkB B n h a b e) c1 c2 (upf E 41 (Int32.ofNat (h + 1))) mx mr' c v p q := by
  have sr := st_sr cx st
  have rs : ∀ k, k = 139 ∨ k = 140 ∨ k = 141 → rsVb k (64 + n) := fun k hk => by unfold rsVb upr; omega
  have s1 : gs_Sg S L m0 r0 A (gs_up2 B 20 (64 + n) a) c1 c2 E mx (gs_sI mr 139 (64 + n) a) c v p q := st_wr st (rs _ (by omega))
  have s2 : gs_Sg S L m0 r0 A (gs_up2 (gs_up2 B 20 (64 + n) a) 21 (64 + n) b) c1 c2 E mx (gs_sI (gs_sI mr 139 (64 + n) a) 140 (64 + n) b) c v p q := st_wr s1 (rs _ (by omega))
  have s3 : gs_Sg S L m0 r0 A (gs_up2 (gs_up2 (gs_up2 B 20 (64 + n) a) 21 (64 + n) b) 22 (64 + n) e) c1 c2 E mx (gs_sI (gs_sI (gs_sI mr 139 (64 + n) a) 140 (64 + n) b) 141 (64 + n) e) c v p q := st_wr s2 (rs _ (by omega))
  have s4 : gs_Sg S L m0 r0 A (gs_up2 (gs_up2 (gs_up2 (gs_up2 B 20 (64 + n) a) 21 (64 + n) b) 22 (64 + n) e) 24 h (Int32.ofNat n)) c1 c2 E mx (gs_sI (gs_sI (gs_sI (gs_sI mr 139 (64 + n) a) 140 (64 + n) b) 141 (64 + n) e) 143 h (Int32.ofNat n)) c v p q := st_wr s3 (by unfold rsVb upr; omega)
  have s5 : gs_Sg S L m0 r0 A (gs_up2 (gs_up2 (gs_up2 (gs_up2 B 20 (64 + n) a) 21 (64 + n) b) 22 (64 + n) e) 24 h (Int32.ofNat n)) c1 c2 (upf E 41 (Int32.ofNat (h + 1))) mx (gs_sI (gs_sI (gs_sI (gs_sI (gs_sI mr 139 (64 + n) a) 140 (64 + n) b) 141 (64 + n) e) 143 h (Int32.ofNat n)) 116 41 (Int32.ofNat (h + 1))) c v p q := st_we s4 (by unfold rsVb upr; omega) (by omega)
  refine ⟨_, ?_, st_wr (a := 1) (i := 8) (x := Int32.ofNat (n + 1)) s5 (by unfold rsVb upr; omega)⟩
  have e1 : mr.2.1 120 8 = Int32.ofNat n := (st.2.2.2.1 1 8).trans h2
  have e2 : (64 : Int32) + Int32.ofNat n = Int32.ofNat (64 + n) := n_add 64 n
  have e3 : (gs_sI (gs_sI (gs_sI mr 139 (64 + n) a) 140 (64 + n) b) 141 (64 + n) e).2.1 116 41 = Int32.ofNat h := (s3.2.2.2.2.2.2.1 41 (by decide)).trans h3
  have e4 : (gs_sI (gs_sI (gs_sI (gs_sI mr 139 (64 + n) a) 140 (64 + n) b) 141 (64 + n) e) 143 h (Int32.ofNat n)).2.1 116 41 = Int32.ofNat h := (s4.2.2.2.2.2.2.1 41 (by decide)).trans h3
  have i8 : ∀ K : Nat → gs_O, gs_ix mr 120 13 (8 : Int32) K = K 8 := fun K => gs_ixn sr.1 rfl (show 8 < 9 by decide)
  rw [eq_X12_grown]
  simp only [gs_fld_sI, gs_ix_sI, gs_sI22, fl_116 sr, sh_116_13 sr, sh_116_33 sr, sh_116_34 sr, sh_116_35 sr, sh_116_39 sr, gs_nn_s, i8, e1, e2, gs_ixn sr.1 (show gs_ok 139 13 153 = true from rfl) (show 64 + n < 128 by omega), gs_ixn sr.1 (show gs_ok 140 13 153 = true from rfl) (show 64 + n < 128 by omega), gs_ixn sr.1 (show gs_ok 141 13 153 = true from rfl) (show 64 + n < 128 by omega), e3, gs_ixn sr.1 (show gs_ok 143 13 153 = true from rfl) (show h < 96 from hh), e4, gs_ns]
theorem st_drop (cx : gs_Cn X T S TR L by_ m0 r0) (st : gs_Sg S L m0 r0 A B c1 c2 E mx mr c v p q) (h3 : E 41 = Int32.ofNat (h + 1)) (hh : h < 96) : ∃ mr', gs_exec X (d + 1) 215 [.inr (.inr 116)] mr = gs_rI (B 24 h) mr' ∧ gs_Sg S L m0 r0 A B c1 c2 (upf E 41 (Int32.ofNat h)) mx mr' c v p q := by
  have sr := st_sr cx st
  have s1 : gs_Sg S L m0 r0 A B c1 c2 (upf E 41 (Int32.ofNat h)) mx (gs_sI mr 116 41 (Int32.ofNat h)) c v p q := st_we st (by unfold rsVb upr; omega) (by omega)
  refine ⟨_, ?_, s1⟩
  have e1 : mr.2.1 116 41 = Int32.ofNat (h + 1) := (st.2.2.2.2.2.2.1 41 (by decide)).trans h3
  have e2 : Int32.ofNat (h + 1) - (1 : Int32) = Int32.ofNat h := n_sb (a := 1) (by omega)
  have e3 : (gs_sI mr 116 41 (Int32.ofNat h)).2.1 143 h = B 24 h := s1.2.2.2.1 24 h
  rw [eq_X12_dropHeld]
  simp only [gs_fld_sI, gs_ix_sI, gs_sI22, fl_116 sr, sh_116_39 sr, gs_nn_s, e1, e2, gs_sIe, gs_ixn sr.1 (show gs_ok 143 13 153 = true from rfl) (show h < 96 from hh), e3]
theorem j_count {k : Nat} {Kx : gs_M → gs_O} {Kr : Int32 → gs_M → gs_O} (cx : gs_Cn X T S TR L by_ m0 r0) (st : gs_Sg S L m0 r0 A B c1 c2 E mx mr c v p q) (h1 : c1 4 = Int32.ofNat k) (h2 : E 43 = Int32.ofNat k) (hk : k ≤ 64) (h0 : ∀ m, Kr 0 m = gs_rI 0 m)
    (hK : ∀ mx' mr', k < 64 → gs_Sg S L m0 r0 A B (upf c1 4 (Int32.ofNat (k + 1))) c2 (upf E 43 (Int32.ofNat (k + 1))) mx' mr' c v p q → gs_jQ S m0 r0 Q (Kx mx') (Kr 1 mr')) :
    gs_jQ S m0 r0 Q (gs_bU (gs_exec X (d + 2) 66 [.inr (.inr 1)] mx) gs_th Kx) (gs_bI (gs_exec X (d' + 2) 217 [.inr (.inr 116)] mr) gs_th Kr) := by
  have sx := st_sx cx st
  have sr := st_sr cx st
  have e1 : mx.2.1 1 4 = Int32.ofNat k := (st.2.2.2.2.1 4).trans h1
  have e2 : mr.2.1 116 43 = Int32.ofNat k := (st.2.2.2.2.2.2.1 43 (by decide)).trans h2
  have l6 : Int32.ofNat k < (64 : Int32) ↔ k < 64 := gs_nlt (b := 64) (by omega) (by decide)
  have q6 : Int32.ofNat k = (64 : Int32) ↔ k = 64 := n_eq (b := 64) (by omega) (by decide)
  rw [eq_X5_countKnot, eq_X12_isCounted]
  simp only [yf1 sx, fl_116 sr, e1, e2]
  by_cases z : k < 64
  · rw [if_pos (l6.mpr z), if_neg (fun y => by have := q6.mp y; omega), gs_bt1, gs_bU_s, gs_bI_s, gs_ns]
    exact hK _ _ z (st_we (i := 43) (x := Int32.ofNat (k + 1)) (st_w1 (i := 4) (x := Int32.ofNat (k + 1)) cx st) (by unfold rsVb upr; omega) (by omega))
  · rw [if_neg (fun y => z (l6.mp y)), if_pos (q6.mpr (by omega)), bU_bU, bI_bI]
    exact jfail cx st h0
end EX
