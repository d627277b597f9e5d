/-! Pairing in the class: pairs kept. -/
def nCt (σ : Nat → Nat) (c : Nat) : Nat → Nat
  | 0 => 0
  | g + 1 => nCt σ c g + (if σ g < c then 1 else 0)
def nTt (tl : Nat → Nat → Nat) (σ : Nat → Nat) (c : Nat) : Nat → Nat
  | 0 => 0
  | g + 1 => nTt tl σ c g + (if σ g < c then tl g (σ g) else 0)
theorem nCt_no {tl : Nat → Nat → Nat} {σ : Nat → Nat} {c : Nat} : ∀ n, (∀ g, g < n → σ g ≠ c) → nCt σ (c + 1) n = nCt σ c n ∧ nTt tl σ (c + 1) n = nTt tl σ c n
  | 0, _ => ⟨rfl, rfl⟩
  | n + 1, h => by
    obtain ⟨i1, i2⟩ := nCt_no (tl := tl) n (fun g hg => h g (by omega))
    have hn := h n (by omega)
    show nCt σ (c + 1) n + _ = nCt σ c n + _ ∧ nTt tl σ (c + 1) n + _ = nTt tl σ c n + _
    rw [i1, i2]
    by_cases z : σ n < c
    · rw [if_pos z, if_pos z, if_pos (by omega), if_pos (by omega)]
      exact ⟨rfl, rfl⟩
    · rw [if_neg z, if_neg z, if_neg (by omega), if_neg (by omega)]
      exact ⟨rfl, rfl⟩
theorem nCt_one {tl : Nat → Nat → Nat} {σ : Nat → Nat} {c g0 : Nat} (h0 : σ g0 = c) : ∀ n, g0 < n → (∀ g, g < n → g ≠ g0 → σ g ≠ c) → nCt σ (c + 1) n = nCt σ c n + 1 ∧ nTt tl σ (c + 1) n = nTt tl σ c n + tl g0 c
  | 0, h, _ => by omega
  | n + 1, h, hn => by
    show nCt σ (c + 1) n + _ = nCt σ c n + _ + 1 ∧ nTt tl σ (c + 1) n + _ = nTt tl σ c n + _ + tl g0 c
    by_cases e : g0 = n
    · obtain ⟨i1, i2⟩ := nCt_no (tl := tl) (σ := σ) (c := c) n (fun g hg => hn g (by omega) (by omega))
      rw [i1, i2, ← e, if_pos (show σ g0 < c + 1 by omega), if_neg (show ¬ σ g0 < c by omega), if_pos (show σ g0 < c + 1 by omega), if_neg (show ¬ σ g0 < c by omega), h0]
      exact ⟨by omega, by omega⟩
    · obtain ⟨i1, i2⟩ := nCt_one (tl := tl) h0 n (by omega) (fun g hg => hn g (by omega))
      have q := hn n (by omega) (fun z => e z.symm)
      rw [i1, i2]
      by_cases z : σ n < c
      · rw [if_pos z, if_pos z, if_pos (by omega), if_pos (by omega)]
        exact ⟨by omega, by omega⟩
      · rw [if_neg z, if_neg z, if_neg (by omega), if_neg (by omega)]
        exact ⟨by omega, by omega⟩
theorem nCt_0 (tl : Nat → Nat → Nat) (σ : Nat → Nat) : ∀ n, nCt σ 0 n = 0 ∧ nTt tl σ 0 n = 0
  | 0 => ⟨rfl, rfl⟩
  | n + 1 => by
    obtain ⟨a, b⟩ := nCt_0 tl σ n
    show nCt σ 0 n + _ = 0 ∧ nTt tl σ 0 n + _ = 0
    rw [a, b, if_neg (by omega), if_neg (by omega)]
    exact ⟨rfl, rfl⟩
abbrev sgm (tl : Nat → Nat → Nat) (n k g : Nat) : Nat := (grd tl n k n 0).getD g 10
def sgI (σ : Nat → Nat) (c g : Nat) : Int32 := if σ g < c then Int32.ofNat (σ g) else -1
/-- what the class keeps of pairs -/
def gs_PC (m : gs_M) (n k : Nat) (tl : Nat → Nat → Nat) : Prop := m.2.1 6 7 = Int32.ofNat n ∧ m.2.1 6 8 = Int32.ofNat k ∧ (∀ g c, g < n → c < k → m.2.1 7 (g * 10 + c) = tlI tl g c) ∧ (∀ g, g < n → m.2.1 14 g = sgI (sgm tl n k) k g) ∧ m.2.1 6 13 = Int32.ofNat (nCt (sgm tl n k) k n) ∧ m.2.1 6 14 = Int32.ofNat (nTt tl (sgm tl n k) k n)
def rsK (x i : Nat) : Prop := x = 14 ∨ (x = 6 ∧ (i = 13 ∨ i = 14))
section KEP
variable {X : gs_E} {d : Nat} {m M : gs_M} {T n k K i : Nat} {tl : Nat → Nat → Nat} {p : Nat → Nat}
theorem x_i14 {g : Nat} (h : gs_Sh m T) (hg : g < 12) {K : Nat → gs_O} : gs_ix m 14 13 (Int32.ofNat g) K = K g := gs_ixn h.1 rfl hg
theorem x_keep_loop {σ : Nat → Nat} (hB : gs_HB m T n k tl) (h11 : ∀ s, inS (k + n) s → m.2.1 11 s = Int32.ofNat (p s)) (hpn : ∀ s, inS (k + n) s → p s ≤ n) (hσ : ∀ g c, g < n → c < k → (p (c + 1) = g + 1 ↔ σ g = c)) (hab : ∀ g, g < n → σ g < k → tl g (σ g) ≠ 100000) :
    ∀ (q c F : Nat) (M : gs_M), c + q = k → q < F → gs_Wx rsK m M → (∀ g, g < n → M.2.1 14 g = sgI σ c g) → M.2.1 6 13 = Int32.ofNat (nCt σ c n) → M.2.1 6 14 = Int32.ofNat (nTt tl σ c n) →
      ∃ M', gs_iter X (gs_exec X d) gT_X4_keepPairs F 20 [(0, .inr (.inr 6)), (1, .inl (Int32.ofNat c))] [] M = gs_rU M' ∧ gs_Wx rsK m M' ∧ (∀ g, g < n → M'.2.1 14 g = sgI σ k g) ∧ M'.2.1 6 13 = Int32.ofNat (nCt σ k n) ∧ M'.2.1 6 14 = Int32.ofNat (nTt tl σ k n) := by
  obtain ⟨h, e7, e8, e9, hn, hk, h7, hT⟩ := id hB
  intro q
  induction q with
  | zero =>
    intro c F M hc hF hW h14 h13 ht
    obtain ⟨F, rfl⟩ : ∃ y, F = y + 1 := ⟨F - 1, by omega⟩
    have hM : gs_Sh M T := by
      unfold gs_Sh at h ⊢
      rw [hW.1, hW.2.1]
      exact h
    have e8M : M.2.1 6 8 = Int32.ofNat k := by rw [hW.2.2 6 8 (fun q => by unfold rsK at q; omega)]; exact e8
    have e : c = k := by omega
    rw [e] at h14 h13 ht
    refine ⟨M, ?_, hW, h14, h13, ht⟩
    rw [eq_X4_keepPairs_20, fl_6 hM, e8M, if_neg (fun y => by have := (gs_nlt (by omega) (by omega)).mp y; omega)]
  | succ q ih =>
    intro c F M hc hF hW h14 h13 ht
    obtain ⟨F, rfl⟩ : ∃ y, F = y + 1 := ⟨F - 1, by omega⟩
    have hM : gs_Sh M T := by
      unfold gs_Sh at h ⊢
      rw [hW.1, hW.2.1]
      exact h
    have e8M : M.2.1 6 8 = Int32.ofNat k := by rw [hW.2.2 6 8 (fun q => by unfold rsK at q; omega)]; exact e8
    have e11 : M.2.1 11 (c + 1) = Int32.ofNat (p (c + 1)) := by
      rw [hW.2.2 11 _ (fun q => by unfold rsK at q; omega)]
      exact h11 (c + 1) ⟨by omega, by omega⟩
    have hp := hpn (c + 1) ⟨by omega, by omega⟩
    rw [eq_X4_keepPairs_20, fl_6 hM, e8M, if_pos ((gs_nlt (by omega) (by omega)).mpr (by omega)), fl_6 hM, sh_6_4 hM, gs_nn_s, gs_ns, x_i11 hM (by omega), e11]
    by_cases z : p (c + 1) = 0
    · rw [z, if_pos (show Int32.ofNat 0 - (1 : Int32) < 0 by decide)]
      obtain ⟨a1, a2⟩ := nCt_no (tl := tl) (σ := σ) (c := c) n (fun g hg e => by have := (hσ g c hg (by omega)).mpr e; omega)
      refine ih (c + 1) F M (by omega) (by omega) hW (fun g hg => ?_) (by rw [a1]; exact h13) (by rw [a2]; exact ht)
      rw [h14 g hg]
      have : σ g ≠ c := fun e => by have := (hσ g c hg (by omega)).mpr e; omega
      unfold sgI
      by_cases y : σ g < c
      · rw [if_pos y, if_pos (by omega)]
      · rw [if_neg y, if_neg (by omega)]
    · obtain ⟨g0, eg⟩ : ∃ g0, p (c + 1) = g0 + 1 := ⟨p (c + 1) - 1, by omega⟩
      have hg0 : g0 < n := by omega
      have hs0 := (hσ g0 c hg0 (by omega)).mp eg
      have es : Int32.ofNat (p (c + 1)) - (1 : Int32) = Int32.ofNat g0 := by
        rw [eg]
        exact n_sub (a := g0 + 1) (b := 1) (by omega)
      obtain ⟨a1, a2⟩ := nCt_one (tl := tl) hs0 n hg0 (fun g hg hne e => by have := (hσ g c hg (by omega)).mpr e; omega)
      have e7c : M.2.1 7 (g0 * 10 + c) = Int32.ofNat (tl g0 c) := by
        rw [hW.2.2 7 _ (fun q => by unfold rsK at q; omega), h7 g0 c hg0 (by omega)]
        unfold tlI
        have := hab g0 hg0 (by omega)
        rw [hs0] at this
        rw [if_neg this]
      rw [es, if_neg (gs_nneg (by omega)), fl_6 hM, sh_6_11 hM, gs_nn_s, x_i14 hM (by omega)]
      simp only [gs_fld_sI, gs_ix_sI, fl_6 hM, gs_sI222, sh_6_0 hM, gs_nn_s, x_i7 hM (show g0 < 12 by omega) (show c < 10 by omega)]
      have r13 : (gs_sI M 14 g0 (Int32.ofNat c)).2.1 6 13 = Int32.ofNat (nCt σ c n) := by rw [gs_sIn (Or.inl (by decide))]; exact h13
      rw [r13, gs_ns]
      have r14 : (gs_sI (gs_sI M 14 g0 (Int32.ofNat c)) 6 13 (Int32.ofNat (nCt σ c n + 1))).2.1 6 14 = Int32.ofNat (nTt tl σ c n) := by rw [gs_sIn (Or.inr (by decide)), gs_sIn (Or.inl (by decide))]; exact ht
      have r7 : (gs_sI (gs_sI M 14 g0 (Int32.ofNat c)) 6 13 (Int32.ofNat (nCt σ c n + 1))).2.1 7 (g0 * 10 + c) = Int32.ofNat (tl g0 c) := by rw [gs_sIn (Or.inl (by decide)), gs_sIn (Or.inl (by decide))]; exact e7c
      rw [r14, r7, n_add]
      refine ih (c + 1) F _ (by omega) (by omega) (wx_sI (wx_sI (wx_sI hW (Or.inl rfl)) (Or.inr ⟨rfl, Or.inl rfl⟩)) (Or.inr ⟨rfl, Or.inr rfl⟩)) (fun g hg => ?_) ?_ ?_
      · rw [gs_sIn (Or.inl (by decide)), gs_sIn (Or.inl (by decide))]
        by_cases e : g = g0
        · rw [e, gs_sIe]
          unfold sgI
          rw [hs0, if_pos (by omega)]
        · rw [gs_sIn (Or.inr e), h14 g hg]
          have : σ g ≠ c := fun e2 => by have := (hσ g c hg (by omega)).mpr e2; omega
          unfold sgI
          by_cases y : σ g < c
          · rw [if_pos y, if_pos (by omega)]
          · rw [if_neg y, if_neg (by omega)]
      · rw [gs_sIn (Or.inr (by decide)), gs_sIe, a1]
      · rw [gs_sIe, a2]
theorem grd_at (hn : n ≤ 12) (hk : k ≤ 10) {g : Nat} (hg : g < n) : sgm tl n k g = 10 ∨ (sgm tl n k g < k ∧ tl g (sgm tl n k g) ≠ 100000) := by
  obtain ⟨gv, -⟩ := grd_v (t := tl) (n := n) hk n 0
  have glen := vld_len n 0 _ gv
  have ge : lst (sgm tl n k) n n = grd tl n k n 0 := by
    have := lst_get glen n (Nat.le_refl _)
    rw [Nat.sub_self] at this
    exact this
  have gi := vld_inv (t := tl) (n := n) (σ := sgm tl n k) hk n 0 (Nat.le_refl _) (by rw [ge]; exact gv)
  rcases gi.1 g (by omega) hg with e | ⟨e1, e2⟩
  · exact Or.inl e
  · exact Or.inr ⟨e1, fun z => e2 (Or.inr z)⟩
theorem x_keepPairs {u v : Nat → Int} (hX : gs_Fu X) (hB : gs_HB m T n k tl) (hP : gs_Hp m tl n k (k + n) (n + 1) p u v) : ∃ M', gs_exec X (d + 2) 35 [.inr (.inr 6)] m = gs_rU M' ∧ gs_Wx rsK m M' ∧ gs_PC M' n k tl := by
  obtain ⟨h, e7, e8, e9, hn, hk, h7, hT⟩ := id hB
  obtain ⟨c1, c2, c3, hMt0, hFe0, hu0⟩ := hP
  have hFe1 : hFe (Cf tl k) (k + n) (fun g => 1 ≤ g ∧ g < n + 1) p u v := by
    refine ⟨fun g s c hg hs hc => hFe0.1 g s c hg hs (by rw [Cg_in hg.1 (by omega) hs]; exact hc), fun s hs hz => ?_, hFe0.2.2.1, hFe0.2.2.2⟩
    obtain ⟨c, a, b⟩ := hFe0.2.1 s hs hz
    have := hMt0.1 s hs
    rw [Cg_in (by omega) (by omega) hs] at a
    exact ⟨c, a, b⟩
  have best := h_best hT hn hk rfl hMt0 hFe1
  obtain ⟨M1, f1, f2, f3, f4, f5, f6⟩ := x_fillI (X := X) (d := d) (v := -1) hX h (show gs_ok 14 13 153 = true from rfl) (show gs_len 14 = 12 from rfl) (by decide)
  have hW1 : gs_Wx rsK m M1 := ⟨f2, f4, fun x j hn => by rw [f6 x (fun e => hn (Or.inl e))]⟩
  have hM1 : gs_Sh M1 T := by
    unfold gs_Sh at h ⊢
    rw [f2, f4]
    exact h
  obtain ⟨z1, z2⟩ := nCt_0 tl (sgm tl n k) n
  obtain ⟨M', l1, l2, l3, l4, l5⟩ := x_keep_loop (X := X) (d := d + 1) (σ := sgm tl n k) hB (fun s hs => c3 s hs) (fun s hs => by have := hMt0.1 s hs; omega) best (fun g hg hlt => by
    rcases grd_at (tl := tl) hn hk hg with e | e
    · omega
    · exact e.2) k 0 X.1 (gs_sI (gs_sI M1 6 13 0) 6 14 0) (by omega) (by unfold gs_Fu at hX; omega) (wx_sI (wx_sI hW1 (Or.inr ⟨rfl, Or.inl rfl⟩)) (Or.inr ⟨rfl, Or.inr rfl⟩)) (fun g hg => by
      rw [gs_sIn (Or.inl (by decide)), gs_sIn (Or.inl (by decide)), f5 g (by omega)]
      unfold sgI
      rw [if_neg (by omega)]) (by rw [gs_sIn (Or.inr (by decide)), gs_sIe, z1]; rfl) (by rw [gs_sIe, z2]; rfl)
  refine ⟨M', ?_, l2, ?_, ?_, fun g c hg hc => ?_, l3, l4, l5⟩
  · rw [eq_X4_keepPairs, fl_6 h, sh_6_11 h, gs_nn_s, f1, gs_bU_s, fl_6 hM1]
    simp only [gs_fld_sI, fl_6 hM1]
    exact l1
  · rw [l2.2.2 6 7 (fun q => by unfold rsK at q; omega)]
    exact e7
  · rw [l2.2.2 6 8 (fun q => by unfold rsK at q; omega)]
    exact e8
  · rw [l2.2.2 7 _ (fun q => by unfold rsK at q; omega)]
    exact h7 g c hg hc
theorem x_seats_loop (hX : gs_Fu X) (hB : gs_HB m T n k tl) : ∀ (q i F : Nat) (M : gs_M) (p : Nat → Nat) (u v : Nat → Int), i + q = n + 1 → 1 ≤ i → q < F → gs_Wx rsH m M → gs_Hp M tl n k (k + n) i p u v →
    ∃ M', gs_iter X (gs_exec X (d + 4)) gT_X4_reckon F 156 [(0, .inr (.inr 6)), (3, .inl (Int32.ofNat i))] [] M = gs_rU M' ∧ gs_Wx (fun x i => rsH x i ∨ rsK x i) m M' ∧ gs_PC M' n k tl := by
  have hn := hB.2.2.2.2.1
  intro q
  induction q with
  | zero =>
    intro i F M p u v hi h1 hF hW hP
    obtain ⟨F, rfl⟩ : ∃ y, F = y + 1 := ⟨F - 1, by omega⟩
    have hBM := wh_hb hB hW
    have e : i = n + 1 := by omega
    rw [e] at hP
    obtain ⟨M', k1, k2, k3⟩ := x_keepPairs (X := X) (d := d + 2) hX hBM hP
    refine ⟨M', ?_, wx_trans (wx_mono hW (fun _ _ q => Or.inl q)) (wx_mono k2 (fun _ _ q => Or.inr q)), k3⟩
    rw [eq_X4_reckon_156, fl_6 hBM.1, hBM.2.1, if_pos ((gs_nlt (by omega) (by omega)).mpr (by omega)), fl_6 hBM.1, k1, gs_bU_s]
  | succ q ih =>
    intro i F M p u v hi h1 hF hW hP
    obtain ⟨F, rfl⟩ : ∃ y, F = y + 1 := ⟨F - 1, by omega⟩
    have hBM := wh_hb hB hW
    obtain ⟨M1, p1, u1, v1, k1, k2, k3⟩ := x_seatGuest (X := X) (d := d) hX hBM rfl h1 (show i ≤ n by omega) hP
    obtain ⟨M', j1, j2, j3⟩ := ih (i + 1) F M1 p1 u1 v1 (by omega) (by omega) (by omega) (wx_trans hW k2) k3
    refine ⟨M', ?_, j2, j3⟩
    rw [eq_X4_reckon_156, fl_6 hBM.1, hBM.2.1, if_neg (fun y => by have := (gs_nlt (by omega) (by omega)).mp y; omega), fl_6 hBM.1, k1, gs_bU_s, gs_ns]
    exact j1
end KEP
