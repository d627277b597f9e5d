/-! Pairing in the class: a guest is seated. -/
def nUr (r : Int32) : Nat → Nat
  | 0 => 0
  | s + 1 => nUr r s + (if isBit r (Int32.ofNat (s + 1)) then 0 else 1)
theorem nUr_pos {r : Int32} : ∀ K e, inS K e → ¬ isBit r (Int32.ofNat e) → 1 ≤ nUr r K
  | 0, e, h, _ => by have := h.1; have := h.2; omega
  | K + 1, e, h, hb => by
    show 1 ≤ nUr r K + _
    by_cases z : e = K + 1
    · rw [z] at hb
      rw [if_neg hb]
      omega
    · have := nUr_pos K e ⟨h.1, by have := h.2; omega⟩ hb
      omega
theorem nUr_or {r : Int32} {c : Nat} (hc : c < 23) : ∀ K, K < 23 → 1 ≤ c → ¬ isBit r (Int32.ofNat c) → nUr (r ||| ((1 : Int32) <<< (Int32.ofNat c &&& 31))) K + (if c ≤ K then 1 else 0) = nUr r K
  | 0, _, h, _ => by rw [if_neg (by omega)]; rfl
  | K + 1, hK, h, hb => by
    have ih := nUr_or hc K (by omega) h hb
    show nUr (r ||| _) K + (if isBit (r ||| _) (Int32.ofNat (K + 1)) then 0 else 1) + _ = nUr r K + (if isBit r (Int32.ofNat (K + 1)) then 0 else 1)
    have q := bit_or (r := r) hc (show K + 1 < 23 by omega)
    by_cases z : c = K + 1
    · rw [if_neg (by omega)] at ih
      rw [if_pos (q.mpr (Or.inr z.symm)), if_pos (by omega), if_neg (by rw [← z]; exact hb)]
      omega
    · by_cases y : isBit r (Int32.ofNat (K + 1))
      · rw [if_pos (q.mpr (Or.inl y)), if_pos y]
        by_cases x : c ≤ K
        · rw [if_pos x] at ih
          rw [if_pos (by omega)]
          omega
        · rw [if_neg x] at ih
          rw [if_neg (by omega)]
          omega
      · rw [if_neg (fun e => (q.mp e).elim y (fun e => z e.symm)), if_neg y]
        by_cases x : c ≤ K
        · rw [if_pos x] at ih
          rw [if_pos (by omega)]
          omega
        · rw [if_neg x] at ih
          rw [if_neg (by omega)]
          omega
theorem nUr_all : ∀ K, K < 23 → nUr ((0 : Int32) ||| ((1 : Int32) <<< (Int32.ofNat 0 &&& 31))) K = K := by decide
/-- lifted -/
noncomputable def luf (R' : Nat → Prop) (p : Nat → Nat) (u : Nat → Int) (δ : Int) (g : Nat) : Int := @ite _ (∃ r, R' r ∧ p r = g) (Classical.propDecidable _) (u g + δ) (u g)
noncomputable def lvf (R' : Nat → Prop) (v : Nat → Int) (δ : Int) (s : Nat) : Int := @ite _ (R' s) (Classical.propDecidable _) (v s - δ) (v s)
noncomputable def lsf (R' : Nat → Prop) (sl : Nat → Option Int) (δ : Int) (s : Nat) : Option Int := @ite _ (R' s) (Classical.propDecidable _) (sl s) ((sl s).map (fun x => x - δ))
theorem h_luf {K : Nat} {R' : Nat → Prop} {p : Nat → Nat} {u v : Nat → Int} {sl : Nat → Option Int} {δ : Int} : hLf K R' p u v (luf R' p u δ) (lvf R' v δ) sl (lsf R' sl δ) δ := by
  refine ⟨fun r hr => ?_, fun g hg => ?_, fun s _ hs => ?_, fun s _ hs => ?_, fun s _ hs => ?_⟩
  · unfold luf
    rw [if_pos ⟨r, hr, rfl⟩]
  · unfold luf
    rw [if_neg (fun ⟨r, a, b⟩ => hg r a b)]
  · unfold lvf
    rw [if_pos hs]
  · unfold lvf
    rw [if_neg hs]
  · unfold lsf
    rw [if_neg hs]
section SEA
variable {X : gs_E} {d : Nat} {m M : gs_M} {T n k K i : Nat} {tl : Nat → Nat → Nat} {p : Nat → Nat}
theorem x_seat_loop (hX : gs_Fu X) (hB : gs_HB m T n k tl) (hK : K = k + n) (h1 : 1 ≤ i) (hi : i ≤ n) :
    ∀ (q t cur F : Nat) (r : Int32) (M : gs_M) (u v : Nat → Int) (sl : Nat → Option Int) (w ord : Nat → Nat), q + t = K → K < F + t → gs_Wx rsH m M → gs_Rp M n K u v sl p w → cur ≤ K → hHd (Cg tl n k K) n k K i (Rb K r) (Rb K (r ||| ((1 : Int32) <<< (Int32.ofNat cur &&& 31)))) p w ord u v cur → hSl (Cg tl n k K) K (Rb K r) p u v w sl → nUr (r ||| ((1 : Int32) <<< (Int32.ofNat cur &&& 31))) K = q → (∀ s, Rb K (r ||| ((1 : Int32) <<< (Int32.ofNat cur &&& 31))) s → ord s ≤ t) → (∀ s, Rb K (r ||| ((1 : Int32) <<< (Int32.ofNat cur &&& 31))) s → s ≠ 0 → sl s ≠ none) → (∀ g, i < g → g ≤ n → u g = 0) →
      ∃ (F' nn : Nat) (M' : gs_M) (u' v' : Nat → Int) (sl' : Nat → Option Int) (w' ord' : Nat → Nat) (r' : Int32), F + t ≤ F' + K ∧ gs_iter X (gs_exec X (d + 3)) gT_X4_seatGuest F 24 [(0, .inr (.inr 6)), (2, .inl (Int32.ofNat cur)), (3, .inl r), (4, .inl (Int32.ofNat t))] [] M = gs_iter X (gs_exec X (d + 3)) gT_X4_seatGuest F' 83 [(0, .inr (.inr 6)), (2, .inl (Int32.ofNat nn)), (4, .inl (Int32.ofNat 0))] [] M' ∧ gs_Wx rsH m M' ∧ gs_Rp M' n K u' v' sl' p w' ∧ inS K nn ∧ p nn = 0 ∧ hFe (Cg tl n k K) K (fun g => 1 ≤ g ∧ g ≤ i) p u' v' ∧ hLk (Cg tl n k K) (Rb K r') p u' v' w' ord' ∧ (∀ s, Rb K r' s → s = 0 ∨ (inS K s ∧ p s ≠ 0)) ∧ Rb K r' 0 ∧ Rb K r' (w' nn) ∧ (∃ c, (Cg tl n k K) (p (w' nn)) nn = some c ∧ u' (p (w' nn)) + v' nn = c) ∧ (∀ s, Rb K r' s → ord' s < ord' nn) ∧ ord' nn ≤ K ∧ (∀ s, Rb K r' s → s ≠ 0 → M'.2.1 12 s = Int32.ofNat (w' s)) ∧ M'.2.1 12 nn = Int32.ofNat (w' nn) ∧ (∀ g, i < g → g ≤ n → u' g = 0) := by
  have hn := hB.2.2.2.2.1
  have hk := hB.2.2.2.2.2.1
  have hT := hB.2.2.2.2.2.2.2
  have hC : hCo (Cg tl n k K) n k K := by rw [hK]; exact Cg_co hn hk hT
  intro q
  induction q with
  | zero =>
    intro t cur F r M u v sl w ord hq hF hW hRp hcur hH hS hun hord hsx hu0
    exfalso
    have hL := h_look (n := n) (k := k) (r := r ||| ((1 : Int32) <<< (Int32.ofNat cur &&& 31))) (h_pr hH h1 (by exact (hH.2.2.1 cur).mpr (Or.inr rfl))).1 (Nat.le_trans (h_pr hH h1 (by exact (hH.2.2.1 cur).mpr (Or.inr rfl))).2 hi) rfl hH.2.2.1 hS
    obtain ⟨e, e1, e2, e3⟩ := h_free hK hH.2.1 hi h1
    have hne : ¬ Rb K (r ||| ((1 : Int32) <<< (Int32.ofNat cur &&& 31))) e := fun z => by
      rcases hH.2.2.2.2.2.1 e z with a | ⟨-, b⟩
      · omega
      · exact b e3
    have := nUr_pos K e ⟨by omega, e2⟩ (fun z => hne ⟨e2, z⟩)
    omega
  | succ q ih =>
    intro t cur F r M u v sl w ord hq hF hW hRp hcur hH hS hun hord hsx hu0
    obtain ⟨F, rfl⟩ : ∃ y, F = y + 1 := ⟨F - 1, by omega⟩
    have hBM := wh_hb hB hW
    have hM := hBM.1
    have e9M := hBM.2.2.2.1
    generalize hr : (r ||| ((1 : Int32) <<< (Int32.ofNat cur &&& 31))) = r' at *
    have hcR : Rb K r' cur := (hH.2.2.1 cur).mpr (Or.inr rfl)
    obtain ⟨g1, g2⟩ := h_pr hH h1 hcR
    have gn : p cur ≤ n := Nat.le_trans g2 hi
    have hSl1 := h_look (n := n) (k := k) (r := r') g1 gn rfl hH.2.2.1 hS
    -- the same head with the new ways
    have hH1 : hHd (Cg tl n k K) n k K i (Rb K r) (Rb K r') p (w1 tl k K r' u v (p cur) cur sl w) ord u v cur := by
      obtain ⟨a1, a2, a3, a4, a5, a6, a7, a8, a9⟩ := hH
      refine ⟨a1, a2, a3, a4, a5, a6, a7, a8, fun s hs hs0 => ?_⟩
      have ew : w1 tl k K r' u v (p cur) cur sl w s = w s := by
        unfold w1
        rw [if_neg (fun z => z.1 hs)]
      rw [ew]
      exact a9 s hs hs0
    obtain ⟨e, x, e1, e2, e3, e4, e5⟩ := h_some hK hC hi h1 hH1 hSl1
    have hFe0 := hH.2.2.2.2.2.2.1
    have hGlt : ∀ g, 1 ≤ g → g < i → (1 ≤ g ∧ (g < i ∨ (g = i ∧ Rb K r 0))) := fun g a b => ⟨a, Or.inl b⟩
    have hvB : ∀ s, inS K s → -40000000000000000 ≤ v s ∧ v s ≤ 0 := fun s hs => by
      have := h_v hC hFe0 e1 e2 e3 hGlt hH.2.1 (by omega) hs
      omega
    have huB : -40000000000000000 ≤ u (p cur) ∧ u (p cur) ≤ 40000000000000000 := by
      by_cases z : p cur < i ∨ (p cur = i ∧ Rb K r 0)
      · have a := h_u hC hFe0 e1 e2 e3 (g := p cur) ⟨g1, z⟩ g1 gn
        have b := hFe0.2.2.2 (p cur) ⟨g1, z⟩
        omega
      · have hpi : p cur = i := by omega
        have := hH.2.2.2.2.2.2.2.1 (fun y => z (Or.inr ⟨hpi, y⟩))
        rw [hpi, this]
        omega
    have hcB : ∀ s c, inS K s → Cf tl k (p cur) s = some c → -40000000000000000 ≤ c ∧ c ≤ 10000000000000000 := fun s c hs hc => by
      have := hC.2 (p cur) s c (by rw [Cg_in g1 gn hs]; exact hc)
      omega
    obtain ⟨z, M1, δ, x1, x2, x3, x4, x5, x6, x7⟩ := x_reachFrom (X := X) (d := d) (r := r') hX hBM hK hRp rfl g1 gn hcur huB hvB hcB ⟨e, x, ⟨by omega, e2⟩, e4, e5⟩
    have hW1 := wx_trans hW x2
    have hBM1 := wh_hb hB hW1
    have hM1 := hBM1.1
    obtain ⟨f1, f2, f3, f4, f5⟩ := h_step hC hi h1 hH1 hSl1 x4 x5 x6 x7 h_luf
    have hδc := x3.2.2.1 z x4
    rw [x6] at hδc
    obtain ⟨d1, d2, d3⟩ := hδc
    have huB1 : ∀ g, 1 ≤ g → g ≤ n → -40000000000000000 ≤ luf (Rb K r') p u δ g ∧ luf (Rb K r') p u δ g ≤ 40000000000000000 := fun g a b => by
      by_cases y : g ≤ i
      · have q1 := h_u hC f1 e1 e2 e3 (g := g) ⟨a, y⟩ a b
        have q2 := f1.2.2.2 g ⟨a, y⟩
        omega
      · have q3 := (h_luf (K := K) (R' := Rb K r') (p := p) (u := u) (v := v) (sl := sl) (δ := δ)).2.1 g (fun rr hrr e => by have := (h_pr hH h1 hrr).2; omega)
        rw [q3, hu0 g (by omega) b]
        omega
    have hvB1 : ∀ s, inS K s → -40000000000000000 ≤ lvf (Rb K r') v δ s ∧ lvf (Rb K r') v δ s ≤ 0 := fun s hs => by
      have := h_v (i := i) hC f1 e1 e2 e3 (fun g a b => ⟨a, by omega⟩) hH.2.1 (by omega) hs
      omega
    have hsB1 : ∀ s y, inS K s → ¬ Rb K r' s → lsf (Rb K r') (sl1 tl k K r' u v (p cur) sl) δ s = some y → -100000000000000000 ≤ y ∧ y ≤ 100000000000000000 := fun s y hs hsR hy => by
      obtain ⟨a1, ⟨c, a2, a3⟩, -⟩ := f2.2 s y hs hsR hy
      have b1 := h_pr hH h1 a1
      have b2 := huB1 _ b1.1 (by omega)
      have b3 := hvB1 s hs
      have b4 := hC.2 _ _ _ a2
      omega
    obtain ⟨M2, y1, y2, y3, y4, y5⟩ := x_liftBy (X := X) (d := d + 2) (r := r') (sl2 := lsf (Rb K r') (sl1 tl k K r' u v (p cur) sl) δ) hX hBM1 hK x3 d1 ⟨d2, d3⟩ hH.2.2.2.1 (fun s hs => ⟨(h_pr hH h1 hs).1, Nat.le_trans (h_pr hH h1 hs).2 hi⟩) (fun s t' a b c => h_inj hH a b c) h_luf (fun s _ hs => by unfold lsf; rw [if_pos hs]) huB1 hvB1 hsB1
    have hW2 : gs_Wx rsH m M2 := ⟨y2.trans hW1.1, y4.trans hW1.2.1, fun a b c => by rw [y3]; exact hW1.2.2 a b c⟩
    have hM2 := (wh_hb hB hW2).1
    have hzK : z ≤ K := x4.2
    have hsz : lsf (Rb K r') (sl1 tl k K r' u v (p cur) sl) δ z ≠ none := by
      unfold lsf
      rw [if_neg x5, x6]
      exact fun q => by cases q
    have hsx2 : ∀ s, Rb K r' s → s ≠ 0 → lsf (Rb K r') (sl1 tl k K r' u v (p cur) sl) δ s ≠ none := fun s hs hs0 => by
      unfold lsf sl1
      rw [if_pos hs, if_neg (fun y => y hs)]
      exact hsx s hs hs0
    have hu02 : ∀ g, i < g → g ≤ n → luf (Rb K r') p u δ g = 0 := fun g a b => by
      rw [(h_luf (K := K) (R' := Rb K r') (p := p) (u := u) (v := v) (sl := sl) (δ := δ)).2.1 g (fun rr hrr e => by have := (h_pr hH h1 hrr).2; omega)]
      exact hu0 g a b
    -- the nearest seat has a time of its own
    have hordz : ∀ s, Rb K r' s → (if s = z then t + 1 else ord s) = ord s := fun s hs => by
      rw [if_neg (fun e => x5 (by rw [← e]; exact hs))]
    have hLk2 : hLk (Cg tl n k K) (Rb K r') p (luf (Rb K r') p u δ) (lvf (Rb K r') v δ) (w1 tl k K r' u v (p cur) cur sl w) (fun s => if s = z then t + 1 else ord s) := fun s hs hs0 => by
      obtain ⟨a1, a2, a3⟩ := f3 s hs hs0
      refine ⟨a1, ?_, a3⟩
      show (if _ = z then t + 1 else ord _) < (if s = z then t + 1 else ord s)
      rw [hordz s hs, hordz _ a1]
      exact a2
    rw [eq_X4_seatGuest_24, fl_6 hM, e9M, if_neg (fun y => by have := (gs_nlt (by omega) (by omega)).mp y; omega), fl_6 hM, hr, x1, gs_bI_s, fl_6 hM1, sh_6_3 hM1, gs_nn_s, x_i10 hM1 (by omega), fl_6 hM1, y1, gs_bU_s, fl_6 hM2, sh_6_4 hM2, gs_nn_s, x_i11 hM2 (by omega), y5.2.2.2.1 z hzK, gs_ns]
    by_cases hp : p z = 0
    · rw [if_pos (by rw [hp]; rfl)]
      refine ⟨F, z, M2, _, _, _, _, (fun s => if s = z then t + 1 else ord s), r', by omega, rfl, hW2, y5, x4, hp, f1, hLk2, hH.2.2.2.2.2.1, hH.2.2.2.1, f4, f5, fun s hs => ?_, ?_, fun s hs hs0 => ?_, y5.2.2.2.2 z x4 hsz, hu02⟩
      · show (if s = z then t + 1 else ord s) < (if z = z then t + 1 else ord z)
        rw [hordz s hs, if_pos rfl]
        have := hord s hs
        omega
      · show (if z = z then t + 1 else ord z) ≤ K
        rw [if_pos rfl]
        omega
      · have hin : inS K s := by
          rcases hH.2.2.2.2.2.1 s hs with a | ⟨a, -⟩
          · exact absurd a hs0
          · exact a
        exact y5.2.2.2.2 s hin (hsx2 s hs hs0)
    · have hpn : p z < i := hH.2.1.1 z x4
      rw [if_neg (n_nz (by omega) (by omega))]
      have hz23 : z < 23 := by omega
      have hor : ∀ s, Rb K (r' ||| ((1 : Int32) <<< (Int32.ofNat z &&& 31))) s ↔ (Rb K r' s ∨ s = z) := fun s => Rb_or (by omega) hzK
      have hun2 := nUr_or (r := r') (c := z) hz23 K (by omega) x4.1 (fun y => x5 ⟨hzK, y⟩)
      rw [if_pos hzK] at hun2
      obtain ⟨F', nn, M', u', v', sl', w', ord', rr, b1, b2, b3⟩ := ih (t + 1) z F r' M2 (luf (Rb K r') p u δ) (lvf (Rb K r') v δ) (lsf (Rb K r') (sl1 tl k K r' u v (p cur) sl) δ) (w1 tl k K r' u v (p cur) cur sl w) (fun s => if s = z then t + 1 else ord s) (by omega) (by omega) hW2 y5 hzK ⟨hH.1, hH.2.1, hor, (hor 0).mpr (Or.inl hH.2.2.2.1), Or.inl hH.2.2.2.1, fun s hs => by
        rcases (hor s).mp hs with a | a
        · exact hH.2.2.2.2.2.1 s a
        · right
          rw [a]
          exact ⟨x4, hp⟩, ⟨fun g s c hg hs hc => f1.1 g s c ⟨hg.1, by omega⟩ hs hc, f1.2.1, f1.2.2.1, fun g hg => f1.2.2.2 g ⟨hg.1, by omega⟩⟩, fun y => absurd hH.2.2.2.1 y, fun s hs hs0 => by
        rcases (hor s).mp hs with a | a
        · obtain ⟨c1, c2, c3⟩ := hLk2 s a hs0
          exact ⟨(hor _).mpr (Or.inl c1), c2, c3⟩
        · subst a
          refine ⟨(hor _).mpr (Or.inl f4), ?_, f5⟩
          show (if _ = s then t + 1 else ord _) < (if s = s then t + 1 else ord s)
          rw [hordz _ f4, if_pos rfl]
          have := hord _ f4
          omega⟩ f2 (by omega) (fun s hs => by
        rcases (hor s).mp hs with a | a
        · show (if s = z then t + 1 else ord s) ≤ t + 1
          rw [hordz s a]
          have := hord s a
          omega
        · show (if s = z then t + 1 else ord s) ≤ t + 1
          rw [if_pos a]
          exact Nat.le_refl _) (fun s hs hs0 => by
        rcases (hor s).mp hs with a | a
        · exact hsx2 s a hs0
        · rw [a]
          exact hsz) hu02
      exact ⟨F', nn, M', u', v', sl', w', ord', rr, by omega, b2, b3⟩
end SEA
