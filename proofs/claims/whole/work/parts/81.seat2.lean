/-! Pairing in the class: the chain of moves; all guests seated. -/
theorem bit_0 : ∀ s, s < 23 → ¬ isBit (0 : Int32) (Int32.ofNat s) := by decide
theorem or_l {a b : Prop} (h : a ∨ b) (hb : ¬ b) : a := h.resolve_right hb
/-- what holds ahead of guest i -/
def gs_Hp (m : gs_M) (tl : Nat → Nat → Nat) (n k K i : Nat) (p : Nat → Nat) (u v : Nat → Int) : Prop := (∀ g, 1 ≤ g → g ≤ n → (m.2.2.1 8 g).toInt = u g) ∧ (∀ s, inS K s → (m.2.2.1 9 s).toInt = v s) ∧ (∀ s, inS K s → m.2.1 11 s = Int32.ofNat (p s)) ∧ hMt K i p ∧ hFe (Cg tl n k K) K (fun g => 1 ≤ g ∧ g < i) p u v ∧ (∀ g, i ≤ g → g ≤ n → u g = 0)
section SE2
variable {X : gs_E} {d : Nat} {m M : gs_M} {T n k K i : Nat} {tl : Nat → Nat → Nat} {p : Nat → Nat}
theorem x_aug_loop {nn : Nat} {r : Int32} {u v : Nat → Int} {w ord : Nat → Nat} (hB : gs_HB m T n k tl) (hK : K = k + n) (hin : i ≤ n) (hRs : ∀ s, Rb K r s → s ≤ K ∧ p s ≠ 0) (hRi : ∀ s, Rb K r s → s = 0 ∨ inS K s) (hL : hLk (Cg tl n k K) (Rb K r) p u v w ord) (hnn : inS K nn) (n1 : Rb K r (w nn)) (n2 : ord (w nn) < ord nn) (n3 : ∃ c, (Cg tl n k K) (p (w nn)) nn = some c ∧ u (p (w nn)) + v nn = c) :
    ∀ (o h t F : Nat) (M : gs_M) (qq : Nat → Nat), ord h < o → o ≤ F → (h ≠ 0 → ord h + t ≤ K) → (h = 0 ∨ ((Rb K r h ∨ h = nn) ∧ inS K h)) → gs_Wx rsH m M → (∀ s, s ≤ K → M.2.1 11 s = Int32.ofNat (qq s)) → (∀ s, (Rb K r s ∨ s = nn) → s ≠ 0 → M.2.1 12 s = Int32.ofNat (w s)) → hAu (Cg tl n k K) K i (Rb K r) p qq u v ord h →
      ∃ M' qq', gs_iter X (gs_exec X d) gT_X4_seatGuest F 83 [(0, .inr (.inr 6)), (2, .inl (Int32.ofNat h)), (4, .inl (Int32.ofNat t))] [] M = gs_rU M' ∧ gs_Wx rsH m M' ∧ M'.2.2.1 = M.2.2.1 ∧ (∀ s, s ≤ K → M'.2.1 11 s = Int32.ofNat (qq' s)) ∧ hAu (Cg tl n k K) K i (Rb K r) p qq' u v ord 0 := by
  have hn := hB.2.2.2.2.1
  have hk := hB.2.2.2.2.2.1
  intro o
  induction o with
  | zero => intro h t F M qq ho; omega
  | succ o ih =>
    intro h t F M qq ho hF ht hh hW h11 h12 hA
    obtain ⟨F, rfl⟩ : ∃ y, F = y + 1 := ⟨F - 1, by omega⟩
    have hBM := wh_hb hB hW
    have hM := hBM.1
    have e9M := hBM.2.2.2.1
    by_cases h0 : h = 0
    · subst h0
      refine ⟨M, qq, ?_, hW, rfl, h11, hA⟩
      rw [eq_X4_seatGuest_83, fl_6 hM, if_pos (show Int32.ofNat 0 = 0 from rfl), ite_self]
    · obtain ⟨hor, hhS⟩ := hh.resolve_left h0
      have htK := ht h0
      have hb : Rb K r (w h) ∧ ord (w h) < ord h ∧ ∃ c, (Cg tl n k K) (p (w h)) h = some c ∧ u (p (w h)) + v h = c := by
        rcases hor with z | z
        · exact hL h z h0
        · rw [z]
          exact ⟨n1, n2, n3⟩
      obtain ⟨b1, b2, b3⟩ := hb
      have hwK := (hRs _ b1).1
      have hA2 := h_aug hRs hA b1 b2 b3 hhS.2
      have hh23 : h < 23 := by have := hhS.2; omega
      rw [eq_X4_seatGuest_83, fl_6 hM, e9M, if_neg (fun y => by have := (gs_nlt (by omega) (by omega)).mp y; omega), if_neg (n_nz (by omega) (by omega)), fl_6 hM, sh_6_5 hM, gs_nn_s, x_i12 hM hh23, h12 h hor h0, fl_6 hM, sh_6_4 hM, gs_nn_s, fl_6 hM, gs_nn_s, x_i11 hM (by omega), x_i11 hM hh23, h11 (w h) hwK, gs_ns]
      obtain ⟨M', qq', k1, k2, k3, k4, k5⟩ := ih (w h) (t + 1) F (gs_sI M 11 h (Int32.ofNat (qq (w h)))) (fun s => if s = h then qq (w h) else qq s) (by omega) (by omega) (fun _ => by omega) (by
        rcases hRi _ b1 with z | z
        · exact Or.inl z
        · exact Or.inr ⟨Or.inl b1, z⟩) (wx_sI hW (Or.inl rfl)) (fun s hs => by
        by_cases e : s = h
        · rw [e, gs_sIe]
          show _ = Int32.ofNat (if h = h then qq (w h) else qq h)
          rw [if_pos rfl]
        · rw [gs_sIn (Or.inr e), h11 s hs]
          show _ = Int32.ofNat (if s = h then qq (w h) else qq s)
          rw [if_neg e]) (fun s hs hs0 => by
        rw [gs_sIn (Or.inl (by decide))]
        exact h12 s hs hs0) hA2
      exact ⟨M', qq', k1, k2, k3, k4, k5⟩
theorem x_seatGuest {u v : Nat → Int} (hX : gs_Fu X) (hB : gs_HB m T n k tl) (hK : K = k + n) (h1 : 1 ≤ i) (hi : i ≤ n) (hP : gs_Hp m tl n k K i p u v) :
    ∃ M' p' u' v', gs_exec X (d + 4) 32 [.inr (.inr 6), .inl (Int32.ofNat i)] m = gs_rU M' ∧ gs_Wx rsH m M' ∧ gs_Hp M' tl n k K (i + 1) p' u' v' := by
  have hn := hB.2.2.2.2.1
  have hk := hB.2.2.2.2.2.1
  have h := hB.1
  obtain ⟨c1, c2, c3, hMt0, hFe0, hu0⟩ := hP
  obtain ⟨M1, f1, f2, f3, f4, f5, f6⟩ := x_fillL (X := X) (d := d + 2) (v := 9223372036854775807) hX h (show gs_ok 10 14 153 = true from rfl) (show gs_len 10 = 23 from rfl) (by decide)
  have hW1 : gs_Wx rsH m M1 := ⟨f2, f4, fun x j _ => by rw [f3]⟩
  have hM1 := (wh_hb hB hW1).1
  have hW2 : gs_Wx rsH m (gs_sI M1 11 0 (Int32.ofNat i)) := wx_sI hW1 (Or.inl rfl)
  have hr0 : ∀ s, ¬ Rb K (0 : Int32) s := fun s hs => bit_0 s (by have := hs.1; omega) hs.2
  have hor : ∀ s, Rb K ((0 : Int32) ||| ((1 : Int32) <<< (Int32.ofNat 0 &&& 31))) s ↔ (Rb K (0 : Int32) s ∨ s = 0) := fun s => Rb_or (by omega) (by omega)
  have hp1 : ∀ s, inS K s → (if s = 0 then i else p s) = p s := fun s hs => if_neg (by have := hs.1; omega)
  have hMt1 : hMt K i (fun s => if s = 0 then i else p s) := by
    refine ⟨fun s hs => ?_, fun s t hs ht hz he => ?_, fun g a b => ?_⟩
    · show (if s = 0 then i else p s) < i
      rw [hp1 s hs]
      exact hMt0.1 s hs
    · have hz : (if s = 0 then i else p s) ≠ 0 := hz
      have he : (if s = 0 then i else p s) = (if t = 0 then i else p t) := he
      rw [hp1 s hs] at hz he
      rw [hp1 t ht] at he
      exact hMt0.2.1 s t hs ht hz he
    · obtain ⟨s, hs, e⟩ := hMt0.2.2 g a b
      refine ⟨s, hs, ?_⟩
      show (if s = 0 then i else p s) = g
      rw [hp1 s hs]
      exact e
  obtain ⟨F', nn, M', u', v', sl', w', ord', r', a1, a2, a3, a4, a5, a6, a7, a8, a9, a10, a11, a12, a13, a14, a15, a16, a17⟩ := x_seat_loop (X := X) (d := d) (p := fun s => if s = 0 then i else p s) hX hB hK h1 hi K 0 0 X.1 0 (gs_sI M1 11 0 (Int32.ofNat i)) u v (fun _ => none) (fun _ => 0) (fun _ => 0) (by omega) (by unfold gs_Fu at hX; omega) hW2 ⟨fun g x y => by
      show (M1.2.2.1 8 g).toInt = u g
      rw [f6 8 (by decide)]
      exact c1 g x y, fun s hs => by
      show (M1.2.2.1 9 s).toInt = v s
      rw [f6 9 (by decide)]
      exact c2 s hs, fun s hs => by
      show M1.2.2.1 10 s = _
      exact f5 s (by have := hs.2; omega), fun s hs => by
      by_cases e : s = 0
      · rw [e, gs_sIe]
        show _ = Int32.ofNat (if 0 = 0 then i else p 0)
        rw [if_pos rfl]
      · rw [gs_sIn (Or.inr e), f3]
        show _ = Int32.ofNat (if s = 0 then i else p s)
        rw [if_neg e]
        exact c3 s ⟨by omega, hs⟩, fun s _ hz => absurd rfl hz⟩ (by omega) ⟨if_pos rfl, hMt1, hor, (hor 0).mpr (Or.inr rfl), Or.inr ⟨hr0, rfl⟩, fun s hs => by
      rcases (hor s).mp hs with z | z
      · exact absurd z (hr0 s)
      · exact Or.inl z, ⟨fun g s c hg hs hc => hFe0.1 g s c ⟨hg.1, or_l hg.2 (fun z => hr0 0 z.2)⟩ hs hc, fun s hs hz => by
        have hz : (if s = 0 then i else p s) ≠ 0 := hz
        show ∃ c, Cg tl n k K (if s = 0 then i else p s) s = some c ∧ u (if s = 0 then i else p s) + v s = c
        rw [hp1 s hs] at hz ⊢
        exact hFe0.2.1 s hs hz, fun s hs => by
        refine ⟨(hFe0.2.2.1 s hs).1, fun hz => (hFe0.2.2.1 s hs).2 ?_⟩
        have hz : (if s = 0 then i else p s) = 0 := hz
        rw [hp1 s hs] at hz
        exact hz, fun g hg => hFe0.2.2.2 g ⟨hg.1, or_l hg.2 (fun z => hr0 0 z.2)⟩⟩, fun _ => hu0 i (Nat.le_refl _) hi, fun s hs hs0 => by
      rcases (hor s).mp hs with z | z
      · exact absurd z (hr0 s)
      · exact absurd z hs0⟩ ⟨fun s _ _ _ rr hrr => absurd hrr (hr0 rr), fun s x _ _ hx => by cases hx⟩ (nUr_all K (by omega)) (fun s _ => Nat.le_refl _) (fun s hs hs0 => by
      rcases (hor s).mp hs with z | z
      · exact absurd z (hr0 s)
      · exact absurd z hs0) (fun g x y => hu0 g (by omega) y)
  have hRs : ∀ s, Rb K r' s → s ≤ K ∧ (if s = 0 then i else p s) ≠ 0 := fun s hs => by
    refine ⟨hs.1, ?_⟩
    rcases a9 s hs with z | ⟨z, y⟩
    · rw [if_pos z]
      omega
    · exact y
  have hnn0 : nn ≠ 0 := by have := a5.1; omega
  have a6 : p nn = 0 := by
    have a6 : (if nn = 0 then i else p nn) = 0 := a6
    rw [if_neg hnn0] at a6
    exact a6
  obtain ⟨M'', qq, b1, b2, b3, b4, b5⟩ := x_aug_loop (X := X) (d := d + 3) (p := fun s => if s = 0 then i else p s) hB hK hi hRs (fun s hs => by
      rcases a9 s hs with z | ⟨z, -⟩
      · exact Or.inl z
      · exact Or.inr z) a8 a5 a11 (a13 _ a11) a12 (K + 1) nn 0 F' M' (fun s => if s = 0 then i else p s) (by omega) (by unfold gs_Fu at hX; omega) (fun _ => by omega) (Or.inr ⟨Or.inr rfl, a5⟩) a3 a4.2.2.2.1 (fun s hs hs0 => by
      rcases hs with z | z
      · exact a15 s z hs0
      · rw [z]
        exact a16) ⟨fun s hs hsn => by
      show (if s = 0 then i else p s) ≤ i
      by_cases e : s = 0
      · rw [if_pos e]
        exact Nat.le_refl _
      · rw [if_neg e]
        have := hMt0.1 s ⟨by omega, hs⟩
        omega, fun s t hs ht hsn htn hz he => by
      have hz : (if s = 0 then i else p s) ≠ 0 := hz
      have he : (if s = 0 then i else p s) = (if t = 0 then i else p t) := he
      by_cases e : s = 0
      · by_cases e2 : t = 0
        · omega
        · rw [if_pos e, if_neg e2] at he
          have := hMt0.1 t ⟨by omega, ht⟩
          omega
      · rw [if_neg e] at hz he
        by_cases e2 : t = 0
        · rw [if_pos e2] at he
          have := hMt0.1 s ⟨by omega, hs⟩
          omega
        · rw [if_neg e2] at he
          exact hMt0.2.1 s t ⟨by omega, hs⟩ ⟨by omega, ht⟩ hz he, fun g x y => by
      by_cases e : g = i
      · exact ⟨0, by omega, fun z => hnn0 z.symm, by rw [e]; exact if_pos rfl⟩
      · obtain ⟨s, hs, es⟩ := hMt0.2.2 g x (by omega)
        refine ⟨s, hs.2, fun z => ?_, ?_⟩
        · rw [z, a6] at es
          omega
        · show (if s = 0 then i else p s) = g
          rw [hp1 s hs]
          exact es, fun s hs _ hz => a7.2.1 s hs hz, fun s _ _ => rfl, fun s hs _ hz => (a7.2.2.1 s hs).2 hz⟩
  obtain ⟨e1, e2⟩ := h_end b5 a7
  refine ⟨M'', qq, u', v', ?_, b2, fun g x y => by rw [b3]; exact a4.1 g x y, fun s hs => by rw [b3]; exact a4.2.1 s hs, fun s hs => b4 s hs.2, e1, e2, fun g x y => a17 g (by omega) y⟩
  rw [eq_X4_seatGuest, fl_6 h, sh_6_3 h, gs_nn_s, f1, gs_bU_s, fl_6 hM1, sh_6_4 hM1, gs_nn_s]
  show gs_ix M1 11 13 (Int32.ofNat 0) _ = _
  rw [x_i11 hM1 (by decide)]
  exact a2.trans b1
end SE2
