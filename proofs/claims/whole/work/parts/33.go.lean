theorem gs_start {s : State} {b L : Nat} {xs : Nat → Int32} (F : Nat) (hts : ∀ w ∈ lw_tbl, w.before #[Value.ref b] s = true) (hn : (Jvm.Cond.and given_1 narrow_1).before #[Value.ref b] s = true) (hX : va_X b L xs s s.heap) (hb : b < s.heap.size) :
    ∃ (G : gs_G) (av : Nat), G.1 = s.heap.size ∧ G.2.2.2.2.2 = b ∧ gs_K G s ∧ gs_St G av (F, L, xs) s := by
  have hf := flat_of_before _ hn
  have hf : ∀ w ∈ gs_flat, w.before #[Value.ref b] s = true := hf
  have fm : ∀ w : Cond, w ∈ _ → w.before #[Value.ref b] s = true := fun w hw => hf w (of_decide_eq_true (List.all_eq_true.mp gs_fmore w hw))
  have tm : ∀ w : Cond, w ∈ _ → w.before #[Value.ref b] s = true := fun w hw => hts w (of_decide_eq_true (List.all_eq_true.mp gs_tmore w hw))
  have hA : ∀ a : Nat, a < s.heap.size → ¬ s.heap.size ≤ a := fun a h => by omega
  have hk : ∀ c : Nat, ∃ D : ClassId × (Nat → Nat), ∀ q : vw_C, vwCl[c]? = some q → u_Kn s q.1 q.2.1 q.2.2 D.1 D.2 := by
    intro c
    cases hq : vwCl[c]? with
    | none => exact ⟨(0, fun _ => 0), fun q h => by cases h⟩
    | some q =>
      obtain ⟨cC, iS, h⟩ := u_known (ws := lw_tbl) hts (fun w hw => ((gs_clAll hq).1 w hw).1) (hts _ (of_decide_eq_true (List.all_eq_true.mp gs_instw q (List.mem_of_getElem? hq))))
      exact ⟨(cC, iS), fun q' h' => by cases h'; exact h⟩
  obtain ⟨D, hD⟩ := Classical.axiomOfChoice hk
  obtain ⟨cB, kB, pB, b1, b2, b3⟩ := Cond.arrayClass_spec (tm (.arrayClass .byte) (by simp))
  obtain ⟨cI, kI, pI, i1, i2, i3⟩ := Cond.arrayClass_spec (tm (.arrayClass .int) (by simp))
  obtain ⟨cL, kL, pL, l1, l2, l3⟩ := Cond.arrayClass_spec (tm (.arrayClass .long) (by simp))
  obtain ⟨pC, cC, kC, c1, -, c2, c3, c4⟩ := Cond.arrayOver_spec (tm (.arrayOver (.object "GuestStars$Cloud")) (by simp))
  obtain ⟨pG, cG, kG, g1, -, g2, g3, g4⟩ := Cond.arrayOver_spec (tm (.arrayOver (.object "GuestStars$Guest")) (by simp))
  obtain ⟨tD, hD1, hD2⟩ := va_Tof (tm := .static RX4 "DIGITS" "[J") (ty := .long) (N := 12) (f := fun i => .long (gs_digits.getD i 0)) (A := fun q => s.heap.size ≤ q) (by decide) (fm _ (by simp)) (va_eqt (fm _ (by simp))) (fun j hj => va_eqtl (hf _ (gs_fdig j hj))) hA
  obtain ⟨adK, adV, hS, hSe⟩ := vk_Sof (N := 1) (tm := fun _ => .string RX9 19) (len := [171]) (byt := [gs_words]) (A := fun q => s.heap.size ≤ q) (s := s) (args := #[Value.ref b])
    (fun i hi => by rw [show i = 0 by omega]; decide) (fun _ _ => fm _ (by simp)) (fun _ _ => fm _ (by simp)) (fun _ _ => fm _ (by simp)) (fun i hi => by rw [show i = 0 by omega]; exact fm _ (by simp))
    (fun i hi j hj => by
      rw [show i = 0 by omega] at hj ⊢
      exact hf _ (of_decide_eq_true (gs_fwrd j hj))) (fun i j hi hj hij => absurd (show i = j by omega) hij) hA
  obtain ⟨s1, s2, s3, s4⟩ := hS.1 0 (by decide)
  refine ⟨(s.heap.size, (fun c => (D c).1, fun c => (D c).2), fun k => (match k with | 12 => cB | 13 => cI | 14 => cL | 15 => cC | _ => cG), tD, adK 0, b), adV 0, rfl, rfl, ⟨fun c q hq => hD c q hq, fun k q hq => ?_⟩, ?_⟩
  · match k, hq with
    | 0, hq => cases hq; exact ⟨fun n z => ⟨fun k h => (by cases h), kB, b2, pB, b3⟩, b1⟩
    | 1, hq => cases hq; exact ⟨fun n z => ⟨fun k h => (by cases h), kI, i2, pI, i3⟩, i1⟩
    | 2, hq => cases hq; exact ⟨fun n z => ⟨fun k h => (by cases h), kL, l2, pL, l3⟩, l1⟩
    | 3, hq => cases hq; exact ⟨fun n z => ⟨fun k h => (by cases h), kC, c2, pC, c3⟩, kC, pC, c2, c3, c1, c4⟩
    | 4, hq => cases hq; exact ⟨fun n z => ⟨fun k h => (by cases h), kG, g2, pG, g3⟩, kG, pG, g2, g3, g1, g4⟩
    | n + 5, hq => cases hq
  · refine ⟨fun w hw => va_Nw.of (gs_nb_tab (List.all_eq_true.mp gs_nbl_ok w hw)) (hts w (of_decide_eq_true (List.all_eq_true.mp gs_nblw w hw))), va_AO.of (tm _ (by simp)), va_AO.of (tm _ (by simp)), fun x hx => ?_, vx_Zqof (tm _ (by simp)) (tm _ (by simp)) (fm _ (by simp)) hA, vx_Zqof (tm _ (by simp)) (tm _ (by simp)) (fm _ (by simp)) hA, va_Zof (tm _ (by simp)) (tm _ (by simp)) hD1 hA, hD2,
      ⟨vk_R.of (tm _ (by simp)) (hSe 0 (by decide)), s1, s2, s3, s4, va_Zof (tm _ (by simp)) (tm _ (by simp)) (va_eqt (fm _ (by simp))) hA, va_Zqof (tm _ (by simp)) (tm _ (by simp)) (fm _ (by simp)) hA⟩, hX, hb, hA b hb, fun x hx => va_Nc.of (hf _ (of_decide_eq_true (List.all_eq_true.mp gs_fnc x hx)))⟩
    have h9 := List.all_eq_true.mp gs_fsx x hx
    simp only [Bool.and_eq_true, decide_eq_true_eq] at h9
    obtain ⟨a, c, cA, kA, q1, -⟩ := Cond.exactly_spec (args := #[Value.ref b]) (first := s) (o := none) (s := s) (idx := []) (t := .string (gs_own x.1) x.2.1) (cls := "java/lang/String") (hf _ h9.1)
    exact ⟨a, vk_R.of (hts _ h9.2) q1⟩
