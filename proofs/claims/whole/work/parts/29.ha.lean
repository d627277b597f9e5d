/-! The other instructions, all together. -/
theorem gs_len_le (a : Nat) : gs_len a ≤ 20000 := by
  have h : ∀ x ∈ gs_lens, x ≤ 20000 := by decide +kernel
  unfold gs_len
  rw [List.getD_eq_getElem?_getD]
  cases hx : gs_lens[a]? with
  | none => exact Nat.zero_le _
  | some x => exact h x (List.mem_of_getElem? hx)
set_option maxRecDepth 1000000 in
theorem gs_acw : ∀ w ∈ [Cond.arrayClass .byte, Cond.arrayClass .int, Cond.arrayClass .long], gs_gw w := gs_gw_all _ (by decide +kernel)
theorem gs_xt_mem {o : Nat} {cc : ByteArray} {pc idx E : Nat} (h : gs_xc o cc pc idx E = true) : ∃ is ic : Nat, (o, idx, E, is, ic) ∈ gs_xt ∧ decode cc pc = .ok (.new idx, 3) ∧ decode cc (pc + 3) = .ok (.dup, 1) ∧ decode cc (pc + 4) = .ok (.ldc is, 2) ∧ decode cc (pc + 6) = .ok (.invokespecial ic, 3) ∧ decode cc (pc + 9) = .ok (.athrow, 1) := by
  obtain ⟨⟨x1, x2, x3, x4, x5⟩, hx, h⟩ := List.any_eq_true.mp h
  simp only [Bool.and_eq_true, decide_eq_true_eq] at h
  obtain ⟨⟨⟨⟨⟨⟨⟨h1, h2⟩, h3⟩, d0⟩, d3⟩, d4⟩, d6⟩, d9⟩ := h
  have h1 := Nat.eq_of_beq_eq_true h1
  have h2 := Nat.eq_of_beq_eq_true h2
  have h3 := Nat.eq_of_beq_eq_true h3
  subst h1; subst h2; subst h3
  exact ⟨x4, x5, hx, d0, d3, d4, d6, d9⟩
section GHA
variable {p : Program} {l : Launch} {e : Env} {R : Room} {s : State} {m₀ : MethodId} {args : Array Value} {below : List Frame} {meth : Method} {c : Code} {G : gs_G} {cc : ByteArray} {nL u0 z0 o rb : Nat} {ini : Bool} {r : gs_R × gs_M} {av : Nat} {X : gs_E}
theorem gs_hh_thr {pc idx E : Nat} {lo : gs_L} {st : List gs_V} {m : gs_M} (hl : l.stackTraces = false) (hC : gs_Cx p s m₀ args meth c G cc nL (gs_own o) u0) (hs : gs_St G av X s) (ht : ∀ y ∈ c.exceptionTable.toList, False) (hR0 : R.cells = gs_us (gs_gb m) - u0 ∧ R.slots = (gs_gb m).1.2.2 - z0) (hRd : 13 ≤ R.frames ∧ 780 ≤ R.locals)
    (hx : gs_xc o cc pc idx E = true) (h8 : gs_cs st ≤ 8) : gs_Tg p l e R s m₀ args below meth c G nL u0 z0 (.inr E, gs_gb m) pc lo st m := by
  obtain ⟨is, ic, hm, d0, d3, d4, d6, d9⟩ := gs_xt_mem hx
  simp only [gs_xt, List.mem_cons, List.not_mem_nil, or_false, Prod.mk.injEq] at hm
  rcases hm with ⟨rfl, rfl, rfl, rfl, rfl⟩ | ⟨rfl, rfl, rfl, rfl, rfl⟩ | ⟨rfl, rfl, rfl, rfl, rfl⟩
  · obtain ⟨sa, hsa⟩ := hs.2.2.2.1 (5, 78, "the text has a fault") (by simp [gs_sxs])
    exact gs_throw (own := RX5) (ix := 7) (rx := Bundle.six) (by decide +kernel) (by decide +kernel) (by decide +kernel) (by decide +kernel) hl hC hs ht hR0 hRd (cls := "java/lang/IllegalArgumentException") rfl (by decide) (xa := gs_xa0) rfl gs_xg0 (fun w hw => List.mem_append_right _ (List.mem_filter.mpr ⟨List.mem_append_left _ (List.mem_append_left _ (List.mem_filter.mp hw).1), (List.mem_filter.mp hw).2⟩)) (by decide +kernel) hsa h8 d0 d3 d4 d6 d9
  · obtain ⟨sa, hsa⟩ := hs.2.2.2.1 (11, 110, "no such guest") (by simp [gs_sxs])
    exact gs_throw (own := RX11) (ix := 7) (rx := Bundle.six) (by decide +kernel) (by decide +kernel) (by decide +kernel) (by decide +kernel) hl hC hs ht hR0 hRd (cls := "java/lang/IndexOutOfBoundsException") rfl (by decide) (xa := gs_xa1) rfl gs_xg1 (fun w hw => List.mem_append_right _ (List.mem_filter.mpr ⟨List.mem_append_left _ (List.mem_append_right _ (List.mem_filter.mp hw).1), (List.mem_filter.mp hw).2⟩)) (by decide +kernel) hsa h8 d0 d3 d4 d6 d9
  · obtain ⟨sa, hsa⟩ := hs.2.2.2.1 (11, 117, "no such what") (by simp [gs_sxs])
    exact gs_throw (own := RX11) (ix := 13) (rx := prog_31_method_4_code) (by decide +kernel) (by decide +kernel) (by decide +kernel) (by decide +kernel) hl hC hs ht hR0 hRd (cls := "java/util/NoSuchElementException") rfl (by decide) (xa := gs_xa2) rfl gs_xg2 (fun w hw => List.mem_append_right _ (List.mem_filter.mpr ⟨List.mem_append_right _ (List.mem_filter.mp hw).1, (List.mem_filter.mp hw).2⟩)) (by decide +kernel) hsa h8 d0 d3 d4 d6 d9
set_option maxHeartbeats 2000000 in
theorem gs_ha (hl : l.stackTraces = false) (hC : gs_Cx p s m₀ args meth c G cc nL (gs_own o) u0) (hs : gs_St G av X s) (hxx : ∀ pc idx E : Nat, gs_xc o cc pc idx E = true → ∀ y ∈ c.exceptionTable.toList, False) (hR0 : R.cells = gs_us r.2 - u0 ∧ R.slots = r.2.1.2.2 - z0) (hRd : 13 ≤ R.frames ∧ 780 ≤ R.locals) :
    gs_HH p l e R s m₀ args below meth c G cc nL u0 z0 o rb ini r X := by
  intro C hs' go pc ins is lo st m h2 hci hc3 hgo h
  obtain ⟨i, nx, a1, a2, a3, a4, cv, sw⟩ := ins
  have hgo : ∀ (lo' : gs_L) (st' : List gs_V) (m' : gs_M), go nx is lo' st' m' = some r → gs_Tg p l e R s m₀ args below meth c G nL u0 z0 r nx lo' st' m' := hgo
  cases i with
  | ldc idx =>
    have ha1 := Nat.eq_of_beq_eq_true (show Nat.beq a1 1 = true from h2)
    subst ha1
    simp only [gs_ck3, gs_dn, Bool.or_eq_true, Bool.and_eq_true, decide_eq_true_eq] at hc3
    rcases hc3 with hc3 | ⟨⟨⟨hd, hnx⟩, ho⟩, hi⟩
    · exact absurd hc3 (by decide)
    · have ho := Nat.eq_of_beq_eq_true ho
      have hi := Nat.eq_of_beq_eq_true hi
      subst ho; subst hi; subst hnx
      exact gs_hh_ldc hC hs.2.2.2.2.2.2.2.2.1 hd hgo h
  | ldc_w idx =>
    have ha1 := Nat.eq_of_beq_eq_true (show Nat.beq a1 1 = true from h2)
    subst ha1
    exact absurd (show Nat.beq 1 0 = true from hc3) (by decide)
  | iaload =>
    have h0 : (!(Nat.beq a1 0)) = true := h2
    match a1, h0, h, hc3 with
    | 0, h0, _, _ => exact absurd h0 (by decide)
    | q + 1, _, h, hc3 =>
      simp only [gs_ck3, gs_dn, Bool.or_eq_true, Bool.and_eq_true, decide_eq_true_eq] at hc3
      rcases hc3 with hc3 | ⟨hd, hnx⟩
      · exact absurd (Nat.eq_of_beq_eq_true hc3) (by omega)
      · subst hnx
        exact gs_hh_sld hC hs.2.2.2.2.2.2.2.2.2 hd hgo h
  | laload =>
    have h0 : (!(Nat.beq a1 0)) = true := h2
    match a1, h0, h, hc3 with
    | 0, h0, _, _ => exact absurd h0 (by decide)
    | q + 1, _, h, hc3 =>
      simp only [gs_ck3, gs_dn, Bool.or_eq_true, Bool.and_eq_true, decide_eq_true_eq] at hc3
      rcases hc3 with hc3 | ⟨hd, hnx⟩
      · exact absurd (Nat.eq_of_beq_eq_true hc3) (by omega)
      · subst hnx
        exact gs_hh_dig hC hs hd hgo h
  | arraylength =>
    have h0 : (!(Nat.beq a1 0)) = true := h2
    match a1, h0, h, hc3 with
    | 0, h0, _, _ => exact absurd h0 (by decide)
    | q + 1, _, h, hc3 =>
      simp only [gs_ck3, gs_dn, Bool.or_eq_true, Bool.and_eq_true, decide_eq_true_eq] at hc3
      rcases hc3 with hc3 | ⟨hd, hnx⟩
      · exact absurd (Nat.eq_of_beq_eq_true hc3) (by omega)
      · subst hnx
        exact gs_hh_sln hC hs.2.2.2.2.2.2.2.2.2 hd hgo h
  | aastore =>
    simp only [gs_ck3, gs_dn, Bool.and_eq_true, decide_eq_true_eq] at hc3
    obtain ⟨hd, hnx⟩ := hc3
    subst hnx
    exact gs_hh_aast hC hd hgo h
  | getstatic idx =>
    simp only [gs_ck3, gs_dn, Bool.and_eq_true, decide_eq_true_eq] at hc3
    obtain ⟨⟨⟨hd, hnx⟩, ho⟩, hi⟩ := hc3
    have ho := Nat.eq_of_beq_eq_true ho
    have hi := Nat.eq_of_beq_eq_true hi
    subst ho; subst hi; subst hnx
    exact gs_hh_stat hC hs hd gs_dw hgo h
  | newarray ty =>
    simp only [gs_ck3, gs_dn, Bool.or_eq_true, Bool.and_eq_true, decide_eq_true_eq] at hc3
    obtain ⟨⟨hd, hnx⟩, hc3⟩ := hc3
    subst hnx
    rcases hc3 with (⟨ha, hty⟩ | ⟨ha, hty⟩) | ⟨ha, hty⟩
    · have ha := Nat.eq_of_beq_eq_true ha
      subst ha
      exact gs_hh_arr (t0 := 0) hC hR0 hd hty (gs_acw _ (by simp)) rfl (by decide) (by decide) (fun n hn => by show n * 1 ≤ _; omega) (fun cA => by
        show vp_cell cA (gs_len (gs_pm m.1.1), .inl (gs_up1 m.2.1 (gs_pm m.1.1) (fun _ => 0) (gs_pm m.1.1))) = _
        rw [show gs_up1 m.2.1 (gs_pm m.1.1) (fun _ => (0 : Int32)) (gs_pm m.1.1) = fun _ => 0 by simp [gs_up1]]
        rfl) (gs_len_le _) hgo h
    · have ha := Nat.eq_of_beq_eq_true ha
      subst ha
      exact gs_hh_arr (t0 := 1) hC hR0 hd hty (gs_acw _ (by simp)) rfl (by decide) (by decide) (fun n hn => by show n * 4 ≤ _; omega) (fun cA => by
        show vp_cell cA (gs_len (gs_pm m.1.1), .inl (gs_up1 m.2.1 (gs_pm m.1.1) (fun _ => 0) (gs_pm m.1.1))) = _
        rw [show gs_up1 m.2.1 (gs_pm m.1.1) (fun _ => (0 : Int32)) (gs_pm m.1.1) = fun _ => 0 by simp [gs_up1]]
        rfl) (gs_len_le _) hgo h
    · have ha := Nat.eq_of_beq_eq_true ha
      subst ha
      exact gs_hh_arr (t0 := 2) hC hR0 hd hty (gs_acw _ (by simp)) rfl (by decide) (by decide) (fun n hn => by show n * 8 ≤ _; omega) (fun cA => by
        show vp_cell cA (gs_len (gs_pm m.1.1), .inr (.inl (gs_up1 m.2.2.1 (gs_pm m.1.1) (fun _ => 0) (gs_pm m.1.1)))) = _
        rw [show gs_up1 m.2.2.1 (gs_pm m.1.1) (fun _ => (0 : Int64)) (gs_pm m.1.1) = fun _ => 0 by simp [gs_up1]]
        rfl) (gs_len_le _) hgo h
  | anewarray idx =>
    simp only [gs_ck3, gs_dn, Bool.or_eq_true, Bool.and_eq_true, decide_eq_true_eq] at hc3
    obtain ⟨⟨hd, hnx⟩, hc3⟩ := hc3
    subst hnx
    rcases hc3 with ⟨ha, hun⟩ | ⟨ha, hun⟩
    · have ha := Nat.eq_of_beq_eq_true ha
      subst ha
      exact gs_hh_aarr (t0 := 3) hC hR0 hd hun hs.2.1 rfl (Or.inl rfl) (gs_len_le _) hgo h
    · have ha := Nat.eq_of_beq_eq_true ha
      subst ha
      exact gs_hh_aarr (t0 := 4) hC hR0 hd hun hs.2.2.1 rfl (Or.inr rfl) (gs_len_le _) hgo h
  | new idx =>
    have h : cond (Nat.ble 100 a1) (cond (Nat.ble (gs_cs st) 8) (some (.inr (a1 - 100), gs_gb m)) none) (cond (Nat.beq m.1.2.1 0 && Nat.beq (gs_kind (gs_pm m.1.1)) a1) (go nx is lo (.inr (.inr (gs_pm m.1.1)) :: st) (gs_nw m a2)) none) = some r := h
    have hc3 : cond (Nat.ble 100 a1) (gs_xc o cc pc idx (a1 - 100)) (gs_dn cc pc nx (.new idx) 3 && Nat.blt a1 12 && decide ((o, idx, (gs_cl? a1).1) ∈ gs_un) && Nat.beq a2 (gs_cl? a1).2.2) = true := hc3
    cases hb : Nat.ble 100 a1 with
    | true =>
      rw [hb] at h hc3
      obtain ⟨h8, h⟩ := gs_cd_ok (show cond (Nat.ble (gs_cs st) 8) (some (Sum.inr (a1 - 100), gs_gb m)) none = some r from h)
      cases h
      exact gs_hh_thr hl hC hs (hxx _ _ _ hc3) hR0 hRd hc3 (Nat.le_of_ble_eq_true h8)
    | false =>
      rw [hb] at h hc3
      have hc3 : (gs_dn cc pc nx (.new idx) 3 && Nat.blt a1 12 && decide ((o, idx, (gs_cl? a1).1) ∈ gs_un) && Nat.beq a2 (gs_cl? a1).2.2) = true := hc3
      simp only [gs_dn, Bool.and_eq_true, decide_eq_true_eq] at hc3
      obtain ⟨⟨⟨⟨hd, hnx⟩, h12⟩, hun⟩, ha2⟩ := hc3
      subst hnx
      exact gs_hh_new hC hR0 hd (Nat.lt_of_succ_le (Nat.le_of_ble_eq_true h12)) hun (Nat.eq_of_beq_eq_true ha2) hgo h
  | invokevirtual idx =>
    have h90 := Nat.le_of_ble_eq_true (show Nat.ble 90 a4 = true from h2)
    simp only [gs_ck3, gs_dn, Bool.or_eq_true, Bool.and_eq_true, decide_eq_true_eq] at hc3
    rcases hc3 with hc3 | ⟨⟨⟨hd, hnx⟩, ho⟩, hc3⟩
    · exact absurd (Nat.lt_of_succ_le (Nat.le_of_ble_eq_true hc3)) (by omega)
    · have ho := Nat.eq_of_beq_eq_true ho
      subst ho; subst hnx
      rcases hc3 with ⟨ha, hi⟩ | ⟨ha, hi⟩
      · have ha := Nat.eq_of_beq_eq_true ha
        have hi := Nat.eq_of_beq_eq_true hi
        subst ha; subst hi
        have h0 : gs_a1 st (fun a st => cond (Nat.beq a 100001 && Nat.ble (gs_cs st) 8) (go (pc + 3) is lo (.inl 171 :: st) m) none) = some r := h
        clear h
        obtain ⟨a, st, rfl, h1⟩ := gs_a1_ok h0
        clear h0
        obtain ⟨hb1, h⟩ := gs_cd_ok h1
        clear h1
        simp only [Bool.and_eq_true] at hb1
        have ha := Nat.eq_of_beq_eq_true hb1.1
        subst ha
        exact gs_hh_len hC hs hR0 hRd hd (Nat.le_of_ble_eq_true hb1.2) hgo h
      · have ha := Nat.eq_of_beq_eq_true ha
        have hi := Nat.eq_of_beq_eq_true hi
        subst ha; subst hi
        have h0 : gs_ia st (fun j a st => cond (Nat.beq a 100001 && Nat.ble (gs_cs st) 8 && gs_in j 171) (go (pc + 3) is lo (.inl (gs_words.getD j.toNatClampNeg 0) :: st) m) none) = some r := h
        clear h
        obtain ⟨j, a, st, rfl, h1⟩ := gs_ia_ok h0
        clear h0
        obtain ⟨hb1, h⟩ := gs_cd_ok h1
        clear h1
        simp only [Bool.and_eq_true] at hb1
        have ha := Nat.eq_of_beq_eq_true hb1.1.1
        subst ha
        exact gs_hh_chr hC hs hR0 hRd hd (Nat.le_of_ble_eq_true hb1.1.2) (gs_in_iff hb1.2) hgo h
  | invokespecial idx =>
    have h90 := Nat.le_of_ble_eq_true (show Nat.ble 90 a4 = true from h2)
    simp only [gs_ck3, gs_dn, Bool.or_eq_true, Bool.and_eq_true, decide_eq_true_eq] at hc3
    rcases hc3 with hc3 | ⟨⟨ha, hd, hnx⟩, hoi⟩
    · exact absurd (Nat.lt_of_succ_le (Nat.le_of_ble_eq_true hc3)) (by omega)
    · have ha := Nat.eq_of_beq_eq_true ha
      subst ha; subst hnx
      exact gs_hh_obj hC hRd hd hoi hgo h
  | invokestatic idx => exact absurd (show false = true from h2) (by decide)
  | _ => exact absurd (show false = true from h2) (by decide)
theorem gs_HAok (hl : l.stackTraces = false) : gs_HA l G (gs_St G av X) X :=
  fun _ _ _ _ _ _ _ _ _ _ _ _ _ _ _ _ _ hC hs ht hR0 hRd => gs_ha hl hC hs (fun _ _ _ _ => ht) hR0 hRd
/-- the soundness, from what the start gives -/
theorem gs_soundSt (hl : l.stackTraces = false) (d k : Nat) (as : List gs_V) (m : gs_M) (r : gs_R × gs_M) (hk : gs_pl k = true) (h : gs_exec X d k as m = some r) : gs_Mt l G (gs_St G av X) d k as m r :=
  gs_sound (gs_St_k G av X) (gs_St_n G av X) (gs_HAok hl) d k as m r hk h
end GHA
