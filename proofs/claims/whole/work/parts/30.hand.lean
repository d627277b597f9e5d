theorem gs_dec_out {code : ByteArray} {pc : Nat} {x : Instr × Nat} (h : code.size ≤ pc) : decode code pc ≠ .ok x := by
  have hn : ¬ pc < code.size := by omega
  have key : ∀ f : Nat → Decoder Instr, (ClassFile.Reader.runAt ((ClassFile.Reader.u1 : Decoder Nat) >>= f) code pc) = .error (HasTruncated.truncated pc) := by
    intro f
    simp [Reader.runAt, Reader.u1, ReaderT.run, StateT.run, Bind.bind, ReaderT.bind, StateT.bind, MonadReader.read, readThe, MonadReaderOf.read, ReaderT.read, get, getThe, MonadStateOf.get, StateT.get, liftM, monadLift, MonadLift.monadLift, hn, throw, throwThe, MonadExceptOf.throw, Except.bind, Pure.pure, Except.pure, StateT.pure, StateT.lift]
  unfold decode Decoder.instr
  rw [key]
  intro h
  cases h
/-! The methods with tables of their own, and those that call them. -/
def gs_hh (k : Nat) : List (Nat × Nat × Nat × Nat) := cond (Nat.beq k 118) [(34, 43, 46, 62)] [(0, 10, 13, 13), (0, 10, 17, 15)]
def gs_kw2 (k : Nat) : Cond := .codeWith (gs_y k).1 (gs_y k).2.1 (gs_y k).2.2.1 (gs_y k).2.2.2.1 (gs_hh k)
def gs_wk2 (k : Nat) : List Cond := gs_kw2 k :: lw_tbl.filter goodWord
def gs_Mt2 (l : Launch) (G : gs_G) (St : State → Prop) (d k : Nat) (as : List gs_V) (m : gs_M) (r : gs_R × gs_M) : Prop :=
  (gs_us m ≤ gs_us r.2 ∧ m.1.2.2 ≤ r.2.1.2.2) ∧ vx_Met l (gs_y k).1 (gs_wk2 k) (gs_Rm d (gs_us r.2 - gs_us m) (r.2.1.2.2 - m.1.2.2)) (gs_Pc G St as m) (gs_Qc G r) (gs_XC G r) (gs_us r.2 - gs_us m) (r.2.1.2.2 - m.1.2.2) (gs_A G)
set_option maxRecDepth 1000000 in
theorem gs_hgw : ∀ k ∈ [118, 318], ∀ w ∈ gs_kw2 k :: gs_ow k, gs_gw w := by
  intro k hk
  simp only [List.mem_cons, List.not_mem_nil, or_false] at hk
  rcases hk with rfl | rfl
  · exact gs_gw_all _ (by decide +kernel)
  · exact gs_gw_all _ (by decide +kernel)
set_option maxRecDepth 1000000 in
theorem gs_hcl : ∀ w ∈ [Cond.classLink RX11 62 "java/lang/IllegalArgumentException", Cond.classLink RL 13 "java/lang/IndexOutOfBoundsException", Cond.classLink RL 15 "java/util/NoSuchElementException"], gs_gw w := gs_gw_all _ (by decide +kernel)
section GSP
variable {p : Program} {l : Launch} {e : Env} {R : Room} {s : State} {m₀ : MethodId} {args : Array Value} {below : List Frame} {meth : Method} {c : Code} {G : gs_G} {cc : ByteArray} {nL u0 z0 : Nat} {r : gs_R × gs_M} {St : State → Prop}
theorem gs_wds2 {own : String} (hC : gs_Cx p s m₀ args meth c G cc nL own u0) {k : Nat} (hk : k ∈ [118, 318]) : ∀ w ∈ gs_wk2 k, ∀ (a' : Array Value) (U : State), s.WarmedH U.vm → w.before a' U = true := by
  intro w hw a' U hW
  have hg : gs_gw w := by
    rcases List.mem_cons.mp hw with rfl | hw
    · exact gs_hgw k hk _ List.mem_cons_self
    · exact List.mem_filter.mp hw
  exact word_at hW (good_of_word hg.2) (hC.2.2.2.2.1 w hg)
theorem gs_k2 {k : Nat} (hk : k ∈ [118, 318]) : k < 321 := by
  simp only [List.mem_cons, List.not_mem_nil, or_false] at hk
  omega
theorem gs_siteV2 {own : String} (hC : gs_Cx p s m₀ args meth c G cc nL own u0) (hSt : gs_Stk G St) (hs : St s) {k idx d pc b a4 : Nat} {as rest : List gs_V} {m : gs_M} {r' : gs_R × gs_M} (hk : k ∈ [118, 318]) (hkd : gs_knd k = 1) (hl : gs_gw (.methodLink own idx (gs_y k).1)) (hR : d + 13 ≤ R.frames ∧ 60 * (d + 13) ≤ R.locals)
    (hd : decode cc pc = .ok (.invokevirtual idx, 3)) (hcl : (gs_y k).1.cls = (gs_cl? a4).1) (ha4 : a4 < 12) (hb : gs_kind b = a4 ∧ gs_rk b < m.1.1) (hn : as.length = gs_np k) (h8 : gs_cs rest ≤ 8) (hM : gs_Mt2 l G St d k (.inr (.inr b) :: as) m r')
    (H : Heap) (locs : List Loc) (cells slots : Nat) (ls : Array Slot) (hRep : gs_Rep G m H) (hS : va_S (gs_A G) s.heap H locs) (hls : ls.size = nL) (hz1 : G.1 ≤ H.size) (hz2 : H.size ≤ G.1 + gs_us m) (hc1 : cells + (gs_us r'.2 - gs_us m) ≤ R.cells) (hc2 : slots + (r'.2.1.2.2 - m.1.2.2) ≤ R.slots) :
    vx_Run p l e R s m₀ args below meth c H locs cells slots (gs_us r'.2 - gs_us m) (r'.2.1.2.2 - m.1.2.2) (F0 m₀ pc ls (((Sum.inr (Sum.inr b) :: as).reverse ++ rest).map (gs_cv G))) (rest.map (gs_cv G)) (gs_Qc G r' ((Sum.inr (Sum.inr b) :: as).map (gs_cv G)).toArray) (gs_XC G r') (gs_A G) := by
  obtain ⟨hx, hbc, hml, hown, hgw, hK, hlk, hsz⟩ := id hC
  obtain ⟨q, hq⟩ := gs_clLt ha4
  have eq0 : gs_cl? a4 = q := by
    unfold gs_cl?
    simp only [List.getD_eq_getElem?_getD, hq, Option.getD_some]
  obtain ⟨k0, hk0⟩ := gs_at G m hb.2
  rw [gs_ce_obj hb.1 ha4] at hk0
  have hrec := va_recv hK hRep.1 hq hk0
  obtain ⟨h1, h2, h3, h4⟩ := gs_plainAt (gs_k2 hk)
  have hww := gs_hgw k hk
  have hsel : (Cond.instanceMethod (gs_y k).1).before args s = true ∧ (Cond.selects (gs_y k).1.cls (gs_y k).1 (gs_y k).1).before args s = true := by
    have h9 := hww
    unfold gs_ow at h9
    have hkd : (gs_y k).2.2.2.2.2 = 1 := hkd
    rw [hkd] at h9
    exact ⟨hgw _ (h9 _ (by simp)), hgw _ (h9 _ (by simp))⟩
  refine vx_runVX (Ts := []) (hh := gs_hh k) (bytes := (gs_y k).2.1) (maxL := (gs_y k).2.2.1) (ret := (gs_y k).2.2.2.1) (C := (gs_y k).1.cls) (index := idx) (n := gs_np k) (b := gs_ad G b) (As := as.map (gs_cv G)) ⟨hx, hbc, hml, hown, fun w hw => by cases hw⟩ hM.2
    ⟨⟨rfl, rfl, ?_, ?_, gs_wds2 hC hk, List.mem_cons_self⟩, hgw _ (hww _ List.mem_cons_self), hgw _ (hww _ (List.mem_cons_of_mem _ List.mem_cons_self)), h1, fun sig hsig => ?_, hgw _ hl, hsel⟩ ⟨gs_Pc_blind hSt, ?_, fun U hU hW => gs_Pc_at hC hSt hs hRep hS hz1 hz2 U hU hW⟩ rfl (by simpa using hn) hls ?_ (lv_room (by rw [gs_cs_sum]; exact h8)) hd ⟨hc1, hc2⟩
  · show d + 12 + 1 ≤ R.frames
    omega
  · show 8 + ((gs_y k).2.2.1 + 11) + 60 * (d + 12) ≤ R.locals
    omega
  · rw [hsig] at h4
    exact (Option.some.inj h4).symm
  · rw [gs_ad_lt (Nat.lt_of_lt_of_le hb.2 hRep.2.1), hcl, eq0]
    exact hrec
  · simp [gs_cv]
theorem gs_siteS2 {own : String} (hC : gs_Cx p s m₀ args meth c G cc nL own u0) (hSt : gs_Stk G St) (hs : St s) {k idx d pc : Nat} {as rest : List gs_V} {m : gs_M} {r' : gs_R × gs_M} (hk : k ∈ [118, 318]) (hkd : gs_knd k = 0) (hl : gs_gw (.methodLink own idx (gs_y k).1)) (hR : d + 13 ≤ R.frames ∧ 60 * (d + 13) ≤ R.locals)
    (hd : decode cc pc = .ok (.invokestatic idx, 3)) (hn : as.length = gs_np k) (h8 : gs_cs rest ≤ 8) (hM : gs_Mt2 l G St d k as m r')
    (H : Heap) (locs : List Loc) (cells slots : Nat) (ls : Array Slot) (hRep : gs_Rep G m H) (hS : va_S (gs_A G) s.heap H locs) (hls : ls.size = nL) (hz1 : G.1 ≤ H.size) (hz2 : H.size ≤ G.1 + gs_us m) (hc1 : cells + (gs_us r'.2 - gs_us m) ≤ R.cells) (hc2 : slots + (r'.2.1.2.2 - m.1.2.2) ≤ R.slots) :
    vx_Run p l e R s m₀ args below meth c H locs cells slots (gs_us r'.2 - gs_us m) (r'.2.1.2.2 - m.1.2.2) (F0 m₀ pc ls ((as.reverse ++ rest).map (gs_cv G))) (rest.map (gs_cv G)) (gs_Qc G r' (as.map (gs_cv G)).toArray) (gs_XC G r') (gs_A G) := by
  obtain ⟨hx, hbc, hml, hown, hgw, hK, hlk, hsz⟩ := id hC
  obtain ⟨h1, h2, h3, h4⟩ := gs_plainAt (gs_k2 hk)
  have hww := gs_hgw k hk
  have hst : (Cond.static (gs_y k).1).before args s = true := by
    have h9 := hww
    unfold gs_ow at h9
    have hkd : (gs_y k).2.2.2.2.2 = 0 := hkd
    rw [hkd] at h9
    exact hgw _ (h9 _ (by simp))
  refine vx_runSX (Ts := []) (hh := gs_hh k) (bytes := (gs_y k).2.1) (maxL := (gs_y k).2.2.1) (ret := (gs_y k).2.2.2.1) (index := idx) (n := gs_np k) (As := as.map (gs_cv G)) ⟨hx, hbc, hml, hown, fun w hw => by cases hw⟩ hM.2
    ⟨⟨rfl, rfl, ?_, ?_, gs_wds2 hC hk, List.mem_cons_self⟩, hgw _ (hww _ List.mem_cons_self), hgw _ (hww _ (List.mem_cons_of_mem _ List.mem_cons_self)), h1, fun sig hsig => ?_, hgw _ hl, hst⟩ ⟨gs_Pc_blind hSt, fun U hU hW => gs_Pc_at hC hSt hs hRep hS hz1 hz2 U hU hW⟩ rfl (by simpa using hn) hls ?_ (lv_room (by rw [gs_cs_sum]; exact h8)) hd ⟨hc1, hc2⟩
  · show d + 12 + 1 ≤ R.frames
    omega
  · show 8 + ((gs_y k).2.2.1 + 11) + 60 * (d + 12) ≤ R.locals
    omega
  · rw [hsig] at h4
    exact (Option.some.inj h4).symm
  · simp
/-- what a handler catches -/
theorem gs_rm_sub {lo : gs_L} {i : Nat} {v : Value} : ∀ q ∈ gs_rm lo i, (q.1, gs_cv G q.2) ∈ ((i, v) :: (gs_cl G lo).filter (fun q => !(q.1 == i) && !(q.1 + 1 == i && q.2.category == 2))) := by
  intro q hq
  obtain ⟨h1, h2, h3⟩ := gs_rm_mem hq
  refine List.mem_cons_of_mem _ (List.mem_filter.mpr ⟨List.mem_map.mpr ⟨q, h1, rfl⟩, ?_⟩)
  have e1 : (q.1 == i) = false := by simpa using h2
  have e2 : (q.1 + 1 == i && (gs_cv G q.2).category == 2) = false := by
    rw [gs_cat]
    cases ht : gs_two q.2 with
    | false => simp
    | true =>
      have : q.1 + 1 ≠ i := fun e => h3 ⟨e, ht⟩
      simp [this]
  simp only [e1, e2, Bool.not_false, Bool.and_self]
theorem gs_catch {own : String} {pc E p0 ix : Nat} {lo : gs_L} {m : gs_M} (hC : gs_Cx p s m₀ args meth c G cc nL own u0) (pre : List ExceptionTableEntry) (x : ExceptionTableEntry) (suf : List ExceptionTableEntry) (hsplit : c.exceptionTable.toList = pre ++ x :: suf)
    (hpass : ∀ z ∈ pre, covers z pc = false ∨ (z.catchType ≠ 0 ∧ ∃ nm : String, (Cond.classLink own z.catchType nm).before args s = true ∧ va_Nc (gs_ex E) nm s)) (hx : covers x pc = true) (h0 : x.catchType ≠ 0)
    (hlink : (Cond.classLink own x.catchType (gs_ex E)).before args s = true) (hcast : (Cond.castable (gs_ex E) (gs_ex E)).before args s = true)
    (hst : (decode cc x.handlerPc = .ok (.astore ix, 2) ∧ p0 = x.handlerPc + 2) ∨ ∃ k : Fin 4, (k : Nat) = ix ∧ decode cc x.handlerPc = .ok (.astore_n k, 1) ∧ p0 = x.handlerPc + 1) (hix : ix < nL)
    (hT : gs_Tg p l e R s m₀ args below meth c G nL u0 z0 r p0 (gs_rm lo ix) [] m) : gs_TX p l e R s m₀ args below meth c G nL u0 z0 r pc lo E m := by
  obtain ⟨hxe, hb, hml, hown, hgw, hK, hlk, hsz⟩ := id hC
  refine ⟨hT.1, fun hu hz H locs ls q ce rest hR hS hl hq hv hcl => vx_catch hown pre x suf hsplit hpass hx h0 hlink hcast hq hv hcl ?_⟩
  rcases hst with ⟨hd, rfl⟩ | ⟨k, hk, hd, rfl⟩
  · exact lv_astore (x := q) hxe hb hd hl hix rfl (fun ls' hl' => hT.2 hu hz H locs ls' hR hS (gs_lvs hl' gs_rm_sub))
  · exact lv_astore_n (x := q) hxe hb hd hk hl hix rfl (fun ls' hl' => hT.2 hu hz H locs ls' hR hS (gs_lvs hl' gs_rm_sub))
set_option maxHeartbeats 2000000 in
/-- a call, in a body that may catch -/
theorem gs_inv2_ok {X : gs_E} {C : Nat → List gs_V → gs_M → gs_O} {hs0 : List (Nat × Nat × Nat × Nat × Nat × Nat × Nat)} {go : gs_Go} {pc d : Nat} {is : List gs_N} {lo : gs_L} {st : List gs_V} {m : gs_M} {o : Nat}
    (hC : gs_Cx p s m₀ args meth c G cc nL (gs_own o) u0) (hSt : gs_Stk G St) (hs : St s) (hN : gs_Nst s) (hR0 : R.cells = gs_us r.2 - u0 ∧ R.slots = r.2.1.2.2 - z0) (hRd : d + 13 ≤ R.frames ∧ 60 * (d + 13) ≤ R.locals)
    (hX : ∀ (x : Nat) (m' : gs_M), gs_hd hs0 pc go lo x m' = some r → gs_TX p l e R s m₀ args below meth c G nL u0 z0 r pc lo x m')
    (hcal : ∀ (k : Nat) (as : List gs_V) (m' : gs_M) (r' : gs_R × gs_M), gs_pl k = true → C k as m' = some r' → gs_Mt l G St d k as m' r')
    (hcal2 : ∀ (k : Nat) (as : List gs_V) (m' : gs_M) (r' : gs_R × gs_M), k ∈ [118, 318] → C k as m' = some r' → gs_Mt2 l G St d k as m' r')
    (ins : gs_N) (hh : gs_hard ins = true) (hn2 : gs_h2 ins = false) (hch : gs_ch true o cc pc ins = true)
    (hgo : ∀ (lo' : gs_L) (st' : List gs_V) (m' : gs_M), go ins.2.1 is lo' st' m' = some r → gs_Tg p l e R s m₀ args below meth c G nL u0 z0 r ins.2.1 lo' st' m')
    (h : gs_step X C hs0 go pc ins is lo st m = some r) : gs_Tg p l e R s m₀ args below meth c G nL u0 z0 r pc lo st m := by
  obtain ⟨i, nx, a1, a2, a3, a4, cv, sw⟩ := ins
  cases i with
  | invokevirtual idx =>
    have hn2 : Nat.ble 90 a4 = false := hn2
    have h90 : ¬ 90 ≤ a4 := fun h => by rw [Nat.ble_eq_true_of_le h] at hn2; cases hn2
    simp only [gs_ch, gs_dn, Bool.true_and, Bool.or_eq_true, Bool.and_eq_true, decide_eq_true_eq] at hch
    rcases hch with (hch | hch) | ⟨⟨⟨⟨⟨⟨⟨hd, hnx⟩, hml⟩, ha4⟩, hcl⟩, hk⟩, hkd⟩, ha2⟩
    · exact absurd (Nat.eq_of_beq_eq_true hch) (by omega)
    · exact absurd (Nat.eq_of_beq_eq_true hch) (by omega)
    · have ha4 : a4 < 12 := Nat.lt_of_succ_le (Nat.le_of_ble_eq_true ha4)
      have hkd := Nat.eq_of_beq_eq_true hkd
      have ha2 := Nat.eq_of_beq_eq_true ha2
      have hgo : ∀ (lo' : gs_L) (st' : List gs_V) (m' : gs_M), go nx is lo' st' m' = some r → gs_Tg p l e R s m₀ args below meth c G nL u0 z0 r nx lo' st' m' := hgo
      subst hnx
      have h : gs_pp (gs_pop a2 [] st) (fun as rest => gs_rc as (fun b => gs_fld m b a4 (gs_call C (gs_hd hs0 pc go lo) go (pc + 3) a1 a3 as rest is lo m))) = some r := by
        rw [← h]
        rcases (show a4 = 0 ∨ a4 = 1 ∨ a4 = 2 ∨ a4 = 3 ∨ a4 = 4 ∨ a4 = 5 ∨ a4 = 6 ∨ a4 = 7 ∨ a4 = 8 ∨ a4 = 9 ∨ a4 = 10 ∨ a4 = 11 by omega) with rfl | rfl | rfl | rfl | rfl | rfl | rfl | rfl | rfl | rfl | rfl | rfl <;> rfl
      obtain ⟨as, rest, hp, h⟩ := gs_pp_ok h
      obtain ⟨b, t, rfl, h⟩ := gs_rc_ok h
      obtain ⟨hb, hz⟩ := gs_fld_ok h
      obtain ⟨hst, hlen⟩ := gs_pop_ok a2 [] st _ rest hp
      have hst : st = (Sum.inr (Sum.inr b) :: t).reverse ++ rest := by rw [hst]; rfl
      subst hst
      refine gs_callT (hd := gs_hd hs0 pc go lo) (av := ((Sum.inr (Sum.inr b) :: t).map (gs_cv G)).toArray) hC hR0 (fun v m' hg => hgo _ _ _ hg) hX (fun h8 r' hc => ?_) hz
      rcases hk with hk | hk
      · have hM := hcal a1 _ m r' hk hc
        exact ⟨hM.1, fun H locs cells slots ls hRep hS hls hz1 hz2 hc1 hc2 => gs_siteV hC hSt hs hk hkd (gs_ml_ok hml) hRd hd hcl ha4 hb (by simp at hlen; omega) h8 hM H locs cells slots ls hRep hS hls hz1 hz2 hc1 hc2⟩
      · have hk : a1 ∈ [118, 318] := by rw [Nat.eq_of_beq_eq_true hk]; simp
        have hM := hcal2 a1 _ m r' hk hc
        exact ⟨hM.1, fun H locs cells slots ls hRep hS hls hz1 hz2 hc1 hc2 => gs_siteV2 hC hSt hs hk hkd (gs_ml_ok hml) hRd hd hcl ha4 hb (by simp at hlen; omega) h8 hM H locs cells slots ls hRep hS hls hz1 hz2 hc1 hc2⟩
  | invokestatic idx =>
    simp only [gs_ch, gs_dn, Bool.true_and, Bool.or_eq_true, Bool.and_eq_true, decide_eq_true_eq] at hch
    obtain ⟨⟨⟨⟨⟨hd, hnx⟩, hml⟩, hk⟩, hkd⟩, ha2⟩ := hch
    have hkd := Nat.eq_of_beq_eq_true hkd
    have ha2 := Nat.eq_of_beq_eq_true ha2
    have hgo : ∀ (lo' : gs_L) (st' : List gs_V) (m' : gs_M), go nx is lo' st' m' = some r → gs_Tg p l e R s m₀ args below meth c G nL u0 z0 r nx lo' st' m' := hgo
    subst hnx
    have h : gs_pp (gs_pop a2 [] st) (fun as rest => gs_call C gs_nt go (pc + 3) a1 a3 as rest is lo m) = some r := h
    obtain ⟨as, rest, hp, hz⟩ := gs_pp_ok h
    obtain ⟨hst, hlen⟩ := gs_pop_ok a2 [] st _ rest hp
    have hst : st = as.reverse ++ rest := by rw [hst]; rfl
    subst hst
    refine gs_callT (hd := gs_nt) (av := (as.map (gs_cv G)).toArray) hC hR0 (fun v m' hg => hgo _ _ _ hg) (fun x m' hg => by cases hg) (fun h8 r' hc => ?_) hz
    rcases hk with hk | hk
    · have hM := hcal a1 _ m r' hk hc
      rcases hml with hml | hml
      · exact ⟨hM.1, fun H locs cells slots ls hRep hS hls hz1 hz2 hc1 hc2 => gs_siteS hC hSt hs hk hkd (gs_ml_ok hml) hRd hd (by simp at hlen; omega) h8 hM H locs cells slots ls hRep hS hls hz1 hz2 hc1 hc2⟩
      · obtain ⟨-, r2, hc2, hres⟩ := gs_call_ok hz
        rw [hc] at hc2
        cases hc2
        rcases hres with ⟨v, hv, -⟩ | ⟨x, -, hx⟩
        · exact ⟨hM.1, fun H locs cells slots ls hRep hS hls hz1 hz2 hc1 hc2 => gs_siteSN hC hSt hs hv hk hkd (va_Nw.use rfl (hN _ hml)) hRd hd (by simp at hlen; omega) h8 hM H locs cells slots ls hRep hS hls hz1 hz2 hc1 hc2⟩
        · cases hx
    · have e1 := Nat.eq_of_beq_eq_true hk
      have hk : a1 ∈ [118, 318] := by rw [e1]; simp
      have hM := hcal2 a1 _ m r' hk hc
      rcases hml with hml | hml
      · exact ⟨hM.1, fun H locs cells slots ls hRep hS hls hz1 hz2 hc1 hc2 => gs_siteS2 hC hSt hs hk hkd (gs_ml_ok hml) hRd hd (by simp at hlen; omega) h8 hM H locs cells slots ls hRep hS hls hz1 hz2 hc1 hc2⟩
      · exfalso
        subst e1
        have h9 : ∀ x ∈ gs_mn, x.2.2 ≠ 318 := by decide
        exact h9 _ hml rfl
  | invokespecial idx =>
    have hn2 : Nat.ble 90 a4 = false := hn2
    have h90 : ¬ 90 ≤ a4 := fun h => by rw [Nat.ble_eq_true_of_le h] at hn2; cases hn2
    simp only [gs_ch, gs_dn, Bool.true_and, Bool.or_eq_true, Bool.and_eq_true, decide_eq_true_eq] at hch
    rcases hch with hch | ⟨⟨⟨⟨⟨⟨⟨hd, hnx⟩, hml⟩, hk⟩, hkd⟩, ha2⟩, hret⟩, hnm⟩
    · exact absurd (Nat.eq_of_beq_eq_true hch) (by omega)
    · have hkd := Nat.eq_of_beq_eq_true hkd
      have ha2 := Nat.eq_of_beq_eq_true ha2
      have hgo : ∀ (lo' : gs_L) (st' : List gs_V) (m' : gs_M), go nx is lo' st' m' = some r → gs_Tg p l e R s m₀ args below meth c G nL u0 z0 r nx lo' st' m' := hgo
      subst hnx
      have h : gs_pp (gs_pop a2 [] st) (fun as rest => gs_rc as (fun _ => gs_call C gs_nt go (pc + 3) a1 a3 as rest is lo m)) = some r := by
        rw [← h]
        show _ = (match a4 with
          | 92 => _
          | _ => _)
        split
        · omega
        · rfl
      obtain ⟨as, rest, hp, h⟩ := gs_pp_ok h
      obtain ⟨b, t, rfl, hz⟩ := gs_rc_ok h
      obtain ⟨hst, hlen⟩ := gs_pop_ok a2 [] st _ rest hp
      have hst : st = (Sum.inr (Sum.inr b) :: t).reverse ++ rest := by rw [hst]; rfl
      subst hst
      refine gs_callT (hd := gs_nt) (av := ((Sum.inr (Sum.inr b) :: t).map (gs_cv G)).toArray) hC hR0 (fun v m' hg => hgo _ _ _ hg) (fun x m' hg => by cases hg) (fun h8 r' hc => ?_) hz
      have hM := hcal a1 _ m r' hk hc
      obtain ⟨-, r2, hc2, hres⟩ := gs_call_ok hz
      rw [hc] at hc2
      cases hc2
      have hl : (Cond.methodLink (gs_own o) idx (gs_y a1).1).before args s = true ∨ (Cond.methodLinkNest (gs_own o) idx (gs_y a1).1 RX11).before args s = true := by
        rcases hml with hml | hml
        · exact Or.inl (hC.2.2.2.2.1 _ (gs_ml_ok hml))
        · exact Or.inr (va_Nw.use rfl (hN _ hml))
      rcases hres with ⟨v, hv, -⟩ | ⟨x, -, hx⟩
      · exact ⟨hM.1, fun H locs cells slots ls hRep hS hls hz1 hz2 hc1 hc2 => gs_siteI hC hSt hs hv hk hkd hret hnm hl hRd hd (by simp at hlen; omega) h8 hM H locs cells slots ls hRep hS hls hz1 hz2 hc1 hc2⟩
      · cases hx
  | _ => exact absurd (hh.symm.trans hn2) (by decide)
end GSP
