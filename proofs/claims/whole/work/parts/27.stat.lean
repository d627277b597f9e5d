/-! What the start gives: texts, statics, words that no table keeps; exceptions and the long row out of it. -/
def gs_xnm : List String := ["java/lang/RuntimeException", "java/lang/Exception"]
def gs_xa0 : List Cond := gs_atX RX5 80 "java/lang/IllegalArgumentException" 7 Bundle.six gs_xnm
def gs_xa1 : List Cond := gs_atX RX11 112 "java/lang/IndexOutOfBoundsException" 7 Bundle.six gs_xnm
def gs_xa2 : List Cond := gs_atX RX11 119 "java/util/NoSuchElementException" 13 prog_31_method_4_code gs_xnm
def gs_nbl : List Cond := gs_mn.map gs_mnw ++ ((gs_xa0 ++ gs_xa1 ++ gs_xa2).filter (fun w => !goodWord w))
def gs_nbok (w : Cond) : Bool := match w with
  | .declares _ => true
  | .castable _ _ => true
  | .methodLinkNest _ _ _ _ => true
  | _ => false
theorem gs_nbl_ok : gs_nbl.all gs_nbok = true := by decide +kernel
theorem gs_nb_warm {w : Cond} (h : gs_nbok w = true) {s U : State} (hW : s.WarmedH U.vm) (hz : va_Nw w s) : va_Nw w U := by
  unfold gs_nbok at h
  split at h
  · exact va_Nw.warmD hW hz
  · exact va_Nw.warmC hW hz
  · exact va_Nw.warmM hW hz
  · cases h
theorem gs_nb_tab {w : Cond} (h : gs_nbok w = true) : w.onTables = true := by
  unfold gs_nbok at h
  split at h
  · rfl
  · rfl
  · rfl
  · cases h
def gs_sxs : List (Nat × Nat × String) := [(5, 78, "the text has a fault"), (11, 110, "no such guest"), (11, 117, "no such what")]
def gs_wtx : String := "reign gate book from guest rock in near lasts bright moves worth tail cloud plate slow tick sort watch turn price limit blur north south east west or and not inches month "
/-- the text of the words: its cell, its row of signs -/
def gs_StS (G : gs_G) (av : Nat) (U : State) : Prop :=
  vk_R RX9 19 gs_wtx G.2.2.2.2.1 U ∧ va_O "java/lang/String" G.2.2.2.2.1 (gs_A G) U U.heap ∧ va_OF "java/lang/String" "coder" "B" (.int 0) G.2.2.2.2.1 (gs_A G) U U.heap ∧ va_OF "java/lang/String" "value" "[B" (.ref av) G.2.2.2.2.1 (gs_A G) U U.heap ∧ va_T .byte av 171 (fun j => .int (gs_words.getD j 0)) (gs_A G) U U.heap ∧
  va_Z "java/lang/String" "COMPACT_STRINGS" "Z" (.int 1) (gs_A G) U U.heap ∧ va_Zq "jdk/internal/util/Preconditions" "SIOOBE_FORMATTER" "Ljava/util/function/BiFunction;" (gs_A G) U U.heap
theorem gs_StS_k {G : gs_G} {av : Nat} {U U' : State} (hW : U.WarmedH U'.vm) (hk : ∀ q : Nat, q < U.heap.size → ¬ gs_A G q → U'.heap[q]? = U.heap[q]?) (h : gs_StS G av U) : gs_StS G av U' := by
  obtain ⟨h1, h2, h3, h4, h5, h6, h7⟩ := h
  exact ⟨vk_R.warm hW h1, va_O.moved hW.alike (va_O.kept h2 hk), va_OF.moved hW.alike (va_OF.kept h3 hk), va_OF.moved hW.alike (va_OF.kept h4 hk), va_T.moved hW.alike (va_T.kept h5 hk), va_Z.moved hW.alike (va_Z.kept h6 hk), va_Zq.moved hW.alike (va_Zq.kept h7 hk)⟩
/-- exceptions that aren't of one another's class -/
def gs_ncl : List (String × String) := [("java/lang/IndexOutOfBoundsException", "java/lang/IllegalArgumentException"), ("java/util/NoSuchElementException", "java/lang/IllegalArgumentException"), ("java/lang/IllegalArgumentException", "java/lang/IndexOutOfBoundsException"), ("java/util/NoSuchElementException", "java/lang/IndexOutOfBoundsException"), ("java/lang/IllegalArgumentException", "java/util/NoSuchElementException"), ("java/lang/IndexOutOfBoundsException", "java/util/NoSuchElementException")]
/-- the script of the law -/
def gs_StX (G : gs_G) (X : gs_E) (U : State) : Prop := va_X G.2.2.2.2.2 X.2.1 X.2.2 U U.heap ∧ G.2.2.2.2.2 < U.heap.size ∧ ¬ gs_A G G.2.2.2.2.2 ∧ ∀ x ∈ gs_ncl, va_Nc x.1 x.2 U
theorem gs_StX_k {G : gs_G} {X : gs_E} {U U' : State} (hW : U.WarmedH U'.vm) (hz : U.heap.size ≤ U'.heap.size) (hk : ∀ q : Nat, q < U.heap.size → ¬ gs_A G q → U'.heap[q]? = U.heap[q]?) (h : gs_StX G X U) : gs_StX G X U' := by
  obtain ⟨h1, h2, h3, h4⟩ := h
  exact ⟨va_X.moved hW.alike (va_X.kept h1 (hk _ h2 h3)), Nat.lt_of_lt_of_le h2 hz, h3, fun x hx => va_Nc.moved hW.alike (h4 x hx)⟩
def gs_St (G : gs_G) (av : Nat) (X : gs_E) (U : State) : Prop :=
  (∀ w ∈ gs_nbl, va_Nw w U) ∧ va_AO "GuestStars$Cloud" U ∧ va_AO "GuestStars$Guest" U ∧ (∀ x ∈ gs_sxs, ∃ sa : Nat, vk_R (gs_own x.1) x.2.1 x.2.2 sa U) ∧
  vx_Zq Bundle.tN "UNASSIGNED_STACK" Bundle.steD (gs_A G) U U.heap ∧ vx_Zq Bundle.tN "SUPPRESSED_SENTINEL" Bundle.listD (gs_A G) U U.heap ∧
  va_Z RX4 "DIGITS" "[J" (.ref G.2.2.2.1) (gs_A G) U U.heap ∧ va_T .long G.2.2.2.1 12 (fun i => .long (gs_digits.getD i 0)) (gs_A G) U U.heap ∧ gs_StS G av U ∧ gs_StX G X U
theorem gs_St_k (G : gs_G) (av : Nat) (X : gs_E) : gs_Stk G (gs_St G av X) := by
  intro U U' hW hz hk h
  obtain ⟨h1, h2, h3, h4, h5, h6, h7, h8, h9, h10⟩ := h
  refine ⟨fun w hw => gs_nb_warm (List.all_eq_true.mp gs_nbl_ok w hw) hW (h1 w hw), va_AO.moved hW.alike h2, va_AO.moved hW.alike h3, fun x hx => ?_, ?_, ?_, ?_, ?_, gs_StS_k hW hk h9, gs_StX_k hW hz hk h10⟩
  · obtain ⟨sa, hsa⟩ := h4 x hx
    exact ⟨sa, vk_R.warm hW hsa⟩
  · exact vx_Zq.moved hW.alike (vx_Zq.kept h5 hk)
  · exact vx_Zq.moved hW.alike (vx_Zq.kept h6 hk)
  · exact va_Z.moved hW.alike (va_Z.kept h7 hk)
  · exact va_T.moved hW.alike (va_T.kept h8 hk)
theorem gs_St_n (G : gs_G) (av : Nat) (X : gs_E) (U : State) (h : gs_St G av X U) : gs_Nst U := fun x hx => h.1 _ (List.mem_append_left _ (List.mem_map.mpr ⟨x, hx, rfl⟩))
set_option maxRecDepth 1000000 in
theorem gs_xg0 : ∀ w ∈ (Cond.classLink RX5 76 "java/lang/IllegalArgumentException" :: Cond.initialized "java/lang/IllegalArgumentException" :: gs_xa0.filter goodWord), gs_gw w := gs_gw_all _ (by decide +kernel)
set_option maxRecDepth 1000000 in
theorem gs_xg1 : ∀ w ∈ (Cond.classLink RX11 108 "java/lang/IndexOutOfBoundsException" :: Cond.initialized "java/lang/IndexOutOfBoundsException" :: gs_xa1.filter goodWord), gs_gw w := gs_gw_all _ (by decide +kernel)
set_option maxRecDepth 1000000 in
theorem gs_xg2 : ∀ w ∈ (Cond.classLink RX11 115 "java/util/NoSuchElementException" :: Cond.initialized "java/util/NoSuchElementException" :: gs_xa2.filter goodWord), gs_gw w := gs_gw_all _ (by decide +kernel)
section GSX
variable {p : Program} {l : Launch} {e : Env} {R : Room} {s : State} {m₀ : MethodId} {args : Array Value} {below : List Frame} {meth : Method} {c : Code} {G : gs_G} {cc : ByteArray} {nL u0 z0 : Nat} {own : String}
theorem gs_gb_ob {m : gs_M} (a : Nat) : ∀ (ts : List Nat) (j : Nat), gs_ob G (gs_gb m) a j ts = gs_ob G m a j ts
  | [], _ => rfl
  | t :: ts, j => by
    show gs_fv G (gs_gb m) a t j :: gs_ob G (gs_gb m) a (j + 1) ts = gs_fv G m a t j :: gs_ob G m a (j + 1) ts
    rw [gs_gb_ob a ts (j + 1)]
    rfl
theorem gs_gb_rep {m : gs_M} {H H1 : Heap} (hR : gs_Rep G m H) (hk : ∀ q : Nat, q < H.size → H1[q]? = H[q]?) : gs_Rep G (gs_gb m) H1 :=
  by
  have hw : gs_ws G (gs_gb m) = gs_ws G m := by
    unfold gs_ws
    have e : gs_wf G (gs_gb m) = gs_wf G m := by
      funext q
      unfold gs_wf gs_ce
      rw [gs_gb_ob]
      rfl
    rw [e]
    rfl
  refine ⟨?_, hR.2.1, hR.2.2⟩
  rw [hw]
  exact fun k q hq => (hR.1 k q hq).kept (hk _ (hR.1 k q hq).lt)
theorem gs_throw {pc ik is ic ix E : Nat} {rx : ByteArray} (x0 : decode rx 0 = .ok (.aload_n 0, 1)) (x1 : decode rx 1 = .ok (.aload_n 1, 1)) (x2 : decode rx 2 = .ok (.invokespecial ix, 3)) (x5 : decode rx 5 = .ok (.return_, 1)) {cls text : String} {lo : gs_L} {st : List gs_V} {m : gs_M} {xa : List Cond} {sa : Nat} (hl : l.stackTraces = false) (hC : gs_Cx p s m₀ args meth c G cc nL own u0) {av : Nat} {X : gs_E} (hs : gs_St G av X s) (ht : ∀ y ∈ c.exceptionTable.toList, False) (hR0 : R.cells = gs_us (gs_gb m) - u0 ∧ R.slots = (gs_gb m).1.2.2 - z0) (hRd : 13 ≤ R.frames ∧ 780 ≤ R.locals)
    (hE : gs_ex E = cls) (hfit : Bundle.fit cls = true) (hxa : gs_atX own ic cls ix rx gs_xnm = xa) (hxg : ∀ w ∈ (Cond.classLink own ik cls :: Cond.initialized cls :: xa.filter goodWord), gs_gw w) (hxb : ∀ w ∈ xa.filter (fun w => !goodWord w), w ∈ gs_nbl) (hxo : (Cond.classLink own ik cls :: Cond.initialized cls :: xa).all vx_ot = true)
    (hstr : vk_R own is text sa s) (h8 : gs_cs st ≤ 8) (d0 : decode cc pc = .ok (.new ik, 3)) (d3 : decode cc (pc + 3) = .ok (.dup, 1)) (d4 : decode cc (pc + 4) = .ok (.ldc is, 2)) (d6 : decode cc (pc + 6) = .ok (.invokespecial ic, 3)) (d9 : decode cc (pc + 9) = .ok (.athrow, 1)) :
    gs_Tg p l e R s m₀ args below meth c G nL u0 z0 (.inr E, gs_gb m) pc lo st m := by
  obtain ⟨hx, hb, hml, hown, hgw, hK, hlk, hs1, hs2⟩ := id hC
  have eu : gs_us (gs_gb m) = gs_us m + 1 := by show m.1.1 + (m.1.2.1 + 1) = m.1.1 + m.1.2.1 + 1; omega
  have ez : (gs_gb m).1.2.2 = m.1.2.2 + 6 := rfl
  refine ⟨⟨by show gs_us m ≤ gs_us (gs_gb m); omega, by show m.1.2.2 ≤ (gs_gb m).1.2.2; omega⟩, fun hu hz H locs ls hR hS hl2 => ?_⟩
  subst hxa
  refine gs_throwX (own := own) (cls := cls) (text := text) (names := gs_xnm) (sa := sa) hx hb hl x0 x1 x2 x5 hown hfit (by decide) (hgw _ (hxg _ List.mem_cons_self)) (hgw _ (hxg _ (List.mem_cons_of_mem _ List.mem_cons_self))) hstr ?_ (fun w hw => List.all_eq_true.mp hxo w hw) hs.2.2.2.2.1 hs.2.2.2.2.2.1 hS (hl2.1.trans hml.symm) d0 d3 d4 d6 d9 (fun x hx => (ht x hx).elim) ?_ ?_ ?_ ?_ hlk (fun t hvm hsz hkp => ?_) hS.2.2 ?_ ?_
  · refine vx_hat (B := gs_nbl) (fun w hw => hgw _ (hxg _ (List.mem_cons_of_mem _ (List.mem_cons_of_mem _ hw)))) hxb (fun w hw => va_Nw.use (gs_nb_tab (List.all_eq_true.mp gs_nbl_ok w hw)) (hs.1 w hw))
  · show 2 + 3 < R.frames
    omega
  · rw [gs_cs_sum]
    show gs_cs st + (13 * (2 + 1) + 43) ≤ R.locals
    omega
  · rw [hR0.1]; omega
  · rw [hR0.2]; omega
  · refine ⟨E, rfl, hE.symm, gs_gb_rep hR hkp, Nat.le_trans hS.1 hsz, fun q hq hA => ?_⟩
    rw [hkp q (Nat.lt_of_lt_of_le hq hS.1)]
    exact hS.2.1 q hq hA
  · show gs_us m - u0 + 1 ≤ gs_us (gs_gb m) - u0
    omega
  · show m.1.2.2 - z0 + 6 ≤ (gs_gb m).1.2.2 - z0
    omega
end GSX
section GSY
variable {p : Program} {l : Launch} {e : Env} {R : Room} {s : State} {m₀ : MethodId} {args : Array Value} {below : List Frame} {meth : Method} {c : Code} {G : gs_G} {cc : ByteArray} {nL u0 z0 o : Nat} {r : gs_R × gs_M} {go : gs_Go} {pc idx : Nat} {is : List gs_N} {lo : gs_L} {st : List gs_V} {m : gs_M}
theorem gs_hh_stat (hC : gs_Cx p s m₀ args meth c G cc nL RX4 u0) {av : Nat} {X : gs_E} (hs : gs_St G av X s) (hd : decode cc pc = .ok (.getstatic idx, 3)) (hw : gs_gw (.fieldLink RX4 idx RX4 "DIGITS" "[J"))
    (hgo : ∀ (lo' : gs_L) (st' : List gs_V) (m' : gs_M), go (pc + 3) is lo' st' m' = some r → gs_Tg p l e R s m₀ args below meth c G nL u0 z0 r (pc + 3) lo' st' m')
    (h : go (pc + 3) is lo (.inr (.inr 100000) :: st) m = some r) : gs_Tg p l e R s m₀ args below meth c G nL u0 z0 r pc lo st m := by
  obtain ⟨hx, hb, hml, hown, hgw, hK, hlk, hsz⟩ := id hC
  refine gs_mvR (hgo _ _ _ h) (fun H locs cells slots Q ls hR hS hl k => ?_)
  exact va_gets hx hb hs.2.2.2.2.2.2.1 hS hown (hgw _ hw) (fun _ h => h) hd k
theorem gs_hh_dig (hC : gs_Cx p s m₀ args meth c G cc nL (gs_own o) u0) {av : Nat} {X : gs_E} (hs : gs_St G av X s) (hd : decode cc pc = .ok (.laload, 1))
    (hgo : ∀ (lo' : gs_L) (st' : List gs_V) (m' : gs_M), go (pc + 1) is lo' st' m' = some r → gs_Tg p l e R s m₀ args below meth c G nL u0 z0 r (pc + 1) lo' st' m')
    (h : gs_ia st (fun j a st => cond (Nat.beq a 100000 && gs_in j 12) (go (pc + 1) is lo (.inr (.inl (gs_digits.getD j.toNatClampNeg 0)) :: st) m) none) = some r) : gs_Tg p l e R s m₀ args below meth c G nL u0 z0 r pc lo st m := by
  obtain ⟨hx, hb, hml, hown, hgw, hK, hlk, hsz⟩ := id hC
  obtain ⟨j, a, st, rfl, h1⟩ := gs_ia_ok h
  clear h
  obtain ⟨hb1, h⟩ := gs_cd_ok h1
  clear h1
  simp only [Bool.and_eq_true] at hb1
  have ha := Nat.eq_of_beq_eq_true hb1.1
  subst ha
  refine gs_mvR (hgo _ _ _ h) (fun H locs cells slots Q ls hR hS hl k => ?_)
  exact va_tl hx hb hs.2.2.2.2.2.2.2.1 hS (gs_in_iff hb1.2) rfl hd k
theorem gs_hh_sld (hC : gs_Cx p s m₀ args meth c G cc nL (gs_own o) u0) {X : gs_E} (hs : gs_StX G X s) (hd : decode cc pc = .ok (.iaload, 1))
    (hgo : ∀ (lo' : gs_L) (st' : List gs_V) (m' : gs_M), go (pc + 1) is lo' st' m' = some r → gs_Tg p l e R s m₀ args below meth c G nL u0 z0 r (pc + 1) lo' st' m')
    (h : gs_ia st (fun j a st => cond (Nat.beq a 100002 && gs_in j X.2.1) (go (pc + 1) is lo (.inl (X.2.2 j.toNatClampNeg) :: st) m) none) = some r) : gs_Tg p l e R s m₀ args below meth c G nL u0 z0 r pc lo st m := by
  obtain ⟨hx, hb, hml, hown, hgw, hK, hlk, hsz⟩ := id hC
  obtain ⟨j, a, st, rfl, h1⟩ := gs_ia_ok h
  clear h
  obtain ⟨hb1, h⟩ := gs_cd_ok h1
  clear h1
  simp only [Bool.and_eq_true] at hb1
  have ha := Nat.eq_of_beq_eq_true hb1.1
  subst ha
  refine gs_mvR (hgo _ _ _ h) (fun H locs cells slots Q ls hR hS hl k => ?_)
  exact va_sld hx hb hs.1 hs.2.1 hs.2.2.1 hS (gs_in_iff hb1.2) hd k
theorem gs_hh_sln (hC : gs_Cx p s m₀ args meth c G cc nL (gs_own o) u0) {X : gs_E} (hs : gs_StX G X s) (hd : decode cc pc = .ok (.arraylength, 1))
    (hgo : ∀ (lo' : gs_L) (st' : List gs_V) (m' : gs_M), go (pc + 1) is lo' st' m' = some r → gs_Tg p l e R s m₀ args below meth c G nL u0 z0 r (pc + 1) lo' st' m')
    (h : gs_a1 st (fun a st => cond (Nat.beq a 100002) (go (pc + 1) is lo (.inl (Int32.ofNat X.2.1) :: st) m) none) = some r) : gs_Tg p l e R s m₀ args below meth c G nL u0 z0 r pc lo st m := by
  obtain ⟨hx, hb, hml, hown, hgw, hK, hlk, hsz⟩ := id hC
  obtain ⟨a, st, rfl, h1⟩ := gs_a1_ok h
  clear h
  obtain ⟨hb1, h⟩ := gs_cd_ok h1
  clear h1
  have ha := Nat.eq_of_beq_eq_true hb1
  subst ha
  refine gs_mvR (hgo _ _ _ h) (fun H locs cells slots Q ls hR hS hl k => ?_)
  exact va_slen hx hb hs.1 hs.2.1 hs.2.2.1 hS hd k
theorem gs_hh_ldc (hC : gs_Cx p s m₀ args meth c G cc nL RX9 u0) {av : Nat} (hs : gs_StS G av s) (hd : decode cc pc = .ok (.ldc 19, 2))
    (hgo : ∀ (lo' : gs_L) (st' : List gs_V) (m' : gs_M), go (pc + 2) is lo' st' m' = some r → gs_Tg p l e R s m₀ args below meth c G nL u0 z0 r (pc + 2) lo' st' m')
    (h : go (pc + 2) is lo (.inr (.inr 100001) :: st) m = some r) : gs_Tg p l e R s m₀ args below meth c G nL u0 z0 r pc lo st m := by
  obtain ⟨hx, hb, hml, hown, hgw, hK, hlk, hsz⟩ := id hC
  refine gs_mvR (hgo _ _ _ h) (fun H locs cells slots Q ls hR hS hl k => ?_)
  exact va_ldcS hx hb hown hs.1 hd k
end GSY
