def R_law : String := "GuestStarsLaw"
def lw_P (b : Addr) (xs : List Int32) (args : Array Value) (s : State) : Prop := args = #[.ref b] ∧ s.IntsAt b xs ∧ xs.length ≤ 3072 ∧ (Jvm.Cond.and given_1 narrow_1).before args s = true
def lw_Q (_ : Array Value) (s : State) (o : Outcome) (t : State) : Prop := o = .returned (some (.int 1)) ∧ Framed s o t [] 601024 7293034
def lw_Z (below : List Frame) (a : Array Value) (s : State) : State → Prop := fun t => ∃ o, t.status = .running ∧ Ended t below o ∧ lw_Q a s o t
/-- what holds at the law's entry: the machine, the code, the tables' words (any of lw_tbl by 'hts w (by decide +kernel)'), the script of L ints xs at the cell b, what the Statement gives of the start (any of its parts by flat_of_before) -/
def lw_At (p : Program) (s : State) (m : MethodId) (meth : Method) (c : Code) (b L : Nat) (xs : Nat → Int32) : Prop :=
  p.tables.exec = Jvm.exec ∧ c.code = code ∧ meth.sig.returnType = ret ∧ c.maxLocals = 7 ∧ s.vm.findClass R_law = some m.cls ∧ (∀ w ∈ lw_tbl, w.before #[Value.ref b] s = true) ∧ va_X b L xs s s.heap ∧ b < s.heap.size ∧ meth.locks = false ∧ (Jvm.Cond.and given_1 narrow_1).before #[Value.ref b] s = true
/-- no cell yet -/
def gs_m0 : gs_M := ((0, 0, 0), fun _ _ => 0, fun _ _ => 0, fun _ _ => none)
/-- what is left to show of the two classes, of the pure machine alone: on every script the law's run ends with 1, within the room -/
def gs_Pure : Prop := ∀ (L : Nat) (xs : Nat → Int32), L ≤ 3072 → ∃ (F d : Nat) (r : gs_R × gs_M), d ≤ 1300 ∧ gs_exec (F, L, xs) (d + 1) 319 [.inr (.inr 100002)] gs_m0 = some r ∧ r.1 = .inl (some (.inl 1)) ∧ gs_us r.2 ≤ 601024 ∧ r.2.1.2.2 ≤ 7293034
theorem gs_roomLe {s : State} {pl : Platform} {R R' : Room} (h : s.hasRoom pl R = true) (h1 : R'.frames ≤ R.frames) (h2 : R'.cells ≤ R.cells) (h3 : R'.slots ≤ R.slots) (h4 : R'.locals ≤ R.locals) : s.hasRoom pl R' = true := by
  simp only [State.hasRoom, Bool.and_eq_true, decide_eq_true_eq] at h ⊢
  obtain ⟨⟨⟨⟨a0, a1, a2, a3, a4, a5⟩, a6⟩, a7⟩, a8⟩ := h
  exact ⟨⟨⟨⟨by omega, by omega, by omega, by omega, by omega, a5⟩, by omega⟩, by omega⟩, a8⟩
theorem gs_rep0 (G : gs_G) (H : Heap) : gs_Rep G gs_m0 H := by
  refine ⟨fun k q hq => ?_, Nat.zero_le _, fun a j b h => by cases h⟩
  have e : gs_ws G gs_m0 = [] := rfl
  rw [e] at hq
  cases hq
theorem whole_start {p : Program} {e : Env} {s : State} {m : MethodId} {below : List Frame} {meth : Method} {c : Code} (l : Launch) (hl : l.stackTraces = false) (hP : gs_Pure) {b L : Nat} {xs : Nat → Int32} (hL : L ≤ 3072) (C0 : lw_At p s m meth c b L xs) : W p l e room_1 s m #[Value.ref b] below meth c s.heap [] 0 0 (lw_Z below #[Value.ref b] s) (entryFrame m ([Value.ref b] : List Value).toArray 7) := by
  obtain ⟨F, d, r, hd, h, hr, hu, hz⟩ := hP L xs hL
  obtain ⟨hx, hbc, hret, hml, hown, hts, hX, hbl, hlk, hgv⟩ := C0
  obtain ⟨G, av, hG1, hGb, hK, hs⟩ := gs_start F hts hgv hX hbl
  subst hGb
  have hC : gs_Cx p s m #[Value.ref G.2.2.2.2.2] meth c G code 7 (gs_own 13) 0 := ⟨hx, hbc, hml, hown, fun w hw => hts w hw.1, hK, hlk, by rw [hG1]; exact Nat.le_refl _, by rw [hG1]; exact Nat.le_refl _⟩
  have hm := gs_mch2_319
  unfold gs_mch2 at hm
  simp only [Bool.and_eq_true, decide_eq_true_eq] at hm
  obtain ⟨⟨⟨hmx, hcls⟩, hrt⟩, hB⟩ := hm
  have hB : ∀ b ∈ (gs_tab 319).2.1, gs_cis true 13 7 code (gs_rb 319) (gs_ini 319) b.1 b.2 = true := fun b hb => List.all_eq_true.mp hB b hb
  have hR0 : ({ frames := d + 13, cells := gs_us r.2, slots := r.2.1.2.2, locals := 60 * (d + 13) } : Room).cells = gs_us r.2 - 0 ∧ ({ frames := d + 13, cells := gs_us r.2, slots := r.2.1.2.2, locals := 60 * (d + 13) } : Room).slots = r.2.1.2.2 - 0 := ⟨rfl, rfl⟩
  have hT := gs_ent2_ok (p := p) (l := l) (e := e) (below := below) (R := { frames := d + 13, cells := gs_us r.2, slots := r.2.1.2.2, locals := 60 * (d + 13) }) (z0 := 0) (C := gs_exec (F, L, xs) d) (T := gs_tab 319) (X := (F, L, xs)) (o := 13) (rb := gs_rb 319) (ini := gs_ini 319) (r := r) hC (fun hi => absurd hi (by decide)) (by rw [hret]; exact hrt)
    (fun go pc ins is lo st m' hh h2 hch hgo his hst => gs_inv2_ok (hs0 := (gs_tab 319).1) (d := d) hC (gs_St_k G av (F, L, xs)) hs (gs_St_n G av (F, L, xs) s hs) hR0 ⟨Nat.le_refl _, Nat.le_refl _⟩ (fun x m' hx => by
        have hx : gs_th x m' = some r := hx
        cases hx
        cases hr) (fun k as m' r' hk hc => gs_soundSt hl d k as m' r' hk hc) (fun k as m' r' hk hc => gs_sound2 hl d k as m' r' hk hc) ins hh h2 hch (fun lo' st' m' hg => hgo _ _ _ _ _ his hg) hst)
    (gs_ha hl hC hs (fun pc idx E hx => absurd hx (gs_xc_no (Or.inl (by decide)))) hR0 ⟨by show 13 ≤ d + 13; omega, by show 780 ≤ 60 * (d + 13); omega⟩) hB h
  rw [lg_entry_eq]
  have hlv := lv_entry ([Value.ref G.2.2.2.2.2] : List Value) (n := 7) (Nat.le_of_ble_eq_true rfl)
  have hW := hT.2 (Nat.zero_le _) (Nat.zero_le _) s.heap [] _ (gs_rep0 G _) va_S.rf hlv
  intro T hTh X
  obtain ⟨t, a1, o, b1, b2, b3⟩ := hW T hTh { X with room := gs_roomLe X.room (by show d + 13 ≤ 2048; omega) hu hz (by show 60 * (d + 13) ≤ 84000; omega) }
  refine ⟨t, a1, o, b1, b2, ?_⟩
  rcases b3 with ⟨⟨v, hv, ho, -, -⟩, Lc, hF, hfree⟩ | ⟨q, -, E, ce, Lc, ⟨x, hx1, -⟩, -⟩
  · rw [hr] at hv
    cases hv
    obtain ⟨h1, h2⟩ := hF
    refine ⟨ho, ⟨_, ho⟩, ?_⟩
    refine ⟨h2.1, h2.2.weaken (fun y hy hlt => ?_) hu hz⟩
    have h9 : G.1 ≤ y.base := hfree y hy
    rw [hG1] at h9
    exact absurd hlt (Nat.not_lt.mpr h9)
  · rw [hr] at hx1
    cases hx1
set_option maxHeartbeats 4000000 in
theorem lw_walk (hPu : gs_Pure) (l : Launch) (hl : l.stackTraces = false) (b : Addr) (xs : List Int32) : MetFree l x (headSpec (Jvm.Cond.code x code maxLocals ret :: tables_1) room_1) (lw_P b xs) (fun _ _ _ _ _ => True) lw_Q := by
  refine MetFree.of_bodyS (code := code) (maxLocals := maxLocals) (ret := ret) (by decide) ?_ ?_
  · intro args s m h hn
    obtain ⟨meth, c, h1, h2, h3, h4, h5, h6, -, -⟩ := Cond.code_spec hn (atoms_spec (ws := Jvm.Cond.code x code maxLocals ret :: tables_1) h _ List.mem_cons_self)
    exact ⟨meth, c, h1, h2, h3, h4, h5, h6⟩
  · intro p e s m args below meth c s₁ B hml0 hP _
    obtain ⟨rfl, hx, hbd, hgv⟩ := hP
    obtain ⟨scr, harrAt, hlist, hof, hsmall⟩ := hx
    obtain ⟨hcb, hkn, -, -⟩ := State.arrayAt?_spec harrAt
    have hown : s.vm.findClass R_law = some m.cls := findClass_of_methodNamed B.named
    have hts0 : ∀ c ∈ (Jvm.Cond.code x code maxLocals ret :: tables_1), c.before #[Value.ref b] s = true := atoms_spec (ws := Jvm.Cond.code x code maxLocals ret :: tables_1) B.pre
    have hts : ∀ w ∈ lw_tbl, w.before #[Value.ref b] s = true := k2_hts_sels lw_privs (fun w hw => hts0 w (List.mem_cons_of_mem _ hw)) lw_privs_ok
    have hml : c.maxLocals = 7 := B.maxLocals_eq (hts0 _ List.mem_cons_self)
    have X₀ : Stand p l e room_1 s m #[Value.ref b] below meth c s₁ [] 0 0 := Stand.of_body B
    have hh0 : s₁.heap = s.heap := by rw [B.state]; rfl
    have hsz : scr.slots.size = xs.length := by rw [← Array.length_toList, hlist, List.length_map]
    have hval : ∀ j : Nat, j < xs.length → scr.slots[j]? = some (.int (xs.getD j 0)) := fun j hj => by
      rw [← Array.getElem?_toList, hlist]
      simp [hj]
    have hbl : b < s.heap.size := (Array.getElem?_eq_some_iff.mp hcb).1
    have hX : va_X b xs.length (fun j => xs.getD j 0) s s.heap := ⟨scr, hcb, hof, hkn, hsz, hval⟩
    have K : W p l e room_1 s m #[Value.ref b] below meth c s₁.heap [] 0 0 (lw_Z below #[Value.ref b] s) (entryFrame m ([Value.ref b] : List Value).toArray 7) := by
      rw [hh0]
      exact whole_start l hl hPu hbd ⟨B.exec, B.bytes, B.returns, hml, hown, hts, hX, hbl, B.notSynchronized, hgv⟩
    obtain ⟨t, a1, o, b1, b2, b3⟩ := K s₁ rfl X₀
    exact ⟨t, o, a1, b1, b2, b3⟩
theorem lw_pre_spec {args : Array Value} {s : State} (h : (Jvm.Cond.and given_1 narrow_1).before args s = true) (hr : rest_1_c.before args s = true) : ∃ (b : Addr) (xs : List Int32), lw_P b xs args s := by
  have hs := flat_of_before _ h
  have hq := flat_of_before _ hr
  have hc : (Cond.count 1).before args s = true := hs _ (by decide +kernel)
  have harr : (Cond.arrayOf (.arg 0) .int).before args s = true := hs _ (by decide +kernel)
  have hle : (Cond.le (.length (.arg 0)) (.int 3072)).before args s = true := hs _ (by decide +kernel)
  have hlen : (Cond.isInt (.length (.arg 0))).before args s = true := hq _ (by decide +kernel)
  have hall : (Cond.all (.arg 0) (.isInt (.elem (.arg 0) (.index 0)))).before args s = true := hq _ (by decide +kernel)
  obtain ⟨b, xs, hb, hx⟩ := State.ints_of_pre rfl harr hlen hall
  have hsm : xs.length < 2 ^ 31 := hx.choose_spec.2.2.2
  have hev : (Term.length (.arg 0)).eval args s none [] s = some (.int xs.length.toInt32) := hx.length_eval hb
  have hv := Cond.le_ints hev (show (Term.int 3072).eval args s none [] s = some (.int 3072) from rfl)
  have hd : xs.length.toInt32 ≤ 3072 := by
    simpa [Cond.before, Cond.holds, hv] using hle
  have hN : xs.length ≤ 3072 := (Int32.ofNat_le_ofNat hsm (by decide)).mp (show Int32.ofNat xs.length ≤ Int32.ofNat 3072 from hd)
  exact ⟨b, xs, Cond.one_arg hc (show args[0]? = some (.ref b) from hb), hx, hN, h⟩
theorem lw_comes (hPu : gs_Pure) (l : Launch) (hl : l.stackTraces = false) : Comes l x (Jvm.Cond.code x code maxLocals ret :: tables_1) room_1 (fun tb e args s => Calls_1 tb e args s ∧ rest_1 tb e args s ∧ Pre_1 tb e args s)
    (fun _ _ args s o t => lw_Q args s o t) := by
  intro p e ha hc hk s m args below hf hfit hheap happ hpre
  obtain ⟨b, xs, hP⟩ := lw_pre_spec hpre.2.2 hpre.2.1
  obtain ⟨k, o, h1, h2, h3, hQ⟩ := lw_walk hPu l hl b xs p e ha hc hk s m args below hf ((Spec.applies_iff_loose hf).mp happ).1 hP trivial
  exact ⟨k, o, h1, h2, h3, hQ⟩
theorem lw_frame {s t : State} {o : Outcome} {args : Array Value} (h : Framed s o t [] 601024 7293034) :
    Framed s o t (fieldLocs frame_1_writes args s ++ arrayLocs frame_1_arrays args s ++ staticLocs frame_1_statics s) 601024 7293034 := h
theorem lw_limb (hP : gs_Pure) (L : Cond) (hL : ∀ (args : Array Value) (s t : State), L.after args s (.returned (some (.int 1))) t = true) :
    ArmFor flags0 classFile x code maxLocals ret World_1 tables_1 room_1 Calls_1 rest_1 Pre_1
      (fun tb e a s o t => postC L tb e a s o t ∧ Framed s o t (fieldLocs frame_1_writes a s ++ arrayLocs frame_1_arrays a s ++ staticLocs frame_1_statics s) 601024 7293034) := by
  intro l hfl _ _ p e ha hc hk s m args below hf hfit hheap happ hpre
  obtain ⟨k, o, h1, h2, h3, rfl, hF⟩ := lw_comes hP l (gs_traces hfl) p e ha hc hk s m args below hf hfit hheap happ hpre
  exact ⟨k, _, h1, h2, h3, hL args s _, lw_frame hF⟩
theorem gs_whole (hP : gs_Pure) : Claimed_1_1 ∧ Claimed_1_2 := ⟨lw_limb hP limb_1_1 (fun args s t => by simp [limb_1_1, Cond.after, Cond.holds, Cond.value]), lw_limb hP limb_1_2 (fun args s t => Cond.after_iff.mpr (by
  first | (rw [show limb_1_2 = Cond.eq .result (.int 1) from rfl, Cond.eq_ints (x := 1) (y := 1) rfl rfl]; simp; done) | (simp [limb_1_2, Cond.value, Term.eval]; done)))⟩
