/-! Call sites of methods that never throw: constructors, and static methods of a nest mate. -/
theorem gs_toMet {l : Launch} {y : MethodName} {ws : List Cond} {rm : Room} {Pc : Array Value → State → Prop} {G : gs_G} {r : gs_R × gs_M} {mc ms : Nat} {free : Addr → Prop} {v : Option gs_V} (hv : r.1 = .inl v) (hM : vx_Met l y ws rm Pc (gs_Qc G r) (gs_XC G r) mc ms free) : Met l y ws rm Pc (gs_Qc G r) mc ms free := by
  intro p e ha hc hk s m args below hf happ hP hK
  obtain ⟨n, o, h1, h2, h3, hQ⟩ := hM p e ha hc hk s m args below hf happ hP hK
  refine ⟨n, o, h1, h2, h3, ?_⟩
  rcases hQ with hQ | ⟨q, -, E, ce, L, ⟨x, hx, -⟩, -⟩
  · exact hQ
  · rw [hv] at hx
    cases hx
/-- the words of nest mates hold -/
def gs_Nst (U : State) : Prop := ∀ x ∈ gs_mn, va_Nw (gs_mnw x) U
theorem gs_Nst.warm {s U : State} (hW : s.WarmedH U.vm) (h : gs_Nst s) : gs_Nst U := fun x hx => va_Nw.warmM hW (h x hx)
section GSI
variable {p : Program} {l : Launch} {e : Env} {R : Room} {s : State} {m₀ : MethodId} {args : Array Value} {below : List Frame} {meth : Method} {c : Code} {G : gs_G} {cc : ByteArray} {nL u0 : Nat} {St : State → Prop}
theorem gs_runOr {H : Heap} {locs : List Loc} {cells slots mc ms : Nat} {g : JFrame} {rest : List Value} {Qa : State → Outcome → State → Prop} {XC : String → State → State → Prop} {free : Addr → Prop} (h : va_Run p l e R s m₀ args below meth c H locs cells slots mc ms g rest Qa free) : vx_Run p l e R s m₀ args below meth c H locs cells slots mc ms g rest Qa XC free := fun T hT X => Or.inl (h T hT X)
theorem gs_callN {own : String} (hC : gs_Cx p s m₀ args meth c G cc nL own u0) {k idx d cells slots : Nat} (hk : gs_pl k = true) (hl : (Cond.methodLinkNest own idx (gs_y k).1 RX11).before args s = true) (hR : d + 13 ≤ R.frames ∧ 60 * (d + 13) ≤ R.locals) :
    va_CN R s args own idx (gs_y k).1 RX11 (gs_y k).2.1 (gs_y k).2.2.1 (gs_y k).2.2.2.1 (gs_wk k) (gs_Rm d cells slots) cells slots (gs_np k) := by
  obtain ⟨h1, h2, h3, h4⟩ := gs_plainAt (gs_pl_lt hk)
  have hgw := hC.2.2.2.2.1
  refine ⟨⟨rfl, rfl, ?_, ?_, gs_wds hC hk, List.mem_cons_self⟩, hgw _ (gs_kgw hk), hgw _ (gs_ogw hk _ List.mem_cons_self), h1, fun sig hsig => ?_, hl⟩
  · show d + 12 + 1 ≤ R.frames
    omega
  · show 8 + ((gs_y k).2.2.1 + 11) + 60 * (d + 12) ≤ R.locals
    omega
  · rw [hsig] at h4
    exact (Option.some.inj h4).symm
theorem gs_siteSN {own : String} (hC : gs_Cx p s m₀ args meth c G cc nL own u0) (hSt : gs_Stk G St) (hs : St s) {k idx d pc : Nat} {as rest : List gs_V} {m : gs_M} {r' : gs_R × gs_M} {v : Option gs_V} (hv : r'.1 = .inl v) (hk : gs_pl k = true) (hkd : gs_knd k = 0) (hl : (Cond.methodLinkNest own idx (gs_y k).1 RX11).before args s = true) (hR : d + 13 ≤ R.frames ∧ 60 * (d + 13) ≤ R.locals)
    (hd : decode cc pc = .ok (.invokestatic idx, 3)) (hn : as.length = gs_np k) (h8 : gs_cs rest ≤ 8) (hM : gs_Mt l G St d k as m r')
    (H : Heap) (locs : List Loc) (cells slots : Nat) (ls : Array Slot) (hRep : gs_Rep G m H) (hS : va_S (gs_A G) s.heap H locs) (hls : ls.size = nL) (hz1 : G.1 ≤ H.size) (hz2 : H.size ≤ G.1 + gs_us m) (hc1 : cells + (gs_us r'.2 - gs_us m) ≤ R.cells) (hc2 : slots + (r'.2.1.2.2 - m.1.2.2) ≤ R.slots) :
    vx_Run p l e R s m₀ args below meth c H locs cells slots (gs_us r'.2 - gs_us m) (r'.2.1.2.2 - m.1.2.2) (F0 m₀ pc ls ((as.reverse ++ rest).map (gs_cv G))) (rest.map (gs_cv G)) (gs_Qc G r' (as.map (gs_cv G)).toArray) (gs_XC G r') (gs_A G) := by
  obtain ⟨hx, hbc, hml, hown, hgw, hK, hlk, hsz⟩ := id hC
  have hst : (Cond.static (gs_y k).1).before args s = true := by
    have h9 := gs_ogw hk
    unfold gs_ow at h9
    have hkd : (gs_y k).2.2.2.2.2 = 0 := hkd
    rw [hkd] at h9
    exact hgw _ (h9 _ (by simp))
  refine gs_runOr (va_runSN (Ts := []) (index := idx) (n := gs_np k) (As := as.map (gs_cv G)) ⟨hx, hbc, hml, hown, fun w hw => by cases hw⟩ (gs_toMet hv hM.2) ⟨gs_callN (d := d) hC hk hl hR, hst, trivial⟩ ⟨gs_Pc_blind hSt, fun U hU hW => gs_Pc_at hC hSt hs hRep hS hz1 hz2 U hU hW⟩ rfl (by simpa using hn) hls ?_ (lv_room (by rw [gs_cs_sum]; exact h8)) hd ⟨hc1, hc2⟩)
  simp
theorem gs_siteI {own : String} (hC : gs_Cx p s m₀ args meth c G cc nL own u0) (hSt : gs_Stk G St) (hs : St s) {k idx d pc b : Nat} {as rest : List gs_V} {m : gs_M} {r' : gs_R × gs_M} {v : Option gs_V} (hv : r'.1 = .inl v) (hk : gs_pl k = true) (hkd : gs_knd k = 2) (hret : (gs_y k).2.2.2.1 = none) (hnm : (gs_y k).1.name = "<init>") (hl : (Cond.methodLink own idx (gs_y k).1).before args s = true ∨ (Cond.methodLinkNest own idx (gs_y k).1 RX11).before args s = true) (hR : d + 13 ≤ R.frames ∧ 60 * (d + 13) ≤ R.locals)
    (hd : decode cc pc = .ok (.invokespecial idx, 3)) (hn : as.length = gs_np k) (h8 : gs_cs rest ≤ 8) (hM : gs_Mt l G St d k (.inr (.inr b) :: as) m r')
    (H : Heap) (locs : List Loc) (cells slots : Nat) (ls : Array Slot) (hRep : gs_Rep G m H) (hS : va_S (gs_A G) s.heap H locs) (hls : ls.size = nL) (hz1 : G.1 ≤ H.size) (hz2 : H.size ≤ G.1 + gs_us m) (hc1 : cells + (gs_us r'.2 - gs_us m) ≤ R.cells) (hc2 : slots + (r'.2.1.2.2 - m.1.2.2) ≤ R.slots) :
    vx_Run p l e R s m₀ args below meth c H locs cells slots (gs_us r'.2 - gs_us m) (r'.2.1.2.2 - m.1.2.2) (F0 m₀ pc ls (((Sum.inr (Sum.inr b) :: as).reverse ++ rest).map (gs_cv G))) (rest.map (gs_cv G)) (gs_Qc G r' ((Sum.inr (Sum.inr b) :: as).map (gs_cv G)).toArray) (gs_XC G r') (gs_A G) := by
  obtain ⟨hx, hbc, hml, hown, hgw, hK, hlk, hsz⟩ := id hC
  have hin : (Cond.instanceMethod (gs_y k).1).before args s = true := by
    have h9 := gs_ogw hk
    unfold gs_ow at h9
    have hkd : (gs_y k).2.2.2.2.2 = 2 := hkd
    rw [hkd] at h9
    exact hgw _ (h9 _ (by simp))
  rcases hl with hl | hl
  · have hB := gs_callB (d := d) (cells := gs_us r'.2 - gs_us m) (slots := r'.2.1.2.2 - m.1.2.2) hC hk hl hR
    rw [hret] at hB
    refine gs_runOr (va_runI (Ts := []) (index := idx) (n := gs_np k) (b := gs_ad G b) (As := as.map (gs_cv G)) ⟨hx, hbc, hml, hown, fun w hw => by cases hw⟩ (gs_toMet hv hM.2) ⟨hB, hnm, hin⟩ ⟨gs_Pc_blind hSt, fun U hU hW => gs_Pc_at hC hSt hs hRep hS hz1 hz2 U hU hW⟩ rfl (by simpa using hn) hls ?_ (lv_room (by rw [gs_cs_sum]; exact h8)) hd ⟨hc1, hc2⟩)
    simp [gs_cv]
  · have hB := gs_callN (d := d) (cells := gs_us r'.2 - gs_us m) (slots := r'.2.1.2.2 - m.1.2.2) hC hk hl hR
    rw [hret] at hB
    refine gs_runOr (va_runIN (Ts := []) (index := idx) (n := gs_np k) (b := gs_ad G b) (As := as.map (gs_cv G)) ⟨hx, hbc, hml, hown, fun w hw => by cases hw⟩ (gs_toMet hv hM.2) ⟨hB, hnm, hin⟩ ⟨gs_Pc_blind hSt, fun U hU hW => gs_Pc_at hC hSt hs hRep hS hz1 hz2 U hU hW⟩ rfl (by simpa using hn) hls ?_ (lv_room (by rw [gs_cs_sum]; exact h8)) hd ⟨hc1, hc2⟩)
    simp [gs_cv]
end GSI
