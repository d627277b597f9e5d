/-! Call sites. -/
def gs_knd (k : Nat) : Nat := (gs_y k).2.2.2.2.2
def gs_ch (sp : Bool) (o : Nat) (cc : ByteArray) (pc : Nat) (ins : gs_N) : Bool := match ins with
  | (i, nx, a1, a2, a3, a4, cv, sw) => match i with
  | .invokevirtual idx => Nat.beq a4 90 || Nat.beq a4 91 || (gs_dn cc pc nx (.invokevirtual idx) 3 && decide ((o, idx, a1) ∈ gs_ml) && Nat.blt a4 12 && decide ((gs_y a1).1.cls = (gs_cl? a4).1) && (gs_pl a1 || (sp && Nat.beq a1 118)) && Nat.beq (gs_knd a1) 1 && Nat.beq a2 (gs_np a1 + 1))
  | .invokestatic idx => gs_dn cc pc nx (.invokestatic idx) 3 && (decide ((o, idx, a1) ∈ gs_ml) || decide ((o, idx, a1) ∈ gs_mn)) && (gs_pl a1 || (sp && Nat.beq a1 318)) && Nat.beq (gs_knd a1) 0 && Nat.beq a2 (gs_np a1)
  | .invokespecial idx => Nat.beq a4 92 || (gs_dn cc pc nx (.invokespecial idx) 3 && (decide ((o, idx, a1) ∈ gs_ml) || decide ((o, idx, a1) ∈ gs_mn)) && gs_pl a1 && Nat.beq (gs_knd a1) 2 && Nat.beq a2 (gs_np a1 + 1) && decide ((gs_y a1).2.2.2.1 = none) && decide ((gs_y a1).1.name = "<init>"))
  | _ => true
section GSE
variable {p : Program} {l : Launch} {e : Env} {R : Room} {s : State} {m₀ : MethodId} {args : Array Value} {below : List Frame} {meth : Method} {c : Code} {G : gs_G} {cc : ByteArray} {nL u0 : Nat} {St : State → Prop}
theorem gs_wds {own : String} (hC : gs_Cx p s m₀ args meth c G cc nL own u0) {k : Nat} (hk : gs_pl k = true) : ∀ w ∈ gs_wk k, ∀ (a' : Array Value) (U : State), s.WarmedH U.vm → w.before a' U = true := by
  intro w hw a' U hW
  have hg : gs_gw w := by
    rcases List.mem_cons.mp hw with rfl | hw
    · exact gs_kgw hk
    · have := List.mem_filter.mp hw
      exact this
  exact word_at hW (good_of_word hg.2) (hC.2.2.2.2.1 w hg)
theorem gs_callB {own : String} (hC : gs_Cx p s m₀ args meth c G cc nL own u0) {k idx d cells slots : Nat} (hk : gs_pl k = true) (hl : (Cond.methodLink own idx (gs_y k).1).before args s = true) (hR : d + 13 ≤ R.frames ∧ 60 * (d + 13) ≤ R.locals) :
    CallB R s args own idx (gs_y k).1 (gs_y k).2.1 (gs_y k).2.2.1 (gs_y k).2.2.2.1 (gs_wk k) (gs_Rm d cells slots) cells slots (gs_np k) := by
  obtain ⟨h1, h2, h3, h4⟩ := gs_plainAt (gs_pl_lt hk)
  have hgw := hC.2.2.2.2.1
  refine ⟨rfl, rfl, ?_, ?_, gs_wds hC hk, List.mem_cons_self, hgw _ (gs_kgw hk), hgw _ (gs_ogw hk _ List.mem_cons_self), h1, fun sig hsig => ?_, hl⟩
  · show d + 12 + 1 ≤ R.frames
    omega
  · show 8 + ((gs_y k).2.2.1 + 11) + 60 * (d + 12) ≤ R.locals
    omega
  · rw [hsig] at h4
    exact (Option.some.inj h4).symm
theorem gs_siteV {own : String} (hC : gs_Cx p s m₀ args meth c G cc nL own u0) (hSt : gs_Stk G St) (hs : St s) {k idx d pc b a4 : Nat} {as rest : List gs_V} {m : gs_M} {r' : gs_R × gs_M} (hk : gs_pl k = true) (hkd : gs_knd k = 1) (hl : gs_gw (.methodLink own idx (gs_y k).1)) (hR : d + 13 ≤ R.frames ∧ 60 * (d + 13) ≤ R.locals)
    (hd : decode cc pc = .ok (.invokevirtual idx, 3)) (hcl : (gs_y k).1.cls = (gs_cl? a4).1) (ha4 : a4 < 12) (hb : gs_kind b = a4 ∧ gs_rk b < m.1.1) (hn : as.length = gs_np k) (h8 : gs_cs rest ≤ 8) (hM : gs_Mt l G St d k (.inr (.inr b) :: as) m r')
    (H : Heap) (locs : List Loc) (cells slots : Nat) (ls : Array Slot) (hRep : gs_Rep G m H) (hS : va_S (gs_A G) s.heap H locs) (hls : ls.size = nL) (hz1 : G.1 ≤ H.size) (hz2 : H.size ≤ G.1 + gs_us m) (hc1 : cells + (gs_us r'.2 - gs_us m) ≤ R.cells) (hc2 : slots + (r'.2.1.2.2 - m.1.2.2) ≤ R.slots) :
    vx_Run p l e R s m₀ args below meth c H locs cells slots (gs_us r'.2 - gs_us m) (r'.2.1.2.2 - m.1.2.2) (F0 m₀ pc ls (((Sum.inr (Sum.inr b) :: as).reverse ++ rest).map (gs_cv G))) (rest.map (gs_cv G)) (gs_Qc G r' ((Sum.inr (Sum.inr b) :: as).map (gs_cv G)).toArray) (gs_XC G r') (gs_A G) := by
  obtain ⟨hx, hbc, hml, hown, hgw, hK, hlk, hsz⟩ := id hC
  obtain ⟨q, hq⟩ := gs_clLt ha4
  have eq0 : gs_cl? a4 = q := by
    unfold gs_cl?
    simp only [List.getD_eq_getElem?_getD, hq, Option.getD_some]
  obtain ⟨k0, hk0⟩ := gs_at G m hb.2
  rw [gs_ce_obj hb.1 ha4] at hk0
  have hrec := va_recv hK hRep.1 hq hk0
  have hsel : (Cond.instanceMethod (gs_y k).1).before args s = true ∧ (Cond.selects (gs_y k).1.cls (gs_y k).1 (gs_y k).1).before args s = true := by
    have h9 := gs_ogw hk
    unfold gs_ow at h9
    have hkd : (gs_y k).2.2.2.2.2 = 1 := hkd
    rw [hkd] at h9
    exact ⟨hgw _ (h9 _ (by simp)), hgw _ (h9 _ (by simp))⟩
  refine vx_runV (Ts := []) (C := (gs_y k).1.cls) (index := idx) (n := gs_np k) (b := gs_ad G b) (As := as.map (gs_cv G)) ⟨hx, hbc, hml, hown, fun w hw => by cases hw⟩ hM.2 ⟨gs_callB (d := d) hC hk (hgw _ hl) hR, hsel⟩ ⟨gs_Pc_blind hSt, ?_, fun U hU hW => gs_Pc_at hC hSt hs hRep hS hz1 hz2 U hU hW⟩ rfl (by simpa using hn) hls ?_ (lv_room (by rw [gs_cs_sum]; exact h8)) hd ⟨hc1, hc2⟩
  · rw [gs_ad_lt (Nat.lt_of_lt_of_le hb.2 hRep.2.1), hcl, eq0]
    exact hrec
  · simp [gs_cv]
theorem gs_siteS {own : String} (hC : gs_Cx p s m₀ args meth c G cc nL own u0) (hSt : gs_Stk G St) (hs : St s) {k idx d pc : Nat} {as rest : List gs_V} {m : gs_M} {r' : gs_R × gs_M} (hk : gs_pl k = true) (hkd : gs_knd k = 0) (hl : gs_gw (.methodLink own idx (gs_y k).1)) (hR : d + 13 ≤ R.frames ∧ 60 * (d + 13) ≤ R.locals)
    (hd : decode cc pc = .ok (.invokestatic idx, 3)) (hn : as.length = gs_np k) (h8 : gs_cs rest ≤ 8) (hM : gs_Mt l G St d k as m r')
    (H : Heap) (locs : List Loc) (cells slots : Nat) (ls : Array Slot) (hRep : gs_Rep G m H) (hS : va_S (gs_A G) s.heap H locs) (hls : ls.size = nL) (hz1 : G.1 ≤ H.size) (hz2 : H.size ≤ G.1 + gs_us m) (hc1 : cells + (gs_us r'.2 - gs_us m) ≤ R.cells) (hc2 : slots + (r'.2.1.2.2 - m.1.2.2) ≤ R.slots) :
    vx_Run p l e R s m₀ args below meth c H locs cells slots (gs_us r'.2 - gs_us m) (r'.2.1.2.2 - m.1.2.2) (F0 m₀ pc ls ((as.reverse ++ rest).map (gs_cv G))) (rest.map (gs_cv G)) (gs_Qc G r' (as.map (gs_cv G)).toArray) (gs_XC G r') (gs_A G) := by
  obtain ⟨hx, hbc, hml, hown, hgw, hK, hlk, hsz⟩ := id hC
  have hst : (Cond.static (gs_y k).1).before args s = true := by
    have h9 := gs_ogw hk
    unfold gs_ow at h9
    have hkd : (gs_y k).2.2.2.2.2 = 0 := hkd
    rw [hkd] at h9
    exact hgw _ (h9 _ (by simp))
  refine vx_runS (Ts := []) (index := idx) (n := gs_np k) (As := as.map (gs_cv G)) ⟨hx, hbc, hml, hown, fun w hw => by cases hw⟩ hM.2 ⟨gs_callB (d := d) hC hk (hgw _ hl) hR, hst⟩ ⟨gs_Pc_blind hSt, fun U hU hW => gs_Pc_at hC hSt hs hRep hS hz1 hz2 U hU hW⟩ rfl (by simpa using hn) hls ?_ (lv_room (by rw [gs_cs_sum]; exact h8)) hd ⟨hc1, hc2⟩
  simp
end GSE
