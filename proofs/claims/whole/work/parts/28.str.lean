/-! The JDK's text: its length, its signs. -/
def gs_Rj (d : Nat) : Room := { frames := d, cells := 0, slots := 0, locals := 60 * d }
def gs_Pv (G : gs_G) (St : State → Prop) (vs : List Value) (m : gs_M) : Array Value → State → Prop := va_Pc vs (fun U => gs_Rep G m U.heap ∧ gs_K G U ∧ St U ∧ G.1 ≤ U.heap.size ∧ U.heap.size ≤ G.1 + gs_us m)
def gs_jw (y : MethodName) (cc : ByteArray) (maxL : Nat) (ret : Option FieldType) : List Cond := Cond.code y cc maxL ret :: lw_tbl.filter goodWord
def gs_JM (l : Launch) (G : gs_G) (St : State → Prop) (d : Nat) (y : MethodName) (cc : ByteArray) (maxL : Nat) (ret : Option FieldType) (vs : List Value) (m : gs_M) (v : Option gs_V) : Prop :=
  vx_Met l y (gs_jw y cc maxL ret) (gs_Rj d) (gs_Pv G St vs m) (gs_Qc G (.inl v, m)) (gs_XC G (.inl v, m)) 0 0 (gs_A G)
/-- at a body's entry -/
def gs_JB (l : Launch) (G : gs_G) (St : State → Prop) (d : Nat) (own : String) (cc : ByteArray) (maxL : Nat) (ret : Option FieldType) (vs : List Value) (m : gs_M) (v : Option gs_V) : Prop :=
  ∀ (p : Program) (e : Env) (s : State) (m₀ : MethodId) (below : List Frame) (meth : Method) (c : Code) (ls : Array Slot), gs_Cx p s m₀ vs.toArray meth c G cc maxL own (gs_us m) → St s → gs_Rep G m s.heap → meth.sig.returnType = ret → lv_has ls maxL (lv_args 0 vs) →
    W p l e (gs_Rj d) s m₀ vs.toArray below meth c s.heap [] 0 0 (vx_MQ below (gs_Qc G (.inl v, m)) (gs_XC G (.inl v, m)) vs.toArray s 0 0 (gs_A G)) (F0 m₀ 0 ls [])
theorem gs_jbody {l : Launch} {G : gs_G} {St : State → Prop} {d : Nat} {y : MethodName} {cc : ByteArray} {maxL : Nat} {ret : Option FieldType} {vs : List Value} {m : gs_M} {v : Option gs_V} (hy : plainFor y = true) (hn : (lg_sl vs).length ≤ maxL) (h : gs_JB l G St d y.cls cc maxL ret vs m v) : gs_JM l G St d y cc maxL ret vs m v := by
  refine gs_ofW (cc := cc) (maxL := maxL) (ret := ret) hy rfl ?_
  intro p e s m₀ args below meth c s₁ B hml ht hP
  obtain ⟨rfl, hRep, hK, hs, hz1, hz2⟩ := hP
  have hts := atoms_spec (ws := gs_jw y cc maxL ret) B.pre
  have hC : gs_Cx p s m₀ vs.toArray meth c G cc maxL y.cls (gs_us m) :=
    ⟨B.exec, B.bytes, hml, findClass_of_methodNamed B.named, fun w hw => hts w (List.mem_cons_of_mem _ (List.mem_filter.mpr hw)), hK, B.notSynchronized, hz1, hz2⟩
  rw [lg_entry_eq]
  exact h p e s m₀ below meth c _ hC hs hRep B.returns (lv_entry vs hn)
theorem gs_Pv_blind {G : gs_G} {St : State → Prop} {vs : List Value} {m : gs_M} (hSt : gs_Stk G St) : FrameBlind (gs_Pv G St vs m) := by
  intro a U g mk h
  obtain ⟨h1, h2, h3, h4, h5, h6⟩ := h
  exact ⟨h1, h2, va_K.moved (u := U) (U := U.calling g mk a) (Vm.Alike.refl U.vm) h3, hSt U _ (State.WarmedH.refl U) (Nat.le_refl _) (fun _ _ _ => rfl) h4, h5, h6⟩
section GJA
variable {p : Program} {l : Launch} {e : Env} {R : Room} {s : State} {m₀ : MethodId} {args : Array Value} {below : List Frame} {meth : Method} {c : Code} {G : gs_G} {cc : ByteArray} {nL u0 : Nat} {St : State → Prop} {own : String}
theorem gs_Pv_at {vs : List Value} {m : gs_M} {H : Heap} {locs : List Loc} (hC : gs_Cx p s m₀ args meth c G cc nL own u0) (hSt : gs_Stk G St) (hs : St s) (hR : gs_Rep G m H) (hS : va_S (gs_A G) s.heap H locs) (h2 : H.size ≤ G.1 + gs_us m) :
    ∀ U : State, U.heap = H → s.WarmedH U.vm → gs_Pv G St vs m vs.toArray U := by
  intro U hU hW
  refine ⟨rfl, by rw [hU]; exact hR, va_K.moved hW.alike hC.2.2.2.2.2.1, hSt s U hW (by rw [hU]; exact hS.1) (fun q hq hA => by rw [hU]; exact hS.2.1 q hq hA) hs, ?_, by rw [hU]; exact h2⟩
  rw [hU]
  exact Nat.le_trans hC.2.2.2.2.2.2.2.1 hS.1
theorem gs_jB (hC : gs_Cx p s m₀ args meth c G cc nL own u0) {y : MethodName} {bc : ByteArray} {maxL : Nat} {ret : Option FieldType} {idx d n : Nat} (hw : ∀ w ∈ [Cond.code y bc maxL ret, Cond.initialized y.cls, Cond.methodLink own idx y], gs_gw w) (hy : y.cls ≠ "java/lang/invoke/MethodHandle" ∧ y.cls ≠ "java/lang/invoke/VarHandle") (hn : (parseMethodDescriptor y.desc).map (fun d => d.parameters.length) = some n) (hm : maxL ≤ 40) (hR : d + 1 ≤ R.frames ∧ 60 * (d + 1) ≤ R.locals) :
    CallB R s args own idx y bc maxL ret (gs_jw y bc maxL ret) (gs_Rj d) 0 0 n := by
  have hgw := hC.2.2.2.2.1
  refine ⟨rfl, rfl, ?_, ?_, fun w hw2 a' U hW => ?_, List.mem_cons_self, hgw _ (hw _ (by simp)), hgw _ (hw _ (by simp)), hy, fun sig hsig => ?_, hgw _ (hw _ (by simp))⟩
  · show d + 1 ≤ R.frames
    omega
  · show 8 + (maxL + 11) + 60 * d ≤ R.locals
    omega
  · have hg : gs_gw w := by
      rcases List.mem_cons.mp hw2 with rfl | hw2
      · exact hw _ (by simp)
      · exact List.mem_filter.mp hw2
    exact word_at hW (good_of_word hg.2) (hgw w hg)
  · rw [hsig] at hn
    exact (Option.some.inj hn).symm
/-- after such a call -/
theorem gs_jthen {H : Heap} {locs : List Loc} {cells slots pc : Nat} {ls : Array Slot} {st rest : List Value} {m : gs_M} {v : Option gs_V} {av : Array Value} {Q : State → Prop} (hS : va_S (gs_A G) s.heap H locs)
    (hz : ∀ T : State, T.heap = H → Stand p l e R s m₀ args below meth c T locs cells slots → H.size ≤ G.1 + gs_us m)
    (hrun : H.size ≤ G.1 + gs_us m → vx_Run p l e R s m₀ args below meth c H locs cells slots 0 0 (F0 m₀ pc ls st) rest (gs_Qc G (.inl v, m) av) (gs_XC G (.inl v, m)) (gs_A G))
    (k : ∀ (H' : Heap) (locs' : List Loc), gs_Rep G m H' → va_S (gs_A G) s.heap H' locs' → W p l e R s m₀ args below meth c H' locs' cells slots Q (F0 m₀ (pc + 3) ls ((v.map (gs_cv G)).toList ++ rest))) :
    W p l e R s m₀ args below meth c H locs cells slots Q (F0 m₀ pc ls st) := by
  intro T hTh X
  rcases hrun (hz T hTh X) T hTh X with ⟨v', st₀, t, T', L, h0, X', hL, e1, e2, hq, st⟩ | ⟨q, st₀, t, T', L, E, ce, h0, X', hL, e1, e2, hq, -⟩
  · obtain ⟨v2, hv2, hv3, hR2, hF⟩ := hq
    cases hv2
    cases hv3
    obtain ⟨k1, k2, k3⟩ := vx_keep h0 e1 hS (fun q _ h => h) (fun q h => h) hL hF
    obtain ⟨t2, a1, b1⟩ := k T'.heap (locs ++ L) (by rw [e1]; exact hR2) k3 T' rfl X'
    exact ⟨t2, st t2 a1, b1⟩
  · obtain ⟨x, hx1, -⟩ := hq
    cases hx1
theorem gs_jS (hC : gs_Cx p s m₀ args meth c G cc nL own u0) (hSt : gs_Stk G St) (hs : St s) {y : MethodName} {bc : ByteArray} {maxL : Nat} {ret : Option FieldType} {idx d n : Nat} (hw : ∀ w ∈ [Cond.code y bc maxL ret, Cond.initialized y.cls, Cond.methodLink own idx y, Cond.static y], gs_gw w) (hy : y.cls ≠ "java/lang/invoke/MethodHandle" ∧ y.cls ≠ "java/lang/invoke/VarHandle") (hn : (parseMethodDescriptor y.desc).map (fun d => d.parameters.length) = some n) (hm : maxL ≤ 40) (hR : d + 1 ≤ R.frames ∧ 60 * (d + 1) ≤ R.locals)
    {vs rest : List Value} {m : gs_M} {v : Option gs_V} (hM : gs_JM l G St d y bc maxL ret vs m v) {H : Heap} {locs : List Loc} {cells slots pc : Nat} {ls : Array Slot} {Q : State → Prop} (hRep : gs_Rep G m H) (hS : va_S (gs_A G) s.heap H locs) (hls : ls.size = nL) (hvn : vs.length = n) (h8 : (rest.map fun v => v.category).sum ≤ 8) (hd : decode cc pc = .ok (.invokestatic idx, 3)) (hcs : cells ≤ R.cells ∧ slots ≤ R.slots)
    (hz : ∀ T : State, T.heap = H → Stand p l e R s m₀ args below meth c T locs cells slots → H.size ≤ G.1 + gs_us m)
    (k : ∀ (H' : Heap) (locs' : List Loc), gs_Rep G m H' → va_S (gs_A G) s.heap H' locs' → W p l e R s m₀ args below meth c H' locs' cells slots Q (F0 m₀ (pc + 3) ls ((v.map (gs_cv G)).toList ++ rest))) :
    W p l e R s m₀ args below meth c H locs cells slots Q (F0 m₀ pc ls (vs.reverse ++ rest)) := by
  obtain ⟨hx, hbc, hml, hown, hgw, hK, hlk, hsz⟩ := id hC
  refine gs_jthen (av := vs.toArray) hS hz (fun h2 => ?_) k
  refine vx_runS (Ts := []) (index := idx) (n := n) (As := vs) ⟨hx, hbc, hml, hown, fun w hw => by cases hw⟩ hM ⟨gs_jB (d := d) hC (fun w hw2 => hw w ?_) hy hn hm hR, hgw _ (hw _ (by simp))⟩ ⟨gs_Pv_blind hSt, fun U hU hW => gs_Pv_at hC hSt hs hRep hS h2 U hU hW⟩ rfl hvn hls rfl (lv_room h8) hd hcs
  simp only [List.mem_cons, List.not_mem_nil, or_false] at hw2 ⊢
  rcases hw2 with h | h | h
  · exact Or.inl h
  · exact Or.inr (Or.inl h)
  · exact Or.inr (Or.inr (Or.inl h))
theorem gs_jV (hC : gs_Cx p s m₀ args meth c G cc nL own u0) (hSt : gs_Stk G St) (hs : St s) {y : MethodName} {bc : ByteArray} {maxL : Nat} {ret : Option FieldType} {idx d n : Nat} (hw : ∀ w ∈ [Cond.code y bc maxL ret, Cond.initialized y.cls, Cond.methodLink own idx y, Cond.instanceMethod y, Cond.selects y.cls y y], gs_gw w) (hy : y.cls ≠ "java/lang/invoke/MethodHandle" ∧ y.cls ≠ "java/lang/invoke/VarHandle") (hn : (parseMethodDescriptor y.desc).map (fun d => d.parameters.length) = some n) (hm : maxL ≤ 40) (hR : d + 1 ≤ R.frames ∧ 60 * (d + 1) ≤ R.locals)
    {vs rest : List Value} {b : Nat} {m : gs_M} {v : Option gs_V} (hM : gs_JM l G St d y bc maxL ret (.ref b :: vs) m v) {H : Heap} {locs : List Loc} {cells slots pc : Nat} {ls : Array Slot} {Q : State → Prop} (hrec : ∃ cell : Cell, H[b]? = some cell ∧ cell.vm.isStatics = false ∧ s.vm.findClass y.cls = some cell.cls) (hRep : gs_Rep G m H) (hS : va_S (gs_A G) s.heap H locs) (hls : ls.size = nL) (hvn : vs.length = n) (h8 : (rest.map fun v => v.category).sum ≤ 8) (hd : decode cc pc = .ok (.invokevirtual idx, 3)) (hcs : cells ≤ R.cells ∧ slots ≤ R.slots)
    (hz : ∀ T : State, T.heap = H → Stand p l e R s m₀ args below meth c T locs cells slots → H.size ≤ G.1 + gs_us m)
    (k : ∀ (H' : Heap) (locs' : List Loc), gs_Rep G m H' → va_S (gs_A G) s.heap H' locs' → W p l e R s m₀ args below meth c H' locs' cells slots Q (F0 m₀ (pc + 3) ls ((v.map (gs_cv G)).toList ++ rest))) :
    W p l e R s m₀ args below meth c H locs cells slots Q (F0 m₀ pc ls (vs.reverse ++ .ref b :: rest)) := by
  obtain ⟨hx, hbc, hml, hown, hgw, hK, hlk, hsz⟩ := id hC
  refine gs_jthen (av := (Value.ref b :: vs).toArray) hS hz (fun h2 => ?_) k
  refine vx_runV (Ts := []) (C := y.cls) (index := idx) (n := n) (b := b) (As := vs) ⟨hx, hbc, hml, hown, fun w hw => by cases hw⟩ hM ⟨gs_jB (d := d) hC (fun w hw2 => hw w ?_) hy hn hm hR, hgw _ (hw _ (by simp)), hgw _ (hw _ (by simp))⟩ ⟨gs_Pv_blind hSt, hrec, fun U hU hW => gs_Pv_at hC hSt hs hRep hS h2 U hU hW⟩ rfl hvn hls rfl (lv_room h8) hd hcs
  simp only [List.mem_cons, List.not_mem_nil, or_false] at hw2 ⊢
  rcases hw2 with h | h | h
  · exact Or.inl h
  · exact Or.inr (Or.inl h)
  · exact Or.inr (Or.inr (Or.inl h))
end GJA
