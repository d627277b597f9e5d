/-! THE SOUNDNESS: what the pure machine answers is the method's contract on the machine. -/
theorem gs_args_cl (G : gs_G) : ∀ (as : List gs_V) (i : Nat), lv_args i (as.map (gs_cv G)) = gs_cl G (gs_args i as)
  | [], _ => rfl
  | v :: vs, i => by
    have e : (if (gs_cv G v).category = 2 then i + 2 else i + 1) = cond (gs_two v) (i + 2) (i + 1) := by
      rw [gs_cat]
      cases gs_two v <;> rfl
    show (i, gs_cv G v) :: lv_args (if (gs_cv G v).category = 2 then i + 2 else i + 1) (vs.map (gs_cv G)) = (i, gs_cv G v) :: gs_cl G (gs_args (cond (gs_two v) (i + 2) (i + 1)) vs)
    rw [e, gs_args_cl G vs]
theorem gs_sl_len (G : gs_G) : ∀ as : List gs_V, (lg_sl (as.map (gs_cv G))).length = gs_cs as
  | [] => rfl
  | v :: vs => by
    have ih := gs_sl_len G vs
    unfold lg_sl at ih ⊢
    rw [List.map_cons, List.flatMap_cons, List.length_append, ih]
    show _ = cond (gs_two v) (gs_cs vs + 2) (gs_cs vs + 1)
    rw [gs_cat]
    cases gs_two v <;> simp <;> omega
section GSZ
variable {p : Program} {l : Launch} {e : Env} {R : Room} {s : State} {m₀ : MethodId} {args : Array Value} {below : List Frame} {meth : Method} {c : Code} {G : gs_G} {cc : ByteArray} {nL u0 z0 : Nat} {r : gs_R × gs_M} {St : State → Prop}
theorem gs_iter_ok {X : gs_E} {C : Nat → List gs_V → gs_M → gs_O} {T : gs_T} {d o rb : Nat} {ini : Bool}
    (hC : gs_Cx p s m₀ args meth c G cc nL (gs_own o) u0) (hSt : gs_Stk G St) (hs : St s) (hN : gs_Nst s) (ht : ∀ y ∈ c.exceptionTable.toList, False) (hR0 : R.cells = gs_us r.2 - u0 ∧ R.slots = r.2.1.2.2 - z0) (hRd : d + 13 ≤ R.frames ∧ 60 * (d + 13) ≤ R.locals)
    (hin : ini = true → meth.name = "<init>") (hrt : meth.sig.returnType = gs_rt rb)
    (hcal : ∀ (k : Nat) (as : List gs_V) (m' : gs_M) (r' : gs_R × gs_M), gs_pl k = true → C k as m' = some r' → gs_Mt l G St d k as m' r')
    (hH : gs_HH p l e R s m₀ args below meth c G cc nL u0 z0 o rb ini r X) (hT : T.1 = []) (hB : ∀ b ∈ T.2.1, gs_cis false o nL cc rb ini b.1 b.2 = true) :
    ∀ (n pc : Nat) (lo : gs_L) (st : List gs_V) (m : gs_M), gs_iter X C T n pc lo st m = some r → gs_Tg p l e R s m₀ args below meth c G nL u0 z0 r pc lo st m
  | 0, _, _, _, _, h => by cases h
  | n + 1, pc, lo, st, m, h => by
    unfold gs_iter at h
    split at h
    · next is his => exact gs_run_ok hC hin hrt (fun go pc ins is lo st m hh h2 hch hgo his h => gs_inv_ok hC hSt hs hN ht hR0 hRd hcal ins hh h2 hch (fun lo' st' m' hg => hgo _ _ _ _ _ his hg) (by rw [hT] at h; exact h)) hH hB (gs_iter_ok hC hSt hs hN ht hR0 hRd hin hrt hcal hH hT hB n) _ _ _ _ _ _ (hB _ (gs_fb_mem _ his)) h
    · cases h
theorem gs_ent_ok {X : gs_E} {C : Nat → List gs_V → gs_M → gs_O} {T : gs_T} {d o rb : Nat} {ini : Bool} {as : List gs_V} {m : gs_M}
    (hC : gs_Cx p s m₀ args meth c G cc nL (gs_own o) u0) (hSt : gs_Stk G St) (hs : St s) (hN : gs_Nst s) (ht : ∀ y ∈ c.exceptionTable.toList, False) (hR0 : R.cells = gs_us r.2 - u0 ∧ R.slots = r.2.1.2.2 - z0) (hRd : d + 13 ≤ R.frames ∧ 60 * (d + 13) ≤ R.locals)
    (hin : ini = true → meth.name = "<init>") (hrt : meth.sig.returnType = gs_rt rb)
    (hcal : ∀ (k : Nat) (as : List gs_V) (m' : gs_M) (r' : gs_R × gs_M), gs_pl k = true → C k as m' = some r' → gs_Mt l G St d k as m' r')
    (hH : gs_HH p l e R s m₀ args below meth c G cc nL u0 z0 o rb ini r X) (hT : T.1 = []) (hB : ∀ b ∈ T.2.1, gs_cis false o nL cc rb ini b.1 b.2 = true)
    (h : gs_ent X C T as m = some r) : gs_Tg p l e R s m₀ args below meth c G nL u0 z0 r 0 (gs_args 0 as) [] m := by
  unfold gs_ent at h
  obtain ⟨-, h⟩ := gs_cd_ok h
  split at h
  · next is his => exact gs_run_ok hC hin hrt (fun go pc ins is lo st m hh h2 hch hgo his h => gs_inv_ok hC hSt hs hN ht hR0 hRd hcal ins hh h2 hch (fun lo' st' m' hg => hgo _ _ _ _ _ his hg) (by rw [hT] at h; exact h)) hH hB (gs_iter_ok hC hSt hs hN ht hR0 hRd hin hrt hcal hH hT hB _) _ _ _ _ _ _ (hB _ (gs_fb_mem _ his)) h
  · cases h
end GSZ
/-- the other instructions, in every body -/
def gs_HA (l : Launch) (G : gs_G) (St : State → Prop) (X : gs_E) : Prop :=
  ∀ (p : Program) (e : Env) (R : Room) (s : State) (m₀ : MethodId) (args : Array Value) (below : List Frame) (meth : Method) (c : Code) (cc : ByteArray) (nL u0 z0 o rb : Nat) (ini : Bool) (r : gs_R × gs_M),
    gs_Cx p s m₀ args meth c G cc nL (gs_own o) u0 → St s → (∀ y ∈ c.exceptionTable.toList, False) → R.cells = gs_us r.2 - u0 ∧ R.slots = r.2.1.2.2 - z0 → 13 ≤ R.frames ∧ 780 ≤ R.locals →
    gs_HH p l e R s m₀ args below meth c G cc nL u0 z0 o rb ini r X
theorem gs_ofW {l : Launch} {y : MethodName} {ws ws' : List Cond} {rm : Room} {Pc : Array Value → State → Prop} {Qc : Array Value → State → Outcome → State → Prop} {XC : String → State → State → Prop} {mc ms : Nat} {free : Addr → Prop} {cc : ByteArray} {maxL : Nat} {ret : Option FieldType}
    (hy : plainFor y = true) (hw : ws = Cond.code y cc maxL ret :: ws')
    (body : ∀ p e s m args below meth c s₁, BodyLoose p l y (headSpec ws rm) cc maxL ret e s m args below meth c s₁ → c.maxLocals = maxL → (∀ x ∈ c.exceptionTable.toList, False) → Pc args s →
      W p l e (headSpec ws rm).room s m args below meth c s.heap [] 0 0 (vx_MQ below Qc XC args s mc ms free) (entryFrame m args maxL)) : vx_Met l y ws rm Pc Qc XC mc ms free := by
  refine MetFree.of_bodySF (code := cc) (maxLocals := maxL) (ret := ret) hy ?_ ?_
  · intro args s m h hn
    obtain ⟨meth, c, h1, h2, h3, h4, h5, h6, -, -⟩ := Cond.code_spec hn (atoms_spec (ws := ws) h _ (by rw [hw]; exact List.mem_cons_self))
    exact ⟨meth, c, h1, h2, h3, h4, h5, h6⟩
  · intro p e s m args below meth c s₁ B hml hP _
    have hh0 : s₁.heap = s.heap := by rw [B.state]; rfl
    have ht : ∀ x ∈ c.exceptionTable.toList, False := by
      obtain ⟨meth9, c9, h1, h2, -, -, -, -, h7, -⟩ := Cond.code_spec B.named (atoms_spec (ws := ws) B.pre _ (by rw [hw]; exact List.mem_cons_self))
      cases Option.some.inj (h1.symm.trans B.method)
      cases Option.some.inj (h2.symm.trans (Stand.of_body B).code)
      intro x hx
      rw [Array.isEmpty_iff.mp h7] at hx
      cases hx
    obtain ⟨t, a1, o, b1, b2, b3⟩ := body p e s m args below meth c s₁ B hml ht hP s₁ hh0 (Stand.of_body B)
    exact ⟨t, o, a1, b1, b2, b3⟩
theorem gs_body {l : Launch} {G : gs_G} {St : State → Prop} {X : gs_E} {C : Nat → List gs_V → gs_M → gs_O} {d k : Nat} {as : List gs_V} {m : gs_M} {r : gs_R × gs_M} (hSt : gs_Stk G St) (hN : ∀ U : State, St U → gs_Nst U) (hA : gs_HA l G St X) (hk : gs_pl k = true)
    (hcal : ∀ (k : Nat) (as : List gs_V) (m' : gs_M) (r' : gs_R × gs_M), gs_pl k = true → C k as m' = some r' → gs_Mt l G St d k as m' r') (hle : gs_le m r.2)
    (h : gs_ent X C (gs_tab k) as m = some r) : gs_Mt l G St (d + 1) k as m r := by
  refine ⟨hle, ?_⟩
  obtain ⟨h1, h2, h3, h4⟩ := gs_plainAt (gs_pl_lt hk)
  have hm := gs_mch_ok hk
  unfold gs_mch at hm
  simp only [Bool.and_eq_true, decide_eq_true_eq] at hm
  obtain ⟨⟨⟨⟨hT, hmx⟩, hcls⟩, hrt⟩, hB⟩ := hm
  have hmx := Nat.eq_of_beq_eq_true hmx
  have hT : (gs_tab k).1 = [] := List.isEmpty_iff.mp hT
  refine gs_ofW (cc := (gs_y k).2.1) (maxL := (gs_y k).2.2.1) (ret := (gs_y k).2.2.2.1) h2 rfl ?_
  intro p e s m₀ args below meth c s₁ B hml ht hP
  obtain ⟨rfl, hRep, hK, hs, hz1, hz2⟩ := hP
  have hts := atoms_spec (ws := gs_wk k) B.pre
  have hown : s.vm.findClass (gs_own (gs_y k).2.2.2.2.1) = some m₀.cls := by
    rw [← hcls]
    exact findClass_of_methodNamed B.named
  have hC : gs_Cx p s m₀ (as.map (gs_cv G)).toArray meth c G (gs_y k).2.1 (gs_y k).2.2.1 (gs_own (gs_y k).2.2.2.2.1) (gs_us m) :=
    ⟨B.exec, B.bytes, hml, hown, fun w hw => hts w (List.mem_cons_of_mem _ (List.mem_filter.mpr hw)), hK, B.notSynchronized, hz1, hz2⟩
  have hR0 : (headSpec (gs_wk k) (gs_Rm (d + 1) (gs_us r.2 - gs_us m) (r.2.1.2.2 - m.1.2.2))).room.cells = gs_us r.2 - gs_us m ∧ (headSpec (gs_wk k) (gs_Rm (d + 1) (gs_us r.2 - gs_us m) (r.2.1.2.2 - m.1.2.2))).room.slots = r.2.1.2.2 - m.1.2.2 := ⟨rfl, rfl⟩
  have hRd : d + 13 ≤ (headSpec (gs_wk k) (gs_Rm (d + 1) (gs_us r.2 - gs_us m) (r.2.1.2.2 - m.1.2.2))).room.frames ∧ 60 * (d + 13) ≤ (headSpec (gs_wk k) (gs_Rm (d + 1) (gs_us r.2 - gs_us m) (r.2.1.2.2 - m.1.2.2))).room.locals := by
    refine ⟨?_, ?_⟩
    · show d + 13 ≤ d + 1 + 12
      omega
    · show 60 * (d + 13) ≤ 60 * (d + 1 + 12)
      omega
  have hin : gs_ini k = true → meth.name = "<init>" := by
    intro hi
    have hi : (gs_y k).1.name = "<init>" := of_decide_eq_true hi
    rw [← hi]
    exact (name_of_methodNamed B.named B.method).1
  have hT2 := gs_ent_ok (z0 := m.1.2.2) (ini := gs_ini k) (rb := gs_rb k) hC hSt hs (hN s hs) ht hR0 hRd hin (by rw [← hrt]; exact B.returns) hcal (hA p e _ s m₀ _ below meth c _ _ _ _ _ (gs_rb k) (gs_ini k) r hC hs ht hR0 ⟨by omega, by omega⟩) hT (fun b hb => List.all_eq_true.mp hB b hb) h
  rw [lg_entry_eq]
  have hcs : gs_cs as ≤ (gs_y k).2.2.1 := by
    unfold gs_ent at h
    obtain ⟨h9, -⟩ := gs_cd_ok h
    rw [← hmx]
    exact Nat.le_of_ble_eq_true h9
  have hl := lv_entry (as.map (gs_cv G)) (n := (gs_y k).2.2.1) (by rw [gs_sl_len]; exact hcs)
  rw [gs_args_cl] at hl
  have h9 := hT2.2 (Nat.le_refl _) (Nat.le_refl _) s.heap [] _ hRep va_S.rf hl
  rw [Nat.sub_self, Nat.sub_self] at h9
  exact h9
/-- the soundness of the pure machine, for every method without a table of its own -/
theorem gs_sound {l : Launch} {G : gs_G} {St : State → Prop} {X : gs_E} (hSt : gs_Stk G St) (hN : ∀ U : State, St U → gs_Nst U) (hA : gs_HA l G St X) : ∀ (d k : Nat) (as : List gs_V) (m : gs_M) (r : gs_R × gs_M), gs_pl k = true → gs_exec X d k as m = some r → gs_Mt l G St d k as m r
  | 0, _, _, _, _, _, h => by cases h
  | d + 1, k, as, m, r, hk, h => gs_body hSt hN hA hk (gs_sound hSt hN hA d) (gs_exec_le _ _ _ _ _ h) h
