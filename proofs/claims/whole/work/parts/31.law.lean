/-! Bodies that may catch; the law's own. -/
section GSQ
variable {p : Program} {l : Launch} {e : Env} {R : Room} {s : State} {m₀ : MethodId} {args : Array Value} {below : List Frame} {meth : Method} {c : Code} {G : gs_G} {cc : ByteArray} {nL u0 z0 : Nat} {r : gs_R × gs_M} {St : State → Prop}
/-- what a body's calls give, at every instruction -/
def gs_HI (p : Program) (l : Launch) (e : Env) (R : Room) (s : State) (m₀ : MethodId) (args : Array Value) (below : List Frame) (meth : Method) (c : Code) (G : gs_G) (cc : ByteArray) (nL u0 z0 o rb : Nat) (ini : Bool) (r : gs_R × gs_M) (X : gs_E) (C : Nat → List gs_V → gs_M → gs_O) (T : gs_T) : Prop :=
  ∀ (go : gs_Go) (pc : Nat) (ins : gs_N) (is : List gs_N) (lo : gs_L) (st : List gs_V) (m : gs_M), gs_hard ins = true → gs_h2 ins = false → gs_ch true o cc pc ins = true →
      (∀ (pc' : Nat) (is' : List gs_N) (lo' : gs_L) (st' : List gs_V) (m' : gs_M), gs_cis true o nL cc rb ini pc' is' = true → go pc' is' lo' st' m' = some r → gs_Tg p l e R s m₀ args below meth c G nL u0 z0 r pc' lo' st' m') →
      gs_cis true o nL cc rb ini ins.2.1 is = true → gs_step X C T.1 go pc ins is lo st m = some r → gs_Tg p l e R s m₀ args below meth c G nL u0 z0 r pc lo st m
theorem gs_iter2_ok {X : gs_E} {C : Nat → List gs_V → gs_M → gs_O} {T : gs_T} {o rb : Nat} {ini : Bool}
    (hC : gs_Cx p s m₀ args meth c G cc nL (gs_own o) u0) (hin : ini = true → meth.name = "<init>") (hrt : meth.sig.returnType = gs_rt rb) (hI : gs_HI p l e R s m₀ args below meth c G cc nL u0 z0 o rb ini r X C T)
    (hH : gs_HH p l e R s m₀ args below meth c G cc nL u0 z0 o rb ini r X) (hB : ∀ b ∈ T.2.1, gs_cis true o nL cc rb ini b.1 b.2 = true) :
    ∀ (n pc : Nat) (lo : gs_L) (st : List gs_V) (m : gs_M), gs_iter X C T n pc lo st m = some r → gs_Tg p l e R s m₀ args below meth c G nL u0 z0 r pc lo st m
  | 0, _, _, _, _, h => by cases h
  | n + 1, pc, lo, st, m, h => by
    unfold gs_iter at h
    split at h
    · next is his => exact gs_run_ok hC hin hrt hI hH hB (gs_iter2_ok hC hin hrt hI hH hB n) _ _ _ _ _ _ (hB _ (gs_fb_mem _ his)) h
    · cases h
theorem gs_ent2_ok {X : gs_E} {C : Nat → List gs_V → gs_M → gs_O} {T : gs_T} {o rb : Nat} {ini : Bool} {as : List gs_V} {m : gs_M}
    (hC : gs_Cx p s m₀ args meth c G cc nL (gs_own o) u0) (hin : ini = true → meth.name = "<init>") (hrt : meth.sig.returnType = gs_rt rb) (hI : gs_HI p l e R s m₀ args below meth c G cc nL u0 z0 o rb ini r X C T)
    (hH : gs_HH p l e R s m₀ args below meth c G cc nL u0 z0 o rb ini r X) (hB : ∀ b ∈ T.2.1, gs_cis true o nL cc rb ini b.1 b.2 = true)
    (h : gs_ent X C T as m = some r) : gs_Tg p l e R s m₀ args below meth c G nL u0 z0 r 0 (gs_args 0 as) [] m := by
  unfold gs_ent at h
  obtain ⟨-, h⟩ := gs_cd_ok h
  split at h
  · next is his => exact gs_run_ok hC hin hrt hI hH hB (gs_iter2_ok hC hin hrt hI hH hB _) _ _ _ _ _ _ (hB _ (gs_fb_mem _ his)) h
  · cases h
end GSQ
theorem gs_noath : ∀ pc : Nat, decode prog_1_method_3_code pc ≠ .ok (.athrow, 1) := by
  intro pc
  have h1 : ∀ pc, pc < prog_1_method_3_code.size → decode prog_1_method_3_code pc ≠ .ok (.athrow, 1) := by decide +kernel
  rcases Nat.lt_or_ge pc prog_1_method_3_code.size with h | h
  · exact h1 pc h
  · exact gs_dec_out h
theorem gs_xc_no {o : Nat} {cc : ByteArray} {pc idx E : Nat} (h : (o ≠ 5 ∧ o ≠ 11) ∨ ∀ pc : Nat, decode cc pc ≠ .ok (.athrow, 1)) : gs_xc o cc pc idx E ≠ true := by
  intro hx
  obtain ⟨is, ic, hm, d0, d3, d4, d6, d9⟩ := gs_xt_mem hx
  rcases h with h | h
  · simp only [gs_xt, List.mem_cons, List.not_mem_nil, or_false, Prod.mk.injEq] at hm
    omega
  · exact h _ d9
section GSR
variable {l : Launch} {G : gs_G} {av : Nat} {X : gs_E}
/-- the words of a body with a table -/
theorem gs_body2 {C : Nat → List gs_V → gs_M → gs_O} {d k : Nat} {as : List gs_V} {m : gs_M} {r : gs_R × gs_M} (hk : k ∈ [118, 318]) (hmk : gs_mch2 k = true) (hpn : plainName (gs_y k).1.cls = true) (hl : l.stackTraces = false)
    (hnx : ((gs_y k).2.2.2.2.1 ≠ 5 ∧ (gs_y k).2.2.2.2.1 ≠ 11) ∨ ∀ pc : Nat, decode (gs_y k).2.1 pc ≠ .ok (.athrow, 1)) (hle : gs_le m r.2)
    (hI : ∀ (p : Program) (e : Env) (R : Room) (s : State) (m₀ : MethodId) (args : Array Value) (below : List Frame) (meth : Method) (c : Code) (u0 z0 : Nat), gs_Cx p s m₀ args meth c G (gs_y k).2.1 (gs_y k).2.2.1 (gs_own (gs_y k).2.2.2.2.1) u0 → gs_St G av X s → c.exceptionTable.toList = tableOf (gs_hh k) → R.cells = gs_us r.2 - u0 ∧ R.slots = r.2.1.2.2 - z0 → d + 13 ≤ R.frames ∧ 60 * (d + 13) ≤ R.locals →
      gs_HI p l e R s m₀ args below meth c G (gs_y k).2.1 (gs_y k).2.2.1 u0 z0 (gs_y k).2.2.2.2.1 (gs_rb k) (gs_ini k) r X C (gs_tab k))
    (h : gs_ent X C (gs_tab k) as m = some r) : gs_Mt2 l G (gs_St G av X) (d + 1) k as m r := by
  refine ⟨hle, ?_⟩
  have hm := hmk
  unfold gs_mch2 at hm
  simp only [Bool.and_eq_true, decide_eq_true_eq] at hm
  obtain ⟨⟨⟨hmx, hcls⟩, hrt⟩, hB⟩ := hm
  have hmx := Nat.eq_of_beq_eq_true hmx
  refine vx_ofWH (cc := (gs_y k).2.1) (maxL := (gs_y k).2.2.1) (ret := (gs_y k).2.2.2.1) (hh := gs_hh k) hpn rfl ?_
  intro p e s m₀ args below meth c s₁ B hml hP
  obtain ⟨rfl, hRep, hK, hs, hz1, hz2⟩ := hP
  have hts := atoms_spec (ws := gs_wk2 k) B.pre
  have htab := vx_table (x := (gs_y k).1) B (hts (gs_kw2 k) List.mem_cons_self)
  have hown : s.vm.findClass (gs_own (gs_y k).2.2.2.2.1) = some m₀.cls := by
    rw [← hcls]
    exact findClass_of_methodNamed B.named
  have hC : gs_Cx p s m₀ (as.map (gs_cv G)).toArray meth c G (gs_y k).2.1 (gs_y k).2.2.1 (gs_own (gs_y k).2.2.2.2.1) (gs_us m) :=
    ⟨B.exec, B.bytes, hml, hown, fun w hw => hts w (List.mem_cons_of_mem _ (List.mem_filter.mpr hw)), hK, B.notSynchronized, hz1, hz2⟩
  have hR0 : (headSpec (gs_wk2 k) (gs_Rm (d + 1) (gs_us r.2 - gs_us m) (r.2.1.2.2 - m.1.2.2))).room.cells = gs_us r.2 - gs_us m ∧ (headSpec (gs_wk2 k) (gs_Rm (d + 1) (gs_us r.2 - gs_us m) (r.2.1.2.2 - m.1.2.2))).room.slots = r.2.1.2.2 - m.1.2.2 := ⟨rfl, rfl⟩
  have hRd : d + 13 ≤ (headSpec (gs_wk2 k) (gs_Rm (d + 1) (gs_us r.2 - gs_us m) (r.2.1.2.2 - m.1.2.2))).room.frames ∧ 60 * (d + 13) ≤ (headSpec (gs_wk2 k) (gs_Rm (d + 1) (gs_us r.2 - gs_us m) (r.2.1.2.2 - m.1.2.2))).room.locals := by
    refine ⟨?_, ?_⟩
    · show d + 13 ≤ d + 1 + 12
      omega
    · show 60 * (d + 13) ≤ 60 * (d + 1 + 12)
      omega
  have hin : gs_ini k = true → meth.name = "<init>" := by
    intro hi
    have hi : (gs_y k).1.name = "<init>" := of_decide_eq_true hi
    rw [← hi]
    exact (name_of_methodNamed B.named B.method).1
  have hT2 := gs_ent2_ok (z0 := m.1.2.2) (ini := gs_ini k) (rb := gs_rb k) (below := below) (e := e) (l := l) hC hin (by rw [← hrt]; exact B.returns) (hI p e _ s m₀ _ below meth c _ _ hC hs htab hR0 hRd) (gs_ha hl hC hs (fun pc idx E hx => absurd hx (gs_xc_no hnx)) hR0 ⟨by omega, by omega⟩) (fun b hb => List.all_eq_true.mp hB b hb) h
  rw [lg_entry_eq]
  have hcs : gs_cs as ≤ (gs_y k).2.2.1 := by
    unfold gs_ent at h
    obtain ⟨h9, -⟩ := gs_cd_ok h
    rw [← hmx]
    exact Nat.le_of_ble_eq_true h9
  have hl := lv_entry (as.map (gs_cv G)) (n := (gs_y k).2.2.1) (by rw [gs_sl_len]; exact hcs)
  rw [gs_args_cl] at hl
  have h9 := hT2.2 (Nat.le_refl _) (Nat.le_refl _) s.heap [] _ hRep va_S.rf hl
  rw [Nat.sub_self, Nat.sub_self] at h9
  exact h9
theorem gs_castx {args : Array Value} {s : State} (hs : gs_St G av X s) (E : Nat) (hE : E ≤ 2) : (Cond.castable (gs_ex E) (gs_ex E)).before args s = true := by
  have key : ∀ E, E ≤ 2 → Cond.castable (gs_ex E) (gs_ex E) ∈ gs_nbl := by decide +kernel
  exact va_Nw.use (gs_nb_tab (List.all_eq_true.mp gs_nbl_ok _ (key E hE))) (hs.1 _ (key E hE))
/-- reading a text: its faults are caught -/
theorem gs_mt_text (hl : l.stackTraces = false) {d : Nat} {as : List gs_V} {m : gs_M} {r : gs_R × gs_M} (hcal2 : ∀ (k : Nat) (as : List gs_V) (m' : gs_M) (r' : gs_R × gs_M), k ∈ [118, 318] → gs_exec X d k as m' = some r' → gs_Mt2 l G (gs_St G av X) d k as m' r') (h : gs_exec X (d + 1) 118 as m = some r) : gs_Mt2 l G (gs_St G av X) (d + 1) 118 as m r := by
  refine gs_body2 (C := gs_exec X d) (by simp) gs_mch2_118 (by decide) hl (Or.inr gs_noath) (gs_exec_le _ _ _ _ _ h) ?_ h
  intro p e R s m₀ args below meth c u0 z0 hC hs htab hR0 hRd
  intro go pc ins is lo st m' hh h2 hch hgo his hst
  refine gs_inv2_ok (hs0 := (gs_tab 118).1) hC (gs_St_k G av X) hs (gs_St_n G av X s hs) hR0 hRd ?_ (fun k as m' r' hk hc => gs_soundSt hl d k as m' r' hk hc) hcal2 ins hh h2 hch (fun lo' st' m' hg => hgo _ _ _ _ _ his hg) hst
  have hlk : (Cond.classLink (gs_own (gs_y 118).2.2.2.2.1) 62 (gs_ex 0)).before args s = true := hC.2.2.2.2.1 (Cond.classLink RX11 62 "java/lang/IllegalArgumentException") (gs_hcl _ (by simp))
  intro x m2 hx
  have hx : cond (Nat.ble 34 pc && Nat.blt pc 43 && Nat.beq x 0) (go 47 [] (gs_rm lo 3) [] m2) none = some r := hx
  obtain ⟨hb, hx2⟩ := gs_cd_ok hx
  simp only [Bool.and_eq_true] at hb
  have e0 := Nat.eq_of_beq_eq_true hb.2
  subst e0
  refine gs_catch (p0 := 47) hC [] ⟨34, 43, 46, 62⟩ [] htab (fun z hz => by cases hz) ?_ (by decide) hlk (gs_castx hs 0 (by decide)) (Or.inr ⟨3, rfl, by decide +kernel, rfl⟩) (by decide) (hgo 47 [] (gs_rm lo 3) [] m2 rfl hx2)
  have h1 := Nat.le_of_ble_eq_true hb.1.1
  have h2 := Nat.lt_of_succ_le (Nat.le_of_ble_eq_true hb.1.2)
  simp [covers, h1, h2]
/-- the law's own look: what the class throws is caught -/
theorem gs_mt_look (hl : l.stackTraces = false) {d : Nat} {as : List gs_V} {m : gs_M} {r : gs_R × gs_M} (hcal2 : ∀ (k : Nat) (as : List gs_V) (m' : gs_M) (r' : gs_R × gs_M), k ∈ [118, 318] → gs_exec X d k as m' = some r' → gs_Mt2 l G (gs_St G av X) d k as m' r') (h : gs_exec X (d + 1) 318 as m = some r) : gs_Mt2 l G (gs_St G av X) (d + 1) 318 as m r := by
  refine gs_body2 (C := gs_exec X d) (by simp) gs_mch2_318 (by decide) hl (Or.inl (by decide)) (gs_exec_le _ _ _ _ _ h) ?_ h
  intro p e R s m₀ args below meth c u0 z0 hC hs htab hR0 hRd
  intro go pc ins is lo st m' hh h2 hch hgo his hst
  refine gs_inv2_ok (hs0 := (gs_tab 318).1) hC (gs_St_k G av X) hs (gs_St_n G av X s hs) hR0 hRd ?_ (fun k as m' r' hk hc => gs_soundSt hl d k as m' r' hk hc) hcal2 ins hh h2 hch (fun lo' st' m' hg => hgo _ _ _ _ _ his hg) hst
  have hlk1 : (Cond.classLink (gs_own (gs_y 318).2.2.2.2.1) 13 (gs_ex 1)).before args s = true := hC.2.2.2.2.1 (Cond.classLink RL 13 "java/lang/IndexOutOfBoundsException") (gs_hcl _ (by simp))
  have hlk2 : (Cond.classLink (gs_own (gs_y 318).2.2.2.2.1) 15 (gs_ex 2)).before args s = true := hC.2.2.2.2.1 (Cond.classLink RL 15 "java/util/NoSuchElementException") (gs_hcl _ (by simp))
  intro x m2 hx
  have hx : cond (Nat.ble 0 pc && Nat.blt pc 10 && Nat.beq x 1) (go 15 [] (gs_rm lo 4) [] m2) (cond (Nat.ble 0 pc && Nat.blt pc 10 && Nat.beq x 2) (go 19 [] (gs_rm lo 4) [] m2) none) = some r := hx
  cases hb : (Nat.ble 0 pc && Nat.blt pc 10 && Nat.beq x 1) with
  | true =>
    rw [hb] at hx
    have hx : go 15 [] (gs_rm lo 4) [] m2 = some r := hx
    simp only [Bool.and_eq_true] at hb
    have e0 := Nat.eq_of_beq_eq_true hb.2
    subst e0
    refine gs_catch (p0 := 15) hC [] ⟨0, 10, 13, 13⟩ [⟨0, 10, 17, 15⟩] htab (fun z hz => by cases hz) ?_ (by decide) hlk1 (gs_castx hs 1 (by decide)) (Or.inl ⟨by decide +kernel, rfl⟩) (by decide) (hgo 15 [] (gs_rm lo 4) [] m2 rfl hx)
    have h2 := Nat.lt_of_succ_le (Nat.le_of_ble_eq_true hb.1.2)
    simp [covers, h2]
  | false =>
    rw [hb] at hx
    obtain ⟨hb, hx2⟩ := gs_cd_ok (show cond (Nat.ble 0 pc && Nat.blt pc 10 && Nat.beq x 2) (go 19 [] (gs_rm lo 4) [] m2) none = some r from hx)
    simp only [Bool.and_eq_true] at hb
    have e0 := Nat.eq_of_beq_eq_true hb.2
    subst e0
    refine gs_catch (p0 := 19) hC [⟨0, 10, 13, 13⟩] ⟨0, 10, 17, 15⟩ [] htab (fun z hz => ?_) ?_ (by decide) hlk2 (gs_castx hs 2 (by decide)) (Or.inl ⟨by decide +kernel, rfl⟩) (by decide) (hgo 19 [] (gs_rm lo 4) [] m2 rfl hx2)
    · rw [List.mem_singleton.mp hz]
      exact Or.inr ⟨by decide, "java/lang/IndexOutOfBoundsException", hlk1, hs.2.2.2.2.2.2.2.2.2.2.2.2 ("java/util/NoSuchElementException", "java/lang/IndexOutOfBoundsException") (by simp [gs_ncl])⟩
    · have h2 := Nat.lt_of_succ_le (Nat.le_of_ble_eq_true hb.1.2)
      simp [covers, h2]
theorem gs_sound2 (hl : l.stackTraces = false) : ∀ (d k : Nat) (as : List gs_V) (m : gs_M) (r : gs_R × gs_M), k ∈ [118, 318] → gs_exec X d k as m = some r → gs_Mt2 l G (gs_St G av X) d k as m r
  | 0, _, _, _, _, _, h => by cases h
  | d + 1, k, as, m, r, hk, h => by
    simp only [List.mem_cons, List.not_mem_nil, or_false] at hk
    rcases hk with rfl | rfl
    · exact gs_mt_text hl (gs_sound2 hl d) h
    · exact gs_mt_look hl (gs_sound2 hl d) h
end GSR
