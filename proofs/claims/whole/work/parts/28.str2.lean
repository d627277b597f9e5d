/-! The seven bodies. -/
def gs_jy0 : MethodName := ⟨"java/lang/String", "length", "()I"⟩
def gs_jy1 : MethodName := ⟨"java/lang/String", "coder", "()B"⟩
def gs_jy2 : MethodName := ⟨"java/lang/String", "charAt", "(I)C"⟩
def gs_jy3 : MethodName := ⟨"java/lang/String", "isLatin1", "()Z"⟩
def gs_jy4 : MethodName := ⟨"java/lang/StringLatin1", "charAt", "([BI)C"⟩
def gs_jy5 : MethodName := ⟨"java/lang/String", "checkIndex", "(II)V"⟩
def gs_jy6 : MethodName := ⟨"jdk/internal/util/Preconditions", "checkIndex", "(IILjava/util/function/BiFunction;)I"⟩
set_option maxRecDepth 1000000 in
theorem gs_jg0 : ∀ w ∈ [Cond.code gs_jy0 prog_24_method_54_code 1 (some .int), Cond.initialized gs_jy0.cls, Cond.methodLink RX9 21 gs_jy0, Cond.instanceMethod gs_jy0, Cond.selects gs_jy0.cls gs_jy0 gs_jy0], gs_gw w := gs_gw_all _ (by decide +kernel)
set_option maxRecDepth 1000000 in
theorem gs_jg1 : ∀ w ∈ [Cond.code gs_jy1 prog_24_method_152_code 1 (some .byte), Cond.initialized gs_jy1.cls, Cond.methodLink "java/lang/String" 335 gs_jy1, Cond.instanceMethod gs_jy1, Cond.selects gs_jy1.cls gs_jy1 gs_jy1], gs_gw w := gs_gw_all _ (by decide +kernel)
set_option maxRecDepth 1000000 in
theorem gs_jg2 : ∀ w ∈ [Cond.code gs_jy2 prog_24_method_56_code 2 (some .char), Cond.initialized gs_jy2.cls, Cond.methodLink RX9 27 gs_jy2, Cond.instanceMethod gs_jy2, Cond.selects gs_jy2.cls gs_jy2 gs_jy2], gs_gw w := gs_gw_all _ (by decide +kernel)
set_option maxRecDepth 1000000 in
theorem gs_jg3 : ∀ w ∈ [Cond.code gs_jy3 prog_24_method_154_code 1 (some .boolean), Cond.initialized gs_jy3.cls, Cond.methodLink "java/lang/String" 492 gs_jy3, Cond.instanceMethod gs_jy3, Cond.selects gs_jy3.cls gs_jy3 gs_jy3], gs_gw w := gs_gw_all _ (by decide +kernel)
set_option maxRecDepth 1000000 in
theorem gs_jg4 : ∀ w ∈ [Cond.code gs_jy4 prog_25_method_2_code 2 (some .char), Cond.initialized gs_jy4.cls, Cond.methodLink "java/lang/String" 495 gs_jy4, Cond.static gs_jy4], gs_gw w := gs_gw_all _ (by decide +kernel)
set_option maxRecDepth 1000000 in
theorem gs_jg5 : ∀ w ∈ [Cond.code gs_jy5 prog_24_method_155_code 2 (none), Cond.initialized gs_jy5.cls, Cond.methodLink "java/lang/StringLatin1" 9 gs_jy5, Cond.static gs_jy5], gs_gw w := gs_gw_all _ (by decide +kernel)
set_option maxRecDepth 1000000 in
theorem gs_jg6 : ∀ w ∈ [Cond.code gs_jy6 prog_32_method_11_code 3 (some .int), Cond.initialized gs_jy6.cls, Cond.methodLink "java/lang/String" 1059 gs_jy6, Cond.static gs_jy6], gs_gw w := gs_gw_all _ (by decide +kernel)
set_option maxRecDepth 1000000 in
theorem gs_jfa : gs_gw (Cond.fieldLink "java/lang/String" 38 "java/lang/String" "COMPACT_STRINGS" "Z") := gs_gw_all [Cond.fieldLink "java/lang/String" 38 "java/lang/String" "COMPACT_STRINGS" "Z"] (by decide +kernel) _ List.mem_cons_self
set_option maxRecDepth 1000000 in
theorem gs_jfb : gs_gw (Cond.fieldLink "java/lang/String" 9 "java/lang/String" "value" "[B") := gs_gw_all [Cond.fieldLink "java/lang/String" 9 "java/lang/String" "value" "[B"] (by decide +kernel) _ List.mem_cons_self
set_option maxRecDepth 1000000 in
theorem gs_jfc : gs_gw (Cond.fieldLink "java/lang/String" 15 "java/lang/String" "coder" "B") := gs_gw_all [Cond.fieldLink "java/lang/String" 15 "java/lang/String" "coder" "B"] (by decide +kernel) _ List.mem_cons_self
set_option maxRecDepth 1000000 in
theorem gs_jfd : gs_gw (Cond.fieldLink "java/lang/String" 1053 "jdk/internal/util/Preconditions" "SIOOBE_FORMATTER" "Ljava/util/function/BiFunction;") := gs_gw_all [Cond.fieldLink "java/lang/String" 1053 "jdk/internal/util/Preconditions" "SIOOBE_FORMATTER" "Ljava/util/function/BiFunction;"] (by decide +kernel) _ List.mem_cons_self
theorem gs_jz {p : Program} {l : Launch} {e : Env} {R : Room} {s : State} {m₀ : MethodId} {args : Array Value} {below : List Frame} {meth : Method} {c : Code} {G : gs_G} {cc : ByteArray} {nL : Nat} {own : String} {m : gs_M} (hC : gs_Cx p s m₀ args meth c G cc nL own (gs_us m)) {H : Heap} {locs : List Loc} : ∀ T : State, T.heap = H → Stand p l e R s m₀ args below meth c T locs 0 0 → H.size ≤ G.1 + gs_us m := by
  intro T hT X
  have h1 := X.heapSize
  rw [hT] at h1
  have h2 := hC.2.2.2.2.2.2.2.2
  omega
section GJC
variable {l : Launch} {G : gs_G} {av : Nat} {X : gs_E} {d : Nat} {m : gs_M}
theorem gs_j_coder : gs_JM l G (gs_St G av X) d gs_jy1 prog_24_method_152_code 1 (some .byte) [.ref G.2.2.2.2.1] m (some (.inl 0)) := by
  refine gs_jbody (by decide +kernel) (Nat.le_of_eq rfl) ?_
  intro p e s m₀ below meth c ls hC hs hRep hret hl
  have hC : gs_Cx p s m₀ _ meth c G _ _ "java/lang/String" (gs_us m) := hC
  obtain ⟨hx, hb, hml, hown, hgw, hK, hlk, hsz⟩ := id hC
  have hS : va_S (gs_A G) s.heap s.heap [] := va_S.rf
  have hs0 : gs_StS G av s := hs.2.2.2.2.2.2.2.2.1
  refine va_gets hx hb hs0.2.2.2.2.2.1 hS hown (hgw _ gs_jfa) (fun _ h => h) (by decide +kernel) ?_
  refine lv_if_eq hx hb (tgt := 13) (off := 10) (by decide +kernel) (by decide) (fun h => absurd h (by decide)) (fun _ => ?_)
  refine lv_aload_n hx hb (k := 0) (by decide +kernel) rfl (hl.2.2 (0, .ref G.2.2.2.2.1) (by simp [lv_args])) ?_
  refine vk_getf hx hb hs0.2.2.1 hS hown (hgw _ gs_jfc) (fun _ h => h) (by decide +kernel) ?_
  refine lv_goto hx hb (tgt := 14) (off := 4) (by decide +kernel) (by decide) ?_
  exact vx_ret (W.zret hx hb hret rfl (fun t ht _ => ⟨some (.inl 0), rfl, rfl, by rw [ht]; exact hRep, hS.F ht⟩) hS.2.2 (by decide +kernel) (hlocks := hlk))
theorem gs_j_lat : gs_JM l G (gs_St G av X) d gs_jy3 prog_24_method_154_code 1 (some .boolean) [.ref G.2.2.2.2.1] m (some (.inl 1)) := by
  refine gs_jbody (by decide +kernel) (Nat.le_of_eq rfl) ?_
  intro p e s m₀ below meth c ls hC hs hRep hret hl
  have hC : gs_Cx p s m₀ _ meth c G _ _ "java/lang/String" (gs_us m) := hC
  obtain ⟨hx, hb, hml, hown, hgw, hK, hlk, hsz⟩ := id hC
  have hS : va_S (gs_A G) s.heap s.heap [] := va_S.rf
  have hs0 : gs_StS G av s := hs.2.2.2.2.2.2.2.2.1
  refine va_gets hx hb hs0.2.2.2.2.2.1 hS hown (hgw _ gs_jfa) (fun _ h => h) (by decide +kernel) ?_
  refine lv_if_eq hx hb (tgt := 17) (off := 14) (by decide +kernel) (by decide) (fun h => absurd h (by decide)) (fun _ => ?_)
  refine lv_aload_n hx hb (k := 0) (by decide +kernel) rfl (hl.2.2 (0, .ref G.2.2.2.2.1) (by simp [lv_args])) ?_
  refine vk_getf hx hb hs0.2.2.1 hS hown (hgw _ gs_jfc) (fun _ h => h) (by decide +kernel) ?_
  refine lv_if_ne hx hb (tgt := 17) (off := 7) (by decide +kernel) (by decide) (fun h => absurd rfl h) (fun _ => ?_)
  refine lv_iconst hx hb (n := 1) (v := 1) (by decide +kernel) rfl ?_
  refine lv_goto hx hb (tgt := 18) (off := 4) (by decide +kernel) (by decide) ?_
  exact vx_ret (W.zret hx hb hret rfl (fun t ht _ => ⟨some (.inl 1), rfl, rfl, by rw [ht]; exact hRep, hS.F ht⟩) hS.2.2 (by decide +kernel) (hlocks := hlk))
theorem gs_j_len : gs_JM l G (gs_St G av X) (d + 1) gs_jy0 prog_24_method_54_code 1 (some .int) [.ref G.2.2.2.2.1] m (some (.inl 171)) := by
  refine gs_jbody (by decide +kernel) (Nat.le_of_eq rfl) ?_
  intro p e s m₀ below meth c ls hC hs hRep hret hl
  have hC : gs_Cx p s m₀ _ meth c G _ _ "java/lang/String" (gs_us m) := hC
  obtain ⟨hx, hb, hml, hown, hgw, hK, hlk, hsz⟩ := id hC
  have hS : va_S (gs_A G) s.heap s.heap [] := va_S.rf
  have hs0 : gs_StS G av s := hs.2.2.2.2.2.2.2.2.1
  refine lv_aload_n hx hb (k := 0) (by decide +kernel) rfl (hl.2.2 (0, .ref G.2.2.2.2.1) (by simp [lv_args])) ?_
  refine vk_getf hx hb hs0.2.2.2.1 hS hown (hgw _ gs_jfb) (fun _ h => h) (by decide +kernel) ?_
  refine va_tlen hx hb hs0.2.2.2.2.1 hS (v := 171) rfl (by decide +kernel) ?_
  refine lv_aload_n hx hb (k := 0) (by decide +kernel) rfl (hl.2.2 (0, .ref G.2.2.2.2.1) (by simp [lv_args])) ?_
  refine gs_jV (vs := []) (rest := [.int 171]) (d := d) (n := 0) hC (gs_St_k G av X) hs gs_jg1 (by decide) (by decide +kernel) (by decide) ⟨Nat.le_refl _, Nat.le_refl _⟩ gs_j_coder (by obtain ⟨cell, h1, h2, h3, -⟩ := hs0.2.1; exact ⟨cell, h1, h2, h3⟩) hRep hS hl.1 rfl (by decide) (by decide +kernel) ⟨Nat.zero_le _, Nat.zero_le _⟩ (gs_jz hC) (fun H' locs' hR' hS' => ?_)
  refine lv_ishr hx hb (by decide +kernel) ?_
  exact vx_ret (W.iret hx hb hret (fun t ht _ => ⟨some (.inl 171), rfl, rfl, by rw [ht]; exact hR', hS'.F ht⟩) hS'.2.2 (by decide +kernel) (hlocks := hlk))
theorem gs_j_pre {i n : Int32} {w : Value} (hw : w.category = 1) (h0 : ¬ i < 0) (h1 : i < n) : gs_JM l G (gs_St G av X) d gs_jy6 prog_32_method_11_code 3 (some .int) [.int i, .int n, w] m (some (.inl i)) := by
  refine gs_jbody (by decide +kernel) (by cases w <;> simp_all [lg_sl, Value.category] <;> cases hw) ?_
  intro p e s m₀ below meth c ls hC hs hRep hret hl
  have hC : gs_Cx p s m₀ _ meth c G _ _ "jdk/internal/util/Preconditions" (gs_us m) := hC
  obtain ⟨hx, hb, hml, hown, hgw, hK, hlk, hsz⟩ := id hC
  have hS : va_S (gs_A G) s.heap s.heap [] := va_S.rf
  have l0 := hl.2.2 (0, .int i) (by simp [lv_args])
  have l1 := hl.2.2 (1, .int n) (by simp [lv_args, Value.category])
  refine lv_iload_n hx hb (k := 0) (by decide +kernel) rfl l0 ?_
  refine lv_if_lt hx hb (tgt := 9) (off := 8) (by decide +kernel) (by decide) (fun h => absurd h h0) (fun _ => ?_)
  refine lv_iload_n hx hb (k := 0) (by decide +kernel) rfl l0 ?_
  refine lv_iload_n hx hb (k := 1) (by decide +kernel) rfl l1 ?_
  refine lv_icmp_lt hx hb (tgt := 16) (off := 10) (by decide +kernel) (by decide) (fun _ => ?_) (fun h => absurd h1 h)
  refine lv_iload_n hx hb (k := 0) (by decide +kernel) rfl l0 ?_
  exact vx_ret (W.iret hx hb hret (fun t ht _ => ⟨some (.inl i), rfl, rfl, by rw [ht]; exact hRep, hS.F ht⟩) hS.2.2 (by decide +kernel) (hlocks := hlk))
theorem gs_j_chk {i n : Int32} (h0 : ¬ i < 0) (h1 : i < n) : gs_JM l G (gs_St G av X) (d + 1) gs_jy5 prog_24_method_155_code 2 none [.int i, .int n] m none := by
  refine gs_jbody (by decide +kernel) (Nat.le_of_eq rfl) ?_
  intro p e s m₀ below meth c ls hC hs hRep hret hl
  have hC : gs_Cx p s m₀ _ meth c G _ _ "java/lang/String" (gs_us m) := hC
  obtain ⟨hx, hb, hml, hown, hgw, hK, hlk, hsz⟩ := id hC
  have hS : va_S (gs_A G) s.heap s.heap [] := va_S.rf
  have hs0 : gs_StS G av s := hs.2.2.2.2.2.2.2.2.1
  have l0 := hl.2.2 (0, .int i) (by simp [lv_args])
  have l1 := hl.2.2 (1, .int n) (by simp [lv_args, Value.category])
  have key : ∀ w : Value, w.category = 1 → va_Z "jdk/internal/util/Preconditions" "SIOOBE_FORMATTER" "Ljava/util/function/BiFunction;" w (gs_A G) s s.heap → W p l e (gs_Rj (d + 1)) s m₀ [Value.int i, .int n].toArray below meth c s.heap [] 0 0 (vx_MQ below (gs_Qc G (.inl none, m)) (gs_XC G (.inl none, m)) [Value.int i, .int n].toArray s 0 0 (gs_A G)) (F0 m₀ 0 ls []) := by
    intro w hw hZ
    refine lv_iload_n hx hb (k := 0) (by decide +kernel) rfl l0 ?_
    refine lv_iload_n hx hb (k := 1) (by decide +kernel) rfl l1 ?_
    refine va_gets hx hb hZ hS hown (hgw _ gs_jfd) (fun _ h => h) (by decide +kernel) ?_
    refine gs_jS (vs := [.int i, .int n, w]) (rest := []) (d := d) (n := 3) hC (gs_St_k G av X) hs gs_jg6 (by decide) (by decide +kernel) (by decide) ⟨Nat.le_refl _, Nat.le_refl _⟩ (gs_j_pre hw h0 h1) hRep hS hl.1 rfl (by decide) (by decide +kernel) ⟨Nat.zero_le _, Nat.zero_le _⟩ (gs_jz hC) (fun H' locs' hR' hS' => ?_)
    refine lv_pop hx hb (by decide +kernel) rfl ?_
    exact vx_ret (W.vret hx hb hret (fun t ht _ => ⟨none, rfl, rfl, by rw [ht]; exact hR', hS'.F ht⟩) hS'.2.2 (by decide +kernel) (hlocks := hlk))
  rcases hs0.2.2.2.2.2.2 with hZ | ⟨t, hZ⟩
  · exact key _ rfl hZ
  · exact key _ rfl hZ
theorem gs_wd_ok : ∀ j : Nat, j < 171 → ((gs_words.getD j 0 &&& 255).toUInt32 % 65536).toInt32 = gs_words.getD j 0 ∧ narrow .char (.int (gs_words.getD j 0)) = .int (gs_words.getD j 0) := by decide +kernel
theorem gs_j_l1 {i : Int32} (hi : vp_in i 171) : gs_JM l G (gs_St G av X) (d + 2) gs_jy4 prog_25_method_2_code 2 (some .char) [.ref av, .int i] m (some (.inl (gs_words.getD i.toNatClampNeg 0))) := by
  have h0 : ¬ i < 0 := fun h => hi (Or.inl h)
  have hlt : i.toNatClampNeg < 171 := Nat.not_le.mp fun q => hi (Or.inr q)
  have h1 : i < 171 := by
    rw [Int32.lt_iff_toInt_lt]
    have : (171 : Int32).toInt = 171 := by decide
    rw [this]
    have h9 : i.toInt.toNat < 171 := hlt
    omega
  refine gs_jbody (by decide +kernel) (Nat.le_of_eq rfl) ?_
  intro p e s m₀ below meth c ls hC hs hRep hret hl
  have hC : gs_Cx p s m₀ _ meth c G _ _ "java/lang/StringLatin1" (gs_us m) := hC
  obtain ⟨hx, hb, hml, hown, hgw, hK, hlk, hsz⟩ := id hC
  have hS : va_S (gs_A G) s.heap s.heap [] := va_S.rf
  have hs0 : gs_StS G av s := hs.2.2.2.2.2.2.2.2.1
  have l0 := hl.2.2 (0, .ref av) (by simp [lv_args])
  have l1 := hl.2.2 (1, .int i) (by simp [lv_args, Value.category])
  refine lv_iload_n hx hb (k := 1) (by decide +kernel) rfl l1 ?_
  refine lv_aload_n hx hb (k := 0) (by decide +kernel) rfl l0 ?_
  refine va_tlen hx hb hs0.2.2.2.2.1 hS (v := 171) rfl (by decide +kernel) ?_
  refine gs_jS (vs := [.int i, .int 171]) (rest := []) (d := d + 1) (n := 2) hC (gs_St_k G av X) hs gs_jg5 (by decide) (by decide +kernel) (by decide) ⟨Nat.le_refl _, Nat.le_refl _⟩ (gs_j_chk h0 h1) hRep hS hl.1 rfl (by decide) (by decide +kernel) ⟨Nat.zero_le _, Nat.zero_le _⟩ (gs_jz hC) (fun H' locs' hR' hS' => ?_)
  refine lv_aload_n hx hb (k := 0) (by decide +kernel) rfl l0 ?_
  refine lv_iload_n hx hb (k := 1) (by decide +kernel) rfl l1 ?_
  refine va_tb hx hb hs0.2.2.2.2.1 hS' hi rfl (by decide +kernel) ?_
  refine lv_sipush hx hb (n := 255) (v := 255) (by decide +kernel) rfl ?_
  refine lv_iand hx hb (by decide +kernel) ?_
  refine lv_i2c hx hb (v := gs_words.getD i.toNatClampNeg 0) (by decide +kernel) (gs_wd_ok _ hlt).1 ?_
  exact vx_ret (W.zret hx hb hret (gs_wd_ok _ hlt).2 (fun t ht _ => ⟨some (.inl (gs_words.getD i.toNatClampNeg 0)), rfl, rfl, by rw [ht]; exact hR', hS'.F ht⟩) hS'.2.2 (by decide +kernel) (hlocks := hlk))
theorem gs_j_chr {i : Int32} (hi : vp_in i 171) : gs_JM l G (gs_St G av X) (d + 3) gs_jy2 prog_24_method_56_code 2 (some .char) [.ref G.2.2.2.2.1, .int i] m (some (.inl (gs_words.getD i.toNatClampNeg 0))) := by
  have hlt : i.toNatClampNeg < 171 := Nat.not_le.mp fun q => hi (Or.inr q)
  refine gs_jbody (by decide +kernel) (Nat.le_of_eq rfl) ?_
  intro p e s m₀ below meth c ls hC hs hRep hret hl
  have hC : gs_Cx p s m₀ _ meth c G _ _ "java/lang/String" (gs_us m) := hC
  obtain ⟨hx, hb, hml, hown, hgw, hK, hlk, hsz⟩ := id hC
  have hS : va_S (gs_A G) s.heap s.heap [] := va_S.rf
  have hs0 : gs_StS G av s := hs.2.2.2.2.2.2.2.2.1
  have l0 := hl.2.2 (0, .ref G.2.2.2.2.1) (by simp [lv_args])
  have l1 := hl.2.2 (1, .int i) (by simp [lv_args, Value.category])
  refine lv_aload_n hx hb (k := 0) (by decide +kernel) rfl l0 ?_
  refine gs_jV (vs := []) (rest := []) (d := d + 2) (n := 0) hC (gs_St_k G av X) hs gs_jg3 (by decide) (by decide +kernel) (by decide) ⟨Nat.le_refl _, Nat.le_refl _⟩ gs_j_lat (by obtain ⟨cell, h1, h2, h3, -⟩ := hs0.2.1; exact ⟨cell, h1, h2, h3⟩) hRep hS hl.1 rfl (by decide) (by decide +kernel) ⟨Nat.zero_le _, Nat.zero_le _⟩ (gs_jz hC) (fun H' locs' hR' hS' => ?_)
  refine lv_if_eq hx hb (tgt := 16) (off := 12) (by decide +kernel) (by decide) (fun h => absurd h (by decide)) (fun _ => ?_)
  refine lv_aload_n hx hb (k := 0) (by decide +kernel) rfl l0 ?_
  refine vk_getf hx hb hs0.2.2.2.1 hS' hown (hgw _ gs_jfb) (fun _ h => h) (by decide +kernel) ?_
  refine lv_iload_n hx hb (k := 1) (by decide +kernel) rfl l1 ?_
  refine gs_jS (vs := [.ref av, .int i]) (rest := []) (d := d + 2) (n := 2) hC (gs_St_k G av X) hs gs_jg4 (by decide) (by decide +kernel) (by decide) ⟨Nat.le_refl _, Nat.le_refl _⟩ (gs_j_l1 hi) hR' hS' hl.1 rfl (by decide) (by decide +kernel) ⟨Nat.zero_le _, Nat.zero_le _⟩ (gs_jz hC) (fun H2 locs2 hR2 hS2 => ?_)
  exact vx_ret (W.zret hx hb hret (gs_wd_ok _ hlt).2 (fun t ht _ => ⟨some (.inl (gs_words.getD i.toNatClampNeg 0)), rfl, rfl, by rw [ht]; exact hR2, hS2.F ht⟩) hS2.2.2 (by decide +kernel) (hlocks := hlk))
end GJC
section GJD
variable {p : Program} {l : Launch} {e : Env} {R : Room} {s : State} {m₀ : MethodId} {args : Array Value} {below : List Frame} {meth : Method} {c : Code} {G : gs_G} {cc : ByteArray} {nL u0 z0 o : Nat} {r : gs_R × gs_M} {go : gs_Go} {pc idx : Nat} {is : List gs_N} {lo : gs_L} {st : List gs_V} {m : gs_M} {av : Nat} {X : gs_E}
theorem gs_jz2 (hC : gs_Cx p s m₀ args meth c G cc nL RX9 u0) (hu : u0 ≤ gs_us m) {H : Heap} {locs : List Loc} {slots : Nat} : ∀ T : State, T.heap = H → Stand p l e R s m₀ args below meth c T locs (gs_us m - u0) slots → H.size ≤ G.1 + gs_us m := by
  intro T hT X
  have h1 := X.heapSize
  rw [hT] at h1
  have h2 := hC.2.2.2.2.2.2.2.2
  omega
theorem gs_hh_len (hC : gs_Cx p s m₀ args meth c G cc nL RX9 u0) (hs : gs_St G av X s) (hR0 : R.cells = gs_us r.2 - u0 ∧ R.slots = r.2.1.2.2 - z0) (hRd : 13 ≤ R.frames ∧ 780 ≤ R.locals) (hd : decode cc pc = .ok (.invokevirtual 21, 3)) (h8 : gs_cs st ≤ 8)
    (hgo : ∀ (lo' : gs_L) (st' : List gs_V) (m' : gs_M), go (pc + 3) is lo' st' m' = some r → gs_Tg p l e R s m₀ args below meth c G nL u0 z0 r (pc + 3) lo' st' m')
    (h : go (pc + 3) is lo (.inl 171 :: st) m = some r) : gs_Tg p l e R s m₀ args below meth c G nL u0 z0 r pc lo (.inr (.inr 100001) :: st) m := by
  have hT := hgo _ _ _ h
  have hs0 : gs_StS G av s := hs.2.2.2.2.2.2.2.2.1
  refine ⟨hT.1, fun hu hz H locs ls hR hS hl => ?_⟩
  have hu2 := hT.1.1
  have hz2 := hT.1.2
  refine gs_jV (vs := []) (rest := st.map (gs_cv G)) (b := G.2.2.2.2.1) (d := 8) (n := 0) hC (gs_St_k G av X) hs gs_jg0 (by decide) (by decide +kernel) (by decide) ⟨by omega, by omega⟩ (gs_j_len (d := 7)) ?_ hR hS hl.1 rfl (by rw [gs_cs_sum]; exact h8) hd ⟨by rw [hR0.1]; omega, by rw [hR0.2]; omega⟩ (gs_jz2 hC hu) (fun H' locs' hR' hS' => hT.2 hu hz H' locs' ls hR' hS' hl)
  obtain ⟨cell, h1, h2, h3, -⟩ := hs0.2.1.kept hS.2.1
  exact ⟨cell, h1, h2, h3⟩
theorem gs_hh_chr (hC : gs_Cx p s m₀ args meth c G cc nL RX9 u0) (hs : gs_St G av X s) (hR0 : R.cells = gs_us r.2 - u0 ∧ R.slots = r.2.1.2.2 - z0) (hRd : 13 ≤ R.frames ∧ 780 ≤ R.locals) (hd : decode cc pc = .ok (.invokevirtual 27, 3)) (h8 : gs_cs st ≤ 8) {j : Int32} (hj : vp_in j 171)
    (hgo : ∀ (lo' : gs_L) (st' : List gs_V) (m' : gs_M), go (pc + 3) is lo' st' m' = some r → gs_Tg p l e R s m₀ args below meth c G nL u0 z0 r (pc + 3) lo' st' m')
    (h : go (pc + 3) is lo (.inl (gs_words.getD j.toNatClampNeg 0) :: st) m = some r) : gs_Tg p l e R s m₀ args below meth c G nL u0 z0 r pc lo (.inl j :: .inr (.inr 100001) :: st) m := by
  have hT := hgo _ _ _ h
  have hs0 : gs_StS G av s := hs.2.2.2.2.2.2.2.2.1
  refine ⟨hT.1, fun hu hz H locs ls hR hS hl => ?_⟩
  have hu2 := hT.1.1
  have hz2 := hT.1.2
  refine gs_jV (vs := [.int j]) (rest := st.map (gs_cv G)) (b := G.2.2.2.2.1) (d := 8) (n := 1) hC (gs_St_k G av X) hs gs_jg2 (by decide) (by decide +kernel) (by decide) ⟨by omega, by omega⟩ (gs_j_chr (d := 5) hj) ?_ hR hS hl.1 rfl (by rw [gs_cs_sum]; exact h8) hd ⟨by rw [hR0.1]; omega, by rw [hR0.2]; omega⟩ (gs_jz2 hC hu) (fun H' locs' hR' hS' => hT.2 hu hz H' locs' ls hR' hS' hl)
  obtain ⟨cell, h1, h2, h3, -⟩ := hs0.2.1.kept hS.2.1
  exact ⟨cell, h1, h2, h3⟩
end GJD
