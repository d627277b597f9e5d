def gs_dn (cc : ByteArray) (pc nx : Nat) (i : Instr) (L : Nat) : Bool := decide (decode cc pc = .ok (i, L)) && decide (nx = pc + L)
def gs_cj (v : gs_V) (f : Int64 → Bool) : Bool := match v with
  | .inr (.inl x) => f x
  | _ => false
def gs_ci32 (v : gs_V) (f : Int32 → Bool) : Bool := match v with
  | .inl x => f x
  | _ => false
def gs_tc (pc d : Nat) (sw : List (Int32 × Nat)) : Int → List Int → Bool
  | _, [] => true
  | low, o :: os => decide ((pc : Int) + o = (gs_swl sw (Int32.ofInt low) d : Int)) && gs_tc pc d sw (low + 1) os
theorem gs_tc_ok {pc d : Nat} {sw : List (Int32 × Nat)} : ∀ (os : List Int) (low : Int), gs_tc pc d sw low os = true → ∀ {n : Nat}, n < os.length → ∃ off, os[n]? = some off ∧ (pc : Int) + off = (gs_swl sw (Int32.ofInt (low + n)) d : Int)
  | [], _, _, n, hn => absurd hn (Nat.not_lt_zero n)
  | o :: os, low, h, 0, _ => by
    simp only [gs_tc, Bool.and_eq_true, decide_eq_true_eq] at h
    exact ⟨o, rfl, by simpa using h.1⟩
  | o :: os, low, h, n + 1, hn => by
    simp only [gs_tc, Bool.and_eq_true, decide_eq_true_eq] at h
    obtain ⟨off, h1, h2⟩ := gs_tc_ok os (low + 1) h.2 (n := n) (by simpa using hn)
    refine ⟨off, by simpa using h1, ?_⟩
    have e : low + 1 + (n : Int) = low + ((n + 1 : Nat) : Int) := by omega
    rw [← e]
    exact h2
theorem gs_swl_out {x : Int32} {d : Nat} : ∀ (sw : List (Int32 × Nat)), (∀ q ∈ sw, x = q.1 → False) → gs_swl sw x d = d
  | [], _ => rfl
  | q :: t, h => by
    unfold gs_swl
    rw [if_neg (fun e => h q List.mem_cons_self e)]
    exact gs_swl_out t (fun z hz => h z (List.mem_cons_of_mem _ hz))
def gs_lc (pc : Nat) : List (Int × Int) → List (Int32 × Nat) → Bool
  | [], [] => true
  | a :: as, q :: qs => decide (q.1.toInt = a.1) && decide ((pc : Int) + a.2 = (q.2 : Int)) && gs_lc pc as qs
  | _, _ => false
theorem gs_lc_ok {pc d : Nat} {df : Int} (hd : (pc : Int) + df = (d : Int)) : ∀ (ps : List (Int × Int)) (sw : List (Int32 × Nat)), gs_lc pc ps sw = true → ∀ x : Int32, (pc : Int) + Op.lookupswitch.offset ps df x.toInt = (gs_swl sw x d : Int)
  | [], [], _, x => hd
  | a :: as, q :: qs, h, x => by
    simp only [gs_lc, Bool.and_eq_true, decide_eq_true_eq] at h
    obtain ⟨⟨h1, h2⟩, h3⟩ := h
    unfold gs_swl
    by_cases hx : x = q.1
    · rw [if_pos hx, ← h2, hx]
      obtain ⟨a1, a2⟩ := a
      rw [Op.lookupswitch.offset_cons]
      have h1 : q.1.toInt = a1 := h1
      rw [if_pos (by first | exact h1.symm | exact h1)]
    · rw [if_neg hx, ← gs_lc_ok hd as qs h3 x]
      obtain ⟨a1, a2⟩ := a
      rw [lv_osw hx h1]
  | [], _ :: _, h, _ => by simp [gs_lc] at h
  | _ :: _, [], h, _ => by simp [gs_lc] at h
theorem gs_sR_lt {m : gs_M} {a j x : Nat} (h1 : m.1.1 ≤ 153) (h2 : ∀ a j b : Nat, m.2.2.2 a j = some b → gs_rk b < 153) (hx : gs_rk x < m.1.1) : ∀ b i k : Nat, (gs_sR m a j x).2.2.2 b i = some k → gs_rk k < 153 := by
  intro b i k h
  have h : gs_up2 m.2.2.2 a j (some x) b i = some k := h
  unfold gs_up2 at h
  split at h
  · split at h
    · cases h
      omega
    · exact h2 _ _ _ h
  · exact h2 _ _ _ h
theorem gs_nI {ty : FieldType} {x : Int32} (h : gs_cod 0 ty = true) : narrow ty (.int x) = .int x := by cases ty <;> first | rfl | cases h
theorem gs_fI {ty : FieldType} {x : Int32} (h : gs_cod 0 ty = true) : fits ty (.int x) = true := by cases ty <;> first | rfl | cases h
theorem gs_nJ {ty : FieldType} {x : Int64} (h : gs_cod 1 ty = true) : narrow ty (.long x) = .long x := by cases ty <;> first | rfl | cases h
theorem gs_fJ {ty : FieldType} {x : Int64} (h : gs_cod 1 ty = true) : fits ty (.long x) = true := by cases ty <;> first | rfl | cases h
theorem gs_nR {ty : FieldType} {x : Nat} (h : gs_cod 2 ty = true) : narrow ty (.ref x) = .ref x := by cases ty <;> first | rfl | cases h
theorem gs_fR {ty : FieldType} {x : Nat} (h : gs_cod 2 ty = true) : fits ty (.ref x) = true := by cases ty <;> first | rfl | cases h
theorem gs_nB {ty : FieldType} {x : Int32} (h : gs_cod 3 ty = true) (hx : x = 0 ∨ x = 1) : narrow ty (.int x) = .int x := by cases ty <;> first | (rcases hx with rfl | rfl <;> rfl) | cases h
theorem gs_fB {ty : FieldType} {x : Int32} (h : gs_cod 3 ty = true) (hx : x = 0 ∨ x = 1) : fits ty (.int x) = true := by cases ty <;> first | (rcases hx with rfl | rfl <;> rfl) | cases h
/-- 0 int, 1 boolean, 2 long, 3 nothing, 4 a tale -/
def gs_rt (rb : Nat) : Option FieldType := match rb with
  | 0 => some .int
  | 1 => some .boolean
  | 2 => some .long
  | 4 => some (.object "GuestStars$Tale")
  | _ => none
def gs_hard (ins : gs_N) : Bool := match ins with
  | (i, _, a1, _) => match i with
    | .ldc _ => Nat.beq a1 1
    | .ldc_w _ => Nat.beq a1 1
    | .iaload => !(Nat.beq a1 0)
    | .laload => !(Nat.beq a1 0)
    | .arraylength => !(Nat.beq a1 0)
    | .aastore => true
    | .getstatic _ => true
    | .newarray _ => true
    | .anewarray _ => true
    | .new _ => true
    | .invokevirtual _ => true
    | .invokestatic _ => true
    | .invokespecial _ => true
    | _ => false
/-- an instruction as the code has it, its numbers as the tables have them -/
def gs_ci (o nL : Nat) (cc : ByteArray) (rb : Nat) (ini : Bool) (pc : Nat) (ins : gs_N) : Bool := match ins with
  | (i, nx, a1, a2, a3, a4, cv, sw) => match i with
  | .iconst n => gs_dn cc pc nx (.iconst n) 1 && decide (cv = .inl (Int32.ofInt n))
  | .bipush n => gs_dn cc pc nx (.bipush n) 2 && decide (cv = .inl ((Int8.ofInt n).toInt32))
  | .sipush n => gs_dn cc pc nx (.sipush n) 3 && decide (cv = .inl ((Int16.ofInt n).toInt32))
  | .lconst n => gs_dn cc pc nx (.lconst n) 1 && decide (cv = .inr (.inl (Int64.ofNat (n : Nat))))
  | .ldc2_w n => gs_dn cc pc nx (.ldc2_w n) 3 && gs_cj cv (fun x => decide ((o, n, x) ∈ gs_c64))
  | .ldc n => gs_dn cc pc nx (.ldc n) 2 && (Nat.beq a1 1 || (Nat.beq a1 0 && gs_ci32 cv (fun x => decide ((o, n, x) ∈ gs_c32))))
  | .ldc_w n => gs_dn cc pc nx (.ldc_w n) 3 && (Nat.beq a1 1 || (Nat.beq a1 0 && gs_ci32 cv (fun x => decide ((o, n, x) ∈ gs_c32))))
  | .iload n => gs_dn cc pc nx (.iload n) 2 && decide (a1 = n)
  | .iload_n n => gs_dn cc pc nx (.iload_n n) 1 && decide (a1 = (n : Nat))
  | .lload n => gs_dn cc pc nx (.lload n) 2 && decide (a1 = n)
  | .lload_n n => gs_dn cc pc nx (.lload_n n) 1 && decide (a1 = (n : Nat))
  | .aload n => gs_dn cc pc nx (.aload n) 2 && decide (a1 = n)
  | .aload_n n => gs_dn cc pc nx (.aload_n n) 1 && decide (a1 = (n : Nat))
  | .istore n => gs_dn cc pc nx (.istore n) 2 && decide (a1 = n) && decide (a1 < nL)
  | .istore_n n => gs_dn cc pc nx (.istore_n n) 1 && decide (a1 = (n : Nat)) && decide (a1 < nL)
  | .lstore n => gs_dn cc pc nx (.lstore n) 2 && decide (a1 = n) && decide (a1 + 1 < nL)
  | .lstore_n n => gs_dn cc pc nx (.lstore_n n) 1 && decide (a1 = (n : Nat)) && decide (a1 + 1 < nL)
  | .astore n => gs_dn cc pc nx (.astore n) 2 && decide (a1 = n) && decide (a1 < nL)
  | .astore_n n => gs_dn cc pc nx (.astore_n n) 1 && decide (a1 = (n : Nat)) && decide (a1 < nL)
  | .iinc n d => gs_dn cc pc nx (.iinc n d) 3 && decide (a1 = n) && decide (a1 < nL) && decide (cv = .inl (Int32.ofInt d))
  | .iadd => gs_dn cc pc nx (.iadd) 1
  | .isub => gs_dn cc pc nx (.isub) 1
  | .imul => gs_dn cc pc nx (.imul) 1
  | .iand => gs_dn cc pc nx (.iand) 1
  | .ior => gs_dn cc pc nx (.ior) 1
  | .ixor => gs_dn cc pc nx (.ixor) 1
  | .ishl => gs_dn cc pc nx (.ishl) 1
  | .ishr => gs_dn cc pc nx (.ishr) 1
  | .iushr => gs_dn cc pc nx (.iushr) 1
  | .idiv => gs_dn cc pc nx (.idiv) 1
  | .irem => gs_dn cc pc nx (.irem) 1
  | .ineg => gs_dn cc pc nx (.ineg) 1
  | .ladd => gs_dn cc pc nx (.ladd) 1
  | .lsub => gs_dn cc pc nx (.lsub) 1
  | .lmul => gs_dn cc pc nx (.lmul) 1
  | .land => gs_dn cc pc nx (.land) 1
  | .ldiv => gs_dn cc pc nx (.ldiv) 1
  | .lrem => gs_dn cc pc nx (.lrem) 1
  | .lneg => gs_dn cc pc nx (.lneg) 1
  | .i2l => gs_dn cc pc nx (.i2l) 1
  | .l2i => gs_dn cc pc nx (.l2i) 1
  | .i2b => gs_dn cc pc nx (.i2b) 1
  | .lcmp => gs_dn cc pc nx (.lcmp) 1
  | .dup => gs_dn cc pc nx (.dup) 1
  | .dup2 => gs_dn cc pc nx (.dup2) 1
  | .ifCond cn off => gs_dn cc pc nx (.ifCond cn off) 3 && decide ((pc : Int) + off = (a1 : Int))
  | .if_icmp cn off => gs_dn cc pc nx (.if_icmp cn off) 3 && decide ((pc : Int) + off = (a1 : Int))
  | .goto off => decide (decode cc pc = .ok (.goto off, 3)) && decide ((pc : Int) + off = (a1 : Int))
  | .tableswitch d low hi offs => decide (decode cc pc = .ok (.tableswitch d low hi offs, a2)) && decide ((pc : Int) + d = (a1 : Int)) && gs_tc pc a1 sw low offs.toList && decide (low + offs.toList.length = hi + 1) && decide (-2147483648 ≤ low) && decide (hi < 2147483648) && sw.all (fun q => decide (low ≤ q.1.toInt) && decide (q.1.toInt ≤ hi))
  | .lookupswitch d ps => decide (decode cc pc = .ok (.lookupswitch d ps, a2)) && decide ((pc : Int) + d = (a1 : Int)) && gs_lc pc ps.toList sw && (ps.toList.zip (ps.toList.drop 1)).all (fun (a, next) => a.1 < next.1)
  | .getfield idx => gs_dn cc pc nx (.getfield idx) 3 && decide ((o, idx, a1, a2) ∈ gs_fl) && decide (a1 < 12) && decide ((gs_ftab.getD a1 [])[a2]? = some a3) && Nat.ble a3 3
  | .putfield idx => gs_dn cc pc nx (.putfield idx) 3 && decide ((o, idx, a1, a2) ∈ gs_fl) && decide (a1 < 12) && decide ((gs_ftab.getD a1 [])[a2]? = some a3) && Nat.ble a3 3 && (!((gs_cl? a1).2.1 a2).2.2.2 || (ini && decide (((gs_cl? a1).2.1 a2).1 = gs_own o)))
  | .baload => gs_dn cc pc nx (.baload) 1
  | .iaload => gs_dn cc pc nx (.iaload) 1
  | .laload => gs_dn cc pc nx (.laload) 1
  | .aaload => gs_dn cc pc nx (.aaload) 1
  | .iastore => gs_dn cc pc nx (.iastore) 1
  | .bastore => gs_dn cc pc nx (.bastore) 1
  | .lastore => gs_dn cc pc nx (.lastore) 1
  | .arraylength => gs_dn cc pc nx (.arraylength) 1
  | .ireturn => decide (decode cc pc = .ok (.ireturn, 1)) && decide (a1 = rb) && Nat.ble rb 1
  | .lreturn => decide (decode cc pc = .ok (.lreturn, 1)) && decide (rb = 2)
  | .areturn => decide (decode cc pc = .ok (.areturn, 1)) && decide (rb = 4)
  | .return_ => decide (decode cc pc = .ok (.return_, 1)) && decide (rb = 3)
  | _ => gs_hard ins
section GSS
variable {p : Program} {l : Launch} {e : Env} {R : Room} {s : State} {m₀ : MethodId} {args : Array Value} {below : List Frame} {meth : Method} {c : Code} {G : gs_G} {cc : ByteArray} {nL u0 z0 : Nat} {r : gs_R × gs_M}
set_option maxHeartbeats 4000000 in
theorem gs_step_ok {X : gs_E} {C : Nat → List gs_V → gs_M → gs_O} {hs : List (Nat × Nat × Nat × Nat × Nat × Nat × Nat)} {go : gs_Go} {pc : Nat} {is : List gs_N} {lo : gs_L} {st : List gs_V} {m : gs_M} {o rb : Nat} {ini : Bool}
    (hC : gs_Cx p s m₀ args meth c G cc nL (gs_own o) u0) (hin : ini = true → meth.name = "<init>") (hrt : meth.sig.returnType = gs_rt rb)
    {ok : Nat → List gs_N → Prop} (hok0 : ∀ q : Nat, ok q [])
    (hgo : ∀ (pc' : Nat) (is' : List gs_N) (lo' : gs_L) (st' : List gs_V) (m' : gs_M), ok pc' is' → go pc' is' lo' st' m' = some r → gs_Tg p l e R s m₀ args below meth c G nL u0 z0 r pc' lo' st' m')
    (ins : gs_N) (hck : gs_ci o nL cc rb ini pc ins = true) (his : ok ins.2.1 is)
    (hard : gs_hard ins = true → gs_Tg p l e R s m₀ args below meth c G nL u0 z0 r pc lo st m)
    (h : gs_step X C hs go pc ins is lo st m = some r) : gs_Tg p l e R s m₀ args below meth c G nL u0 z0 r pc lo st m := by
  obtain ⟨hx, hb, hml, hown, hgw, hK, hlk, hsz⟩ := id hC
  obtain ⟨i, nx, a1, a2, a3, a4, cv, sw⟩ := ins
  have his : ok nx is := his
  cases i with
  | iconst n =>
    simp only [gs_ci, gs_dn, Bool.and_eq_true, decide_eq_true_eq] at hck
    obtain ⟨⟨hd, hn⟩, hv⟩ := hck
    subst hn
    have h : gs_cI cv (fun x => go (pc + 1) is lo (.inl x :: st) m) = some r := h
    obtain ⟨x, hx1, h⟩ := gs_cI_ok h
    rw [hx1] at hv
    exact gs_mv (hgo _ _ _ _ _ his h) (fun H locs cells slots Q ls hl k => lv_iconst hx hb hd (Sum.inl.inj hv).symm k)
  | bipush n =>
    simp only [gs_ci, gs_dn, Bool.and_eq_true, decide_eq_true_eq] at hck
    obtain ⟨⟨hd, hn⟩, hv⟩ := hck
    subst hn
    have h : gs_cI cv (fun x => go (pc + 2) is lo (.inl x :: st) m) = some r := h
    obtain ⟨x, hx1, h⟩ := gs_cI_ok h
    rw [hx1] at hv
    exact gs_mv (hgo _ _ _ _ _ his h) (fun H locs cells slots Q ls hl k => lv_bipush hx hb hd (Sum.inl.inj hv).symm k)
  | sipush n =>
    simp only [gs_ci, gs_dn, Bool.and_eq_true, decide_eq_true_eq] at hck
    obtain ⟨⟨hd, hn⟩, hv⟩ := hck
    subst hn
    have h : gs_cI cv (fun x => go (pc + 3) is lo (.inl x :: st) m) = some r := h
    obtain ⟨x, hx1, h⟩ := gs_cI_ok h
    rw [hx1] at hv
    exact gs_mv (hgo _ _ _ _ _ his h) (fun H locs cells slots Q ls hl k => lv_sipush hx hb hd (Sum.inl.inj hv).symm k)
  | lconst n =>
    simp only [gs_ci, gs_dn, Bool.and_eq_true, decide_eq_true_eq] at hck
    obtain ⟨⟨hd, hn⟩, hv⟩ := hck
    subst hn
    have h : gs_cJ cv (fun x => go (pc + 1) is lo (.inr (.inl x) :: st) m) = some r := h
    obtain ⟨x, hx1, h⟩ := gs_cJ_ok h
    rw [hx1] at hv
    exact gs_mv (hgo _ _ _ _ _ his h) (fun H locs cells slots Q ls hl k => lv_lconst hx hb hd (Sum.inl.inj (Sum.inr.inj hv)).symm k)
  | ldc2_w n =>
    simp only [gs_ci, gs_dn, Bool.and_eq_true, decide_eq_true_eq] at hck
    obtain ⟨⟨hd, hn⟩, hv⟩ := hck
    have h : gs_cJ cv (fun x => go nx is lo (.inr (.inl x) :: st) m) = some r := h
    obtain ⟨x, hx1, h⟩ := gs_cJ_ok h
    subst hx1
    have hv : (o, n, x) ∈ gs_c64 := of_decide_eq_true hv
    subst hn
    exact gs_mv (hgo _ _ _ _ _ his h) (fun H locs cells slots Q ls hl k => lv_ldc2 hx hb hown (hgw _ (gs_c64_ok hv)) hd k)
  | ldc n =>
    simp only [gs_ci, gs_dn, Bool.and_eq_true, decide_eq_true_eq] at hck
    obtain ⟨⟨hd, hn⟩, hv⟩ := hck
    match a1, hv, h, hard with
    | 0, hv, h, hard =>
      have h : gs_cI cv (fun x => go nx is lo (.inl x :: st) m) = some r := h
      obtain ⟨x, hx1, h⟩ := gs_cI_ok h
      subst hx1
      have hv : (o, n, x) ∈ gs_c32 := of_decide_eq_true (by simpa [gs_ci32] using hv)
      subst hn
      exact gs_mv (hgo _ _ _ _ _ his h) (fun H locs cells slots Q ls hl k => lv_ldc hx hb hown (hgw _ (gs_c32_ok hv)) hd k)
    | 1, hv, h, hard => exact hard rfl
    | q + 2, hv, h, hard => simp at hv
  | ldc_w n =>
    simp only [gs_ci, gs_dn, Bool.and_eq_true, decide_eq_true_eq] at hck
    obtain ⟨⟨hd, hn⟩, hv⟩ := hck
    match a1, hv, h, hard with
    | 0, hv, h, hard =>
      have h : gs_cI cv (fun x => go nx is lo (.inl x :: st) m) = some r := h
      obtain ⟨x, hx1, h⟩ := gs_cI_ok h
      subst hx1
      have hv : (o, n, x) ∈ gs_c32 := of_decide_eq_true (by simpa [gs_ci32] using hv)
      subst hn
      exact gs_mv (hgo _ _ _ _ _ his h) (fun H locs cells slots Q ls hl k => lv_ldcw hx hb hown (hgw _ (gs_c32_ok hv)) hd k)
    | 1, hv, h, hard => exact hard rfl
    | q + 2, hv, h, hard => simp at hv
  | iload n =>
    simp only [gs_ci, gs_dn, Bool.and_eq_true, decide_eq_true_eq] at hck
    obtain ⟨⟨hd, hn⟩, rfl⟩ := hck
    subst hn
    have h : gs_lI lo _ (fun x => go (pc + 2) is lo (.inl x :: st) m) = some r := h
    obtain ⟨x, hx1, h⟩ := gs_lI_ok h
    exact gs_mv (hgo _ _ _ _ _ his h) (fun H locs cells slots Q ls hl k => lv_iload hx hb hd (gs_lv hl hx1) k)
  | iload_n n =>
    simp only [gs_ci, gs_dn, Bool.and_eq_true, decide_eq_true_eq] at hck
    obtain ⟨⟨hd, hn⟩, rfl⟩ := hck
    subst hn
    have h : gs_lI lo _ (fun x => go (pc + 1) is lo (.inl x :: st) m) = some r := h
    obtain ⟨x, hx1, h⟩ := gs_lI_ok h
    exact gs_mv (hgo _ _ _ _ _ his h) (fun H locs cells slots Q ls hl k => lv_iload_n hx hb hd rfl (gs_lv hl hx1) k)
  | lload n =>
    simp only [gs_ci, gs_dn, Bool.and_eq_true, decide_eq_true_eq] at hck
    obtain ⟨⟨hd, hn⟩, rfl⟩ := hck
    subst hn
    have h : gs_lJ lo _ (fun x => go (pc + 2) is lo (.inr (.inl x) :: st) m) = some r := h
    obtain ⟨x, hx1, h⟩ := gs_lJ_ok h
    exact gs_mv (hgo _ _ _ _ _ his h) (fun H locs cells slots Q ls hl k => lv_lload hx hb hd (gs_lv hl hx1) k)
  | lload_n n =>
    simp only [gs_ci, gs_dn, Bool.and_eq_true, decide_eq_true_eq] at hck
    obtain ⟨⟨hd, hn⟩, rfl⟩ := hck
    subst hn
    have h : gs_lJ lo _ (fun x => go (pc + 1) is lo (.inr (.inl x) :: st) m) = some r := h
    obtain ⟨x, hx1, h⟩ := gs_lJ_ok h
    exact gs_mv (hgo _ _ _ _ _ his h) (fun H locs cells slots Q ls hl k => lv_lload_n hx hb hd rfl (gs_lv hl hx1) k)
  | aload n =>
    simp only [gs_ci, gs_dn, Bool.and_eq_true, decide_eq_true_eq] at hck
    obtain ⟨⟨hd, hn⟩, rfl⟩ := hck
    subst hn
    have h : gs_lA lo _ (fun x => go (pc + 2) is lo (.inr (.inr x) :: st) m) = some r := h
    obtain ⟨x, hx1, h⟩ := gs_lA_ok h
    exact gs_mv (hgo _ _ _ _ _ his h) (fun H locs cells slots Q ls hl k => lv_aload hx hb hd (gs_lv hl hx1) k)
  | aload_n n =>
    simp only [gs_ci, gs_dn, Bool.and_eq_true, decide_eq_true_eq] at hck
    obtain ⟨⟨hd, hn⟩, rfl⟩ := hck
    subst hn
    have h : gs_lA lo _ (fun x => go (pc + 1) is lo (.inr (.inr x) :: st) m) = some r := h
    obtain ⟨x, hx1, h⟩ := gs_lA_ok h
    exact gs_mv (hgo _ _ _ _ _ his h) (fun H locs cells slots Q ls hl k => lv_aload_n hx hb hd rfl (gs_lv hl hx1) k)
  | istore n =>
    simp only [gs_ci, gs_dn, Bool.and_eq_true, decide_eq_true_eq] at hck
    obtain ⟨⟨⟨hd, rfl⟩, rfl⟩, hlt⟩ := hck
    have h : gs_i1 st (fun x st => go _ is (gs_st1 lo _ (.inl x)) st m) = some r := h
    obtain ⟨x, st, rfl, h⟩ := gs_i1_ok h
    exact gs_mvL (hgo _ _ _ _ _ his h) (fun H locs cells slots Q ls hl k => lv_istore (x := x) hx hb hd hl hlt rfl (fun ls' hl' => k ls' (gs_lvs hl' gs_st1_sub)))
  | istore_n n =>
    simp only [gs_ci, gs_dn, Bool.and_eq_true, decide_eq_true_eq] at hck
    obtain ⟨⟨⟨hd, rfl⟩, rfl⟩, hlt⟩ := hck
    have h : gs_i1 st (fun x st => go _ is (gs_st1 lo _ (.inl x)) st m) = some r := h
    obtain ⟨x, st, rfl, h⟩ := gs_i1_ok h
    exact gs_mvL (hgo _ _ _ _ _ his h) (fun H locs cells slots Q ls hl k => lv_istore_n (x := x) hx hb hd rfl hl hlt rfl (fun ls' hl' => k ls' (gs_lvs hl' gs_st1_sub)))
  | lstore n =>
    simp only [gs_ci, gs_dn, Bool.and_eq_true, decide_eq_true_eq] at hck
    obtain ⟨⟨⟨hd, rfl⟩, rfl⟩, hlt⟩ := hck
    have h : gs_j1 st (fun x st => go _ is (gs_st2 lo _ (.inr (.inl x))) st m) = some r := h
    obtain ⟨x, st, rfl, h⟩ := gs_j1_ok h
    exact gs_mvL (hgo _ _ _ _ _ his h) (fun H locs cells slots Q ls hl k => lv_lstore (x := x) hx hb hd hl hlt rfl (fun ls' hl' => k ls' (gs_lvs hl' gs_st2_sub)))
  | lstore_n n =>
    simp only [gs_ci, gs_dn, Bool.and_eq_true, decide_eq_true_eq] at hck
    obtain ⟨⟨⟨hd, rfl⟩, rfl⟩, hlt⟩ := hck
    have h : gs_j1 st (fun x st => go _ is (gs_st2 lo _ (.inr (.inl x))) st m) = some r := h
    obtain ⟨x, st, rfl, h⟩ := gs_j1_ok h
    exact gs_mvL (hgo _ _ _ _ _ his h) (fun H locs cells slots Q ls hl k => lv_lstore_n (x := x) hx hb hd rfl hl hlt rfl (fun ls' hl' => k ls' (gs_lvs hl' gs_st2_sub)))
  | astore n =>
    simp only [gs_ci, gs_dn, Bool.and_eq_true, decide_eq_true_eq] at hck
    obtain ⟨⟨⟨hd, rfl⟩, rfl⟩, hlt⟩ := hck
    have h : gs_a1 st (fun x st => go _ is (gs_st1 lo _ (.inr (.inr x))) st m) = some r := h
    obtain ⟨x, st, rfl, h⟩ := gs_a1_ok h
    exact gs_mvL (hgo _ _ _ _ _ his h) (fun H locs cells slots Q ls hl k => lv_astore (x := gs_ad G x) hx hb hd hl hlt rfl (fun ls' hl' => k ls' (gs_lvs hl' gs_st1_sub)))
  | astore_n n =>
    simp only [gs_ci, gs_dn, Bool.and_eq_true, decide_eq_true_eq] at hck
    obtain ⟨⟨⟨hd, rfl⟩, rfl⟩, hlt⟩ := hck
    have h : gs_a1 st (fun x st => go _ is (gs_st1 lo _ (.inr (.inr x))) st m) = some r := h
    obtain ⟨x, st, rfl, h⟩ := gs_a1_ok h
    exact gs_mvL (hgo _ _ _ _ _ his h) (fun H locs cells slots Q ls hl k => lv_astore_n (x := gs_ad G x) hx hb hd rfl hl hlt rfl (fun ls' hl' => k ls' (gs_lvs hl' gs_st1_sub)))
  | iinc n d =>
    simp only [gs_ci, gs_dn, Bool.and_eq_true, decide_eq_true_eq] at hck
    obtain ⟨⟨⟨⟨hd, rfl⟩, rfl⟩, hlt⟩, hv⟩ := hck
    have h : gs_lI lo _ (fun x => gs_cI cv (fun y => go _ is (gs_st1 lo _ (.inl (x + y))) st m)) = some r := h
    obtain ⟨x, hx1, h⟩ := gs_lI_ok h
    obtain ⟨y, hy1, h⟩ := gs_cI_ok h
    rw [hy1] at hv
    have hy : Int32.ofInt d = y := (Sum.inl.inj hv).symm
    have hm : (_, Value.int x) ∈ gs_cl G lo := List.mem_map.mpr ⟨(_, .inl x), gs_lk_mem hx1, rfl⟩
    obtain ⟨kk, hkk⟩ := List.getElem?_of_mem hm
    exact gs_mvL (hgo _ _ _ _ _ his h) (fun H locs cells slots Q ls hl k => lv_iinc (k := kk) (v := x + y) hx hb hd hl hkk (by rw [hy]) hlt rfl (fun ls' hl' => k ls' (gs_lvs hl' gs_st1_sub)))
  | iadd =>
    simp only [gs_ci, gs_dn, Bool.and_eq_true, decide_eq_true_eq] at hck
    obtain ⟨hd, hn⟩ := hck
    subst hn
    have h : gs_i2 st (fun x y st => go (pc + 1) is lo (.inl (x + y) :: st) m) = some r := h
    obtain ⟨x, y, st, rfl, h⟩ := gs_i2_ok h
    exact gs_mv (hgo _ _ _ _ _ his h) (fun H locs cells slots Q ls hl k => lv_iadd hx hb hd k)
  | isub =>
    simp only [gs_ci, gs_dn, Bool.and_eq_true, decide_eq_true_eq] at hck
    obtain ⟨hd, hn⟩ := hck
    subst hn
    have h : gs_i2 st (fun x y st => go (pc + 1) is lo (.inl (x - y) :: st) m) = some r := h
    obtain ⟨x, y, st, rfl, h⟩ := gs_i2_ok h
    exact gs_mv (hgo _ _ _ _ _ his h) (fun H locs cells slots Q ls hl k => lv_isub hx hb hd k)
  | imul =>
    simp only [gs_ci, gs_dn, Bool.and_eq_true, decide_eq_true_eq] at hck
    obtain ⟨hd, hn⟩ := hck
    subst hn
    have h : gs_i2 st (fun x y st => go (pc + 1) is lo (.inl (x * y) :: st) m) = some r := h
    obtain ⟨x, y, st, rfl, h⟩ := gs_i2_ok h
    exact gs_mv (hgo _ _ _ _ _ his h) (fun H locs cells slots Q ls hl k => lv_imul hx hb hd k)
  | iand =>
    simp only [gs_ci, gs_dn, Bool.and_eq_true, decide_eq_true_eq] at hck
    obtain ⟨hd, hn⟩ := hck
    subst hn
    have h : gs_i2 st (fun x y st => go (pc + 1) is lo (.inl (x &&& y) :: st) m) = some r := h
    obtain ⟨x, y, st, rfl, h⟩ := gs_i2_ok h
    exact gs_mv (hgo _ _ _ _ _ his h) (fun H locs cells slots Q ls hl k => lv_iand hx hb hd k)
  | ior =>
    simp only [gs_ci, gs_dn, Bool.and_eq_true, decide_eq_true_eq] at hck
    obtain ⟨hd, hn⟩ := hck
    subst hn
    have h : gs_i2 st (fun x y st => go (pc + 1) is lo (.inl (x ||| y) :: st) m) = some r := h
    obtain ⟨x, y, st, rfl, h⟩ := gs_i2_ok h
    exact gs_mv (hgo _ _ _ _ _ his h) (fun H locs cells slots Q ls hl k => lv_ior hx hb hd k)
  | ixor =>
    simp only [gs_ci, gs_dn, Bool.and_eq_true, decide_eq_true_eq] at hck
    obtain ⟨hd, hn⟩ := hck
    subst hn
    have h : gs_i2 st (fun x y st => go (pc + 1) is lo (.inl (x ^^^ y) :: st) m) = some r := h
    obtain ⟨x, y, st, rfl, h⟩ := gs_i2_ok h
    exact gs_mv (hgo _ _ _ _ _ his h) (fun H locs cells slots Q ls hl k => lv_ixor hx hb hd k)
  | ishl =>
    simp only [gs_ci, gs_dn, Bool.and_eq_true, decide_eq_true_eq] at hck
    obtain ⟨hd, hn⟩ := hck
    subst hn
    have h : gs_i2 st (fun x y st => go (pc + 1) is lo (.inl (x <<< (y &&& 31)) :: st) m) = some r := h
    obtain ⟨x, y, st, rfl, h⟩ := gs_i2_ok h
    exact gs_mv (hgo _ _ _ _ _ his h) (fun H locs cells slots Q ls hl k => lv_ishl hx hb hd k)
  | ishr =>
    simp only [gs_ci, gs_dn, Bool.and_eq_true, decide_eq_true_eq] at hck
    obtain ⟨hd, hn⟩ := hck
    subst hn
    have h : gs_i2 st (fun x y st => go (pc + 1) is lo (.inl (x >>> (y &&& 31)) :: st) m) = some r := h
    obtain ⟨x, y, st, rfl, h⟩ := gs_i2_ok h
    exact gs_mv (hgo _ _ _ _ _ his h) (fun H locs cells slots Q ls hl k => lv_ishr hx hb hd k)
  | iushr =>
    simp only [gs_ci, gs_dn, Bool.and_eq_true, decide_eq_true_eq] at hck
    obtain ⟨hd, hn⟩ := hck
    subst hn
    have h : gs_i2 st (fun x y st => go (pc + 1) is lo (.inl ((x.toUInt32 >>> (y.toUInt32 &&& Int32.toUInt32 31)).toInt32) :: st) m) = some r := h
    obtain ⟨x, y, st, rfl, h⟩ := gs_i2_ok h
    exact gs_mv (hgo _ _ _ _ _ his h) (fun H locs cells slots Q ls hl k => lv_iushr hx hb hd rfl k)
  | idiv =>
    simp only [gs_ci, gs_dn, Bool.and_eq_true, decide_eq_true_eq] at hck
    obtain ⟨hd, hn⟩ := hck
    subst hn
    have h : gs_i2 st (fun x y st => gs_nz y (go (pc + 1) is lo (.inl (x / y) :: st) m)) = some r := h
    obtain ⟨x, y, st, rfl, h⟩ := gs_i2_ok h
    obtain ⟨hy, h⟩ := gs_nz_ok h
    exact gs_mv (hgo _ _ _ _ _ his h) (fun H locs cells slots Q ls hl k => lv_idiv hx hb hd hy k)
  | irem =>
    simp only [gs_ci, gs_dn, Bool.and_eq_true, decide_eq_true_eq] at hck
    obtain ⟨hd, hn⟩ := hck
    subst hn
    have h : gs_i2 st (fun x y st => gs_nz y (go (pc + 1) is lo (.inl (x - x / y * y) :: st) m)) = some r := h
    obtain ⟨x, y, st, rfl, h⟩ := gs_i2_ok h
    obtain ⟨hy, h⟩ := gs_nz_ok h
    exact gs_mv (hgo _ _ _ _ _ his h) (fun H locs cells slots Q ls hl k => lv_irem hx hb hd hy k)
  | ineg =>
    simp only [gs_ci, gs_dn, Bool.and_eq_true, decide_eq_true_eq] at hck
    obtain ⟨hd, hn⟩ := hck
    subst hn
    have h : gs_i1 st (fun x st => go (pc + 1) is lo (.inl (-x) :: st) m) = some r := h
    obtain ⟨x, st, rfl, h⟩ := gs_i1_ok h
    exact gs_mv (hgo _ _ _ _ _ his h) (fun H locs cells slots Q ls hl k => lv_ineg hx hb hd k)
  | ladd =>
    simp only [gs_ci, gs_dn, Bool.and_eq_true, decide_eq_true_eq] at hck
    obtain ⟨hd, hn⟩ := hck
    subst hn
    have h : gs_j2 st (fun x y st => go (pc + 1) is lo (.inr (.inl (x + y)) :: st) m) = some r := h
    obtain ⟨x, y, st, rfl, h⟩ := gs_j2_ok h
    exact gs_mv (hgo _ _ _ _ _ his h) (fun H locs cells slots Q ls hl k => lv_ladd hx hb hd k)
  | lsub =>
    simp only [gs_ci, gs_dn, Bool.and_eq_true, decide_eq_true_eq] at hck
    obtain ⟨hd, hn⟩ := hck
    subst hn
    have h : gs_j2 st (fun x y st => go (pc + 1) is lo (.inr (.inl (x - y)) :: st) m) = some r := h
    obtain ⟨x, y, st, rfl, h⟩ := gs_j2_ok h
    exact gs_mv (hgo _ _ _ _ _ his h) (fun H locs cells slots Q ls hl k => lv_lsub hx hb hd k)
  | lmul =>
    simp only [gs_ci, gs_dn, Bool.and_eq_true, decide_eq_true_eq] at hck
    obtain ⟨hd, hn⟩ := hck
    subst hn
    have h : gs_j2 st (fun x y st => go (pc + 1) is lo (.inr (.inl (x * y)) :: st) m) = some r := h
    obtain ⟨x, y, st, rfl, h⟩ := gs_j2_ok h
    exact gs_mv (hgo _ _ _ _ _ his h) (fun H locs cells slots Q ls hl k => lv_lmul hx hb hd k)
  | land =>
    simp only [gs_ci, gs_dn, Bool.and_eq_true, decide_eq_true_eq] at hck
    obtain ⟨hd, hn⟩ := hck
    subst hn
    have h : gs_j2 st (fun x y st => go (pc + 1) is lo (.inr (.inl (x &&& y)) :: st) m) = some r := h
    obtain ⟨x, y, st, rfl, h⟩ := gs_j2_ok h
    exact gs_mv (hgo _ _ _ _ _ his h) (fun H locs cells slots Q ls hl k => lv_land hx hb hd k)
  | ldiv =>
    simp only [gs_ci, gs_dn, Bool.and_eq_true, decide_eq_true_eq] at hck
    obtain ⟨hd, hn⟩ := hck
    subst hn
    have h : gs_j2 st (fun x y st => gs_nzL y (go (pc + 1) is lo (.inr (.inl (x / y)) :: st) m)) = some r := h
    obtain ⟨x, y, st, rfl, h⟩ := gs_j2_ok h
    obtain ⟨hy, h⟩ := gs_nzL_ok h
    exact gs_mv (hgo _ _ _ _ _ his h) (fun H locs cells slots Q ls hl k => lv_ldiv hx hb hd hy k)
  | lrem =>
    simp only [gs_ci, gs_dn, Bool.and_eq_true, decide_eq_true_eq] at hck
    obtain ⟨hd, hn⟩ := hck
    subst hn
    have h : gs_j2 st (fun x y st => gs_nzL y (go (pc + 1) is lo (.inr (.inl (x - x / y * y)) :: st) m)) = some r := h
    obtain ⟨x, y, st, rfl, h⟩ := gs_j2_ok h
    obtain ⟨hy, h⟩ := gs_nzL_ok h
    exact gs_mv (hgo _ _ _ _ _ his h) (fun H locs cells slots Q ls hl k => lv_lrem hx hb hd hy k)
  | lneg =>
    simp only [gs_ci, gs_dn, Bool.and_eq_true, decide_eq_true_eq] at hck
    obtain ⟨hd, hn⟩ := hck
    subst hn
    have h : gs_j1 st (fun x st => go (pc + 1) is lo (.inr (.inl (-x)) :: st) m) = some r := h
    obtain ⟨x, st, rfl, h⟩ := gs_j1_ok h
    exact gs_mv (hgo _ _ _ _ _ his h) (fun H locs cells slots Q ls hl k => lv_lneg hx hb hd k)
  | i2l =>
    simp only [gs_ci, gs_dn, Bool.and_eq_true, decide_eq_true_eq] at hck
    obtain ⟨hd, hn⟩ := hck
    subst hn
    have h : gs_i1 st (fun x st => go (pc + 1) is lo (.inr (.inl x.toInt64) :: st) m) = some r := h
    obtain ⟨x, st, rfl, h⟩ := gs_i1_ok h
    exact gs_mv (hgo _ _ _ _ _ his h) (fun H locs cells slots Q ls hl k => lv_i2l hx hb hd rfl k)
  | l2i =>
    simp only [gs_ci, gs_dn, Bool.and_eq_true, decide_eq_true_eq] at hck
    obtain ⟨hd, hn⟩ := hck
    subst hn
    have h : gs_j1 st (fun x st => go (pc + 1) is lo (.inl x.toInt32 :: st) m) = some r := h
    obtain ⟨x, st, rfl, h⟩ := gs_j1_ok h
    exact gs_mv (hgo _ _ _ _ _ his h) (fun H locs cells slots Q ls hl k => lv_l2i hx hb hd rfl k)
  | i2b =>
    simp only [gs_ci, gs_dn, Bool.and_eq_true, decide_eq_true_eq] at hck
    obtain ⟨hd, hn⟩ := hck
    subst hn
    have h : gs_i1 st (fun x st => go (pc + 1) is lo (.inl x.toInt8.toInt32 :: st) m) = some r := h
    obtain ⟨x, st, rfl, h⟩ := gs_i1_ok h
    exact gs_mv (hgo _ _ _ _ _ his h) (fun H locs cells slots Q ls hl k => lv_i2b hx hb hd rfl k)
  | lcmp =>
    simp only [gs_ci, gs_dn, Bool.and_eq_true, decide_eq_true_eq] at hck
    obtain ⟨hd, hn⟩ := hck
    subst hn
    have h : gs_j2 st (fun x y st => go (pc + 1) is lo (.inl (lg_cmp x y) :: st) m) = some r := h
    obtain ⟨x, y, st, rfl, h⟩ := gs_j2_ok h
    exact gs_mv (hgo _ _ _ _ _ his h) (fun H locs cells slots Q ls hl k => W.lcmp hx hb hd k)
  | dup =>
    simp only [gs_ci, gs_dn, Bool.and_eq_true, decide_eq_true_eq] at hck
    obtain ⟨hd, hn⟩ := hck
    subst hn
    have h : gs_v1 st (fun v st => cond (gs_two v) none (go (pc + 1) is lo (v :: v :: st) m)) = some r := h
    obtain ⟨v, st, rfl, h⟩ := gs_v1_ok h
    obtain ⟨hv, h⟩ := gs_cn_ok h
    exact gs_mv (hgo _ _ _ _ _ his h) (fun H locs cells slots Q ls hl k => lv_dup hx hb hd (by rw [gs_cat, hv]; rfl) k)
  | dup2 =>
    simp only [gs_ci, gs_dn, Bool.and_eq_true, decide_eq_true_eq] at hck
    obtain ⟨hd, hn⟩ := hck
    subst hn
    have h : gs_v2 st (fun v w st => cond (gs_two v || gs_two w) none (go (pc + 1) is lo (v :: w :: v :: w :: st) m)) = some r := h
    obtain ⟨v, w, st, rfl, h⟩ := gs_v2_ok h
    obtain ⟨hv, h⟩ := gs_cn_ok h
    simp only [Bool.or_eq_false_iff] at hv
    exact gs_mv (hgo _ _ _ _ _ his h) (fun H locs cells slots Q ls hl k => lv_dup2_11 hx hb hd (by rw [gs_cat, hv.1]; rfl) (by rw [gs_cat, hv.2]; rfl) k)
  | ifCond cn off =>
    simp only [gs_ci, gs_dn, Bool.and_eq_true, decide_eq_true_eq] at hck
    obtain ⟨⟨hd, hn⟩, ht⟩ := hck
    cases cn with
    | eq =>
      have h : gs_i1 st (fun x st => if x = 0 then go a1 [] lo st m else go nx is lo st m) = some r := h
      obtain ⟨x, st, rfl, h⟩ := gs_i1_ok h
      have h : (if x = 0 then go a1 [] lo st m else go nx is lo st m) = some r := h
      split at h
      · next hc =>
        exact gs_mv (hgo _ _ _ _ _ (hok0 _) h) (fun H locs cells slots Q ls hl k => lv_if_eq hx hb hd ht (fun _ => k) (fun q => absurd hc q))
      · next hc =>
        subst hn
        exact gs_mv (hgo _ _ _ _ _ his h) (fun H locs cells slots Q ls hl k => lv_if_eq hx hb hd ht (fun q => absurd q hc) (fun _ => k))
    | ne =>
      have h : gs_i1 st (fun x st => if x = 0 then go nx is lo st m else go a1 [] lo st m) = some r := h
      obtain ⟨x, st, rfl, h⟩ := gs_i1_ok h
      have h : (if x = 0 then go nx is lo st m else go a1 [] lo st m) = some r := h
      split at h
      · next hc =>
        subst hn
        exact gs_mv (hgo _ _ _ _ _ his h) (fun H locs cells slots Q ls hl k => lv_if_ne hx hb hd ht (fun q => by first | exact absurd hc q | exact absurd q hc) (fun _ => k))
      · next hc =>
        exact gs_mv (hgo _ _ _ _ _ (hok0 _) h) (fun H locs cells slots Q ls hl k => lv_if_ne hx hb hd ht (fun _ => k) (fun q => by first | exact absurd hc q | exact absurd q hc | exact absurd hc (fun z => q z)))
    | lt =>
      have h : gs_i1 st (fun x st => if x < 0 then go a1 [] lo st m else go nx is lo st m) = some r := h
      obtain ⟨x, st, rfl, h⟩ := gs_i1_ok h
      have h : (if x < 0 then go a1 [] lo st m else go nx is lo st m) = some r := h
      split at h
      · next hc =>
        exact gs_mv (hgo _ _ _ _ _ (hok0 _) h) (fun H locs cells slots Q ls hl k => lv_if_lt hx hb hd ht (fun _ => k) (fun q => absurd hc q))
      · next hc =>
        subst hn
        exact gs_mv (hgo _ _ _ _ _ his h) (fun H locs cells slots Q ls hl k => lv_if_lt hx hb hd ht (fun q => absurd q hc) (fun _ => k))
    | ge =>
      have h : gs_i1 st (fun x st => if x < 0 then go nx is lo st m else go a1 [] lo st m) = some r := h
      obtain ⟨x, st, rfl, h⟩ := gs_i1_ok h
      have h : (if x < 0 then go nx is lo st m else go a1 [] lo st m) = some r := h
      split at h
      · next hc =>
        subst hn
        exact gs_mv (hgo _ _ _ _ _ his h) (fun H locs cells slots Q ls hl k => lv_if_ge hx hb hd ht (fun q => absurd hc (Int32.not_lt.mpr q)) (fun _ => k))
      · next hc =>
        exact gs_mv (hgo _ _ _ _ _ (hok0 _) h) (fun H locs cells slots Q ls hl k => lv_if_ge hx hb hd ht (fun _ => k) (fun q => absurd (Int32.not_lt.mp hc) q))
    | gt =>
      have h : gs_i1 st (fun x st => if 0 < x then go a1 [] lo st m else go nx is lo st m) = some r := h
      obtain ⟨x, st, rfl, h⟩ := gs_i1_ok h
      have h : (if 0 < x then go a1 [] lo st m else go nx is lo st m) = some r := h
      split at h
      · next hc =>
        exact gs_mv (hgo _ _ _ _ _ (hok0 _) h) (fun H locs cells slots Q ls hl k => lv_if_gt hx hb hd ht (fun _ => k) (fun q => absurd hc q))
      · next hc =>
        subst hn
        exact gs_mv (hgo _ _ _ _ _ his h) (fun H locs cells slots Q ls hl k => lv_if_gt hx hb hd ht (fun q => absurd q hc) (fun _ => k))
    | le =>
      have h : gs_i1 st (fun x st => if 0 < x then go nx is lo st m else go a1 [] lo st m) = some r := h
      obtain ⟨x, st, rfl, h⟩ := gs_i1_ok h
      have h : (if 0 < x then go nx is lo st m else go a1 [] lo st m) = some r := h
      split at h
      · next hc =>
        subst hn
        exact gs_mv (hgo _ _ _ _ _ his h) (fun H locs cells slots Q ls hl k => lv_if_le hx hb hd ht (fun q => absurd hc (Int32.not_lt.mpr q)) (fun _ => k))
      · next hc =>
        exact gs_mv (hgo _ _ _ _ _ (hok0 _) h) (fun H locs cells slots Q ls hl k => lv_if_le hx hb hd ht (fun _ => k) (fun q => absurd (Int32.not_lt.mp hc) q))
  | if_icmp cn off =>
    simp only [gs_ci, gs_dn, Bool.and_eq_true, decide_eq_true_eq] at hck
    obtain ⟨⟨hd, hn⟩, ht⟩ := hck
    cases cn with
    | eq =>
      have h : gs_i2 st (fun x y st => if x = y then go a1 [] lo st m else go nx is lo st m) = some r := h
      obtain ⟨x, y, st, rfl, h⟩ := gs_i2_ok h
      have h : (if x = y then go a1 [] lo st m else go nx is lo st m) = some r := h
      split at h
      · next hc =>
        exact gs_mv (hgo _ _ _ _ _ (hok0 _) h) (fun H locs cells slots Q ls hl k => lv_icmp_eq hx hb hd ht (fun _ => k) (fun q => absurd hc q))
      · next hc =>
        subst hn
        exact gs_mv (hgo _ _ _ _ _ his h) (fun H locs cells slots Q ls hl k => lv_icmp_eq hx hb hd ht (fun q => absurd q hc) (fun _ => k))
    | ne =>
      have h : gs_i2 st (fun x y st => if x = y then go nx is lo st m else go a1 [] lo st m) = some r := h
      obtain ⟨x, y, st, rfl, h⟩ := gs_i2_ok h
      have h : (if x = y then go nx is lo st m else go a1 [] lo st m) = some r := h
      split at h
      · next hc =>
        subst hn
        exact gs_mv (hgo _ _ _ _ _ his h) (fun H locs cells slots Q ls hl k => lv_icmp_ne hx hb hd ht (fun q => by first | exact absurd hc q | exact absurd q hc) (fun _ => k))
      · next hc =>
        exact gs_mv (hgo _ _ _ _ _ (hok0 _) h) (fun H locs cells slots Q ls hl k => lv_icmp_ne hx hb hd ht (fun _ => k) (fun q => by first | exact absurd hc q | exact absurd q hc | exact absurd hc (fun z => q z)))
    | lt =>
      have h : gs_i2 st (fun x y st => if x < y then go a1 [] lo st m else go nx is lo st m) = some r := h
      obtain ⟨x, y, st, rfl, h⟩ := gs_i2_ok h
      have h : (if x < y then go a1 [] lo st m else go nx is lo st m) = some r := h
      split at h
      · next hc =>
        exact gs_mv (hgo _ _ _ _ _ (hok0 _) h) (fun H locs cells slots Q ls hl k => lv_icmp_lt hx hb hd ht (fun _ => k) (fun q => absurd hc q))
      · next hc =>
        subst hn
        exact gs_mv (hgo _ _ _ _ _ his h) (fun H locs cells slots Q ls hl k => lv_icmp_lt hx hb hd ht (fun q => absurd q hc) (fun _ => k))
    | ge =>
      have h : gs_i2 st (fun x y st => if x < y then go nx is lo st m else go a1 [] lo st m) = some r := h
      obtain ⟨x, y, st, rfl, h⟩ := gs_i2_ok h
      have h : (if x < y then go nx is lo st m else go a1 [] lo st m) = some r := h
      split at h
      · next hc =>
        subst hn
        exact gs_mv (hgo _ _ _ _ _ his h) (fun H locs cells slots Q ls hl k => lv_icmp_ge hx hb hd ht (fun q => absurd hc (Int32.not_lt.mpr q)) (fun _ => k))
      · next hc =>
        exact gs_mv (hgo _ _ _ _ _ (hok0 _) h) (fun H locs cells slots Q ls hl k => lv_icmp_ge hx hb hd ht (fun _ => k) (fun q => absurd (Int32.not_lt.mp hc) q))
    | gt =>
      have h : gs_i2 st (fun x y st => if y < x then go a1 [] lo st m else go nx is lo st m) = some r := h
      obtain ⟨x, y, st, rfl, h⟩ := gs_i2_ok h
      have h : (if y < x then go a1 [] lo st m else go nx is lo st m) = some r := h
      split at h
      · next hc =>
        exact gs_mv (hgo _ _ _ _ _ (hok0 _) h) (fun H locs cells slots Q ls hl k => lv_icmp_gt hx hb hd ht (fun _ => k) (fun q => absurd hc q))
      · next hc =>
        subst hn
        exact gs_mv (hgo _ _ _ _ _ his h) (fun H locs cells slots Q ls hl k => lv_icmp_gt hx hb hd ht (fun q => absurd q hc) (fun _ => k))
    | le =>
      have h : gs_i2 st (fun x y st => if y < x then go nx is lo st m else go a1 [] lo st m) = some r := h
      obtain ⟨x, y, st, rfl, h⟩ := gs_i2_ok h
      have h : (if y < x then go nx is lo st m else go a1 [] lo st m) = some r := h
      split at h
      · next hc =>
        subst hn
        exact gs_mv (hgo _ _ _ _ _ his h) (fun H locs cells slots Q ls hl k => lv_icmp_le hx hb hd ht (fun q => absurd hc (Int32.not_lt.mpr q)) (fun _ => k))
      · next hc =>
        exact gs_mv (hgo _ _ _ _ _ (hok0 _) h) (fun H locs cells slots Q ls hl k => lv_icmp_le hx hb hd ht (fun _ => k) (fun q => absurd (Int32.not_lt.mp hc) q))
  | goto off =>
    simp only [gs_ci, gs_dn, Bool.and_eq_true, decide_eq_true_eq] at hck
    obtain ⟨hd, ht⟩ := hck
    have h : go a1 [] lo st m = some r := h
    exact gs_mv (hgo _ _ _ _ _ (hok0 _) h) (fun H locs cells slots Q ls hl k => lv_goto hx hb hd ht k)
  | tableswitch d low hi offs =>
    simp only [gs_ci, gs_dn, Bool.and_eq_true, decide_eq_true_eq] at hck
    obtain ⟨⟨⟨⟨⟨⟨hd, ht⟩, htc⟩, hsz⟩, hlo⟩, hhi⟩, hsw⟩ := hck
    have h : gs_i1 st (fun x st => gs_sw sw (fun t => go t [] lo st m) x a1) = some r := h
    obtain ⟨x, st, rfl, h⟩ := gs_i1_ok h
    have h : gs_sw sw (fun t => go t [] lo st m) x a1 = some r := h
    rw [gs_sw_eq] at h
    refine gs_mv (hgo _ _ _ _ _ (hok0 _) h) (fun H locs cells slots Q ls hl k => ?_)
    by_cases hout : x.toInt < low ∨ hi < x.toInt
    · have e : gs_swl sw x a1 = a1 := gs_swl_out sw (fun q hq e => by
        have h1 := List.all_eq_true.mp hsw q hq
        simp only [Bool.and_eq_true, decide_eq_true_eq] at h1
        rw [← e] at h1
        omega)
      rw [e] at k
      exact lv_tableOut hx hb hd hout ht k
    · have h1 : ¬ x.toInt < low := fun q => hout (Or.inl q)
      have h2 : ¬ hi < x.toInt := fun q => hout (Or.inr q)
      obtain ⟨off, ho, hto⟩ := gs_tc_ok offs.toList low htc (n := (x.toInt - low).toNat) (by omega)
      have ex : Int32.ofInt (low + ((x.toInt - low).toNat : Int)) = x := by
        have : low + ((x.toInt - low).toNat : Int) = x.toInt := by omega
        rw [this]
        exact Int32.ofInt_toInt x
      rw [ex] at hto
      exact lv_tableIn hx hb hd h1 h2 (off := off) (by rw [← Array.getElem?_toList]; exact ho) hto k
  | lookupswitch d ps =>
    simp only [gs_ci, gs_dn, Bool.and_eq_true, decide_eq_true_eq] at hck
    obtain ⟨⟨⟨hd, ht⟩, hlc⟩, hp⟩ := hck
    have h : gs_i1 st (fun x st => gs_sw sw (fun t => go t [] lo st m) x a1) = some r := h
    obtain ⟨x, st, rfl, h⟩ := gs_i1_ok h
    have h : gs_sw sw (fun t => go t [] lo st m) x a1 = some r := h
    rw [gs_sw_eq] at h
    exact gs_mv (hgo _ _ _ _ _ (hok0 _) h) (fun H locs cells slots Q ls hl k => lv_lookup hx hb hd hp rfl (gs_lc_ok ht ps.toList sw hlc x) k)
  | getfield idx =>
    simp only [gs_ci, gs_dn, Bool.and_eq_true, decide_eq_true_eq] at hck
    obtain ⟨⟨⟨⟨⟨hd, hn⟩, hfl⟩, hc⟩, ht⟩, h3⟩ := hck
    subst hn
    obtain ⟨q, hq⟩ := gs_clLt hc
    have hw : gs_gw (.fieldLink (gs_own o) idx (q.2.1 a2).1 (q.2.1 a2).2.1 (q.2.1 a2).2.2.1) := by
      have := gs_fl_ok hfl
      unfold gs_fw gs_cl? at this
      simp only [List.getD_eq_getElem?_getD, hq, Option.getD_some] at this
      exact this
    have hj : a2 < q.2.2 := by rw [← (gs_clAll hq).2.2.2.1]; exact lv_lt_list ht
    match a3, h, ht, h3 with
    | 0, h, ht, _ =>
      have h : gs_a1 st (fun a st => gs_fld m a a1 (go (pc + 3) is lo (.inl (m.2.1 a a2) :: st) m)) = some r := h
      obtain ⟨a, st, rfl, h⟩ := gs_a1_ok h
      obtain ⟨⟨hk, ha⟩, h⟩ := gs_fld_ok h
      exact gs_mvR (hgo _ _ _ _ _ his h) (fun H locs cells slots Q ls hR hS hl k => gs_getf hC hq hw hj hk ha hc hd ht hR k)
    | 1, h, ht, _ =>
      have h : gs_a1 st (fun a st => gs_fld m a a1 (go (pc + 3) is lo (.inr (.inl (m.2.2.1 a a2)) :: st) m)) = some r := h
      obtain ⟨a, st, rfl, h⟩ := gs_a1_ok h
      obtain ⟨⟨hk, ha⟩, h⟩ := gs_fld_ok h
      exact gs_mvR (hgo _ _ _ _ _ his h) (fun H locs cells slots Q ls hR hS hl k => gs_getf hC hq hw hj hk ha hc hd ht hR k)
    | 2, h, ht, _ =>
      have h : gs_a1 st (fun a st => gs_fld m a a1 (gs_nn (m.2.2.2 a a2) (fun b => go (pc + 3) is lo (.inr (.inr b) :: st) m))) = some r := h
      obtain ⟨a, st, rfl, h⟩ := gs_a1_ok h
      obtain ⟨⟨hk, ha⟩, h⟩ := gs_fld_ok h
      obtain ⟨b, hb1, h⟩ := gs_nn_ok h
      refine gs_mvR (hgo _ _ _ _ _ his h) (fun H locs cells slots Q ls hR hS hl k => gs_getf hC hq hw hj hk ha hc hd ht hR ?_)
      have e : gs_fv G m a 2 a2 = gs_cv G (.inr (.inr b)) := by
        show va_rf ((m.2.2.2 a a2).map (fun b => G.1 + gs_rk b)) = .ref (gs_ad G b)
        rw [hb1, gs_ad_lt (hR.2.2 _ _ _ hb1)]
        rfl
      rw [e]
      exact k
    | 3, h, ht, _ =>
      have h : gs_a1 st (fun a st => gs_fld m a a1 (go (pc + 3) is lo (.inl (m.2.1 a a2) :: st) m)) = some r := h
      obtain ⟨a, st, rfl, h⟩ := gs_a1_ok h
      obtain ⟨⟨hk, ha⟩, h⟩ := gs_fld_ok h
      exact gs_mvR (hgo _ _ _ _ _ his h) (fun H locs cells slots Q ls hR hS hl k => gs_getf hC hq hw hj hk ha hc hd ht hR k)
    | q + 4, h, ht, h3 => exact absurd (Nat.le_of_ble_eq_true h3) (by omega)
  | putfield idx =>
    simp only [gs_ci, gs_dn, Bool.and_eq_true, decide_eq_true_eq] at hck
    obtain ⟨⟨⟨⟨⟨⟨hd, hn⟩, hfl⟩, hc⟩, ht⟩, h3⟩, hf⟩ := hck
    subst hn
    obtain ⟨q, hq⟩ := gs_clLt hc
    have eq0 : gs_cl? a1 = q := by
      unfold gs_cl?
      simp only [List.getD_eq_getElem?_getD, hq, Option.getD_some]
    rw [eq0] at hf
    have hw : gs_gw (.fieldLink (gs_own o) idx (q.2.1 a2).1 (q.2.1 a2).2.1 (q.2.1 a2).2.2.1) := by
      have := gs_fl_ok hfl
      unfold gs_fw at this
      rw [eq0] at this
      exact this
    have hj : a2 < q.2.2 := by rw [← (gs_clAll hq).2.2.2.1]; exact lv_lt_list ht
    have hcod : ∀ t, (gs_ftab.getD a1 [])[a2]? = some t → gs_cod t (gs_tyc a1 a2) = true := by
      intro t ht
      have h9 := (gs_clAll hq).2.2.2.2 a2 hj
      rw [List.getD_eq_getElem?_getD (l := gs_ftab.getD a1 []), ht] at h9
      exact h9
    have hfin : (q.2.1 a2).2.2.2 = false ∨ ((q.2.1 a2).2.2.2 = true ∧ meth.name = "<init>" ∧ (q.2.1 a2).1 = gs_own o) := by
      cases hq2 : (q.2.1 a2).2.2.2 with
      | false => exact Or.inl rfl
      | true =>
        rw [hq2] at hf
        simp only [Bool.not_true, Bool.false_or, Bool.and_eq_true, decide_eq_true_eq] at hf
        exact Or.inr ⟨rfl, hin hf.1, hf.2⟩
    match a3, h, ht, h3 with
    | 0, h, ht, _ =>
      have h : gs_ia st (fun x a st => gs_fld m a a1 (go (pc + 3) is lo st (gs_sI m a a2 x))) = some r := h
      obtain ⟨x, a, st, rfl, h⟩ := gs_ia_ok h
      obtain ⟨⟨hk, ha⟩, h⟩ := gs_fld_ok h
      have hty := hcod 0 ht
      refine gs_mvM (hgo _ _ _ _ _ his h) rfl (fun _ h => h) (fun H locs cells slots Q ls hR hS hl k => gs_putf (m2 := gs_sI m a a2 x) hC hq hw hj hk ha hc hd hfin ?_ ?_ rfl ?_ (fun b hb => gs_sI_ce hb) hR hS k)
      · exact gs_nI hty
      · exact gs_fI hty
      · rw [gs_ce_obj hk hc, gs_sI_ob ht (Or.inl rfl)]
        rfl
    | 1, h, ht, _ =>
      have h : gs_ja st (fun x a st => gs_fld m a a1 (go (pc + 3) is lo st (gs_sJ m a a2 x))) = some r := h
      obtain ⟨x, a, st, rfl, h⟩ := gs_ja_ok h
      obtain ⟨⟨hk, ha⟩, h⟩ := gs_fld_ok h
      have hty := hcod 1 ht
      refine gs_mvM (hgo _ _ _ _ _ his h) rfl (fun _ h => h) (fun H locs cells slots Q ls hR hS hl k => gs_putf (m2 := gs_sJ m a a2 x) hC hq hw hj hk ha hc hd hfin ?_ ?_ rfl ?_ (fun b hb => gs_sJ_ce hb) hR hS k)
      · exact gs_nJ hty
      · exact gs_fJ hty
      · rw [gs_ce_obj hk hc, gs_sJ_ob ht]
        rfl
    | 2, h, ht, _ =>
      have h : gs_aa st (fun x a st => gs_fld m a a1 (cond (Nat.blt (gs_rk x) m.1.1) (go (pc + 3) is lo st (gs_sR m a a2 x)) none)) = some r := h
      obtain ⟨x, a, st, rfl, h⟩ := gs_aa_ok h
      obtain ⟨⟨hk, ha⟩, h⟩ := gs_fld_ok h
      obtain ⟨hxn, h⟩ := gs_cd_ok h
      have hxn : gs_rk x < m.1.1 := Nat.lt_of_succ_le (Nat.le_of_ble_eq_true hxn)
      have hty := hcod 2 ht
      refine gs_mvM (hgo _ _ _ _ _ his h) rfl (fun h1 h2 => gs_sR_lt h1 h2 hxn) (fun H locs cells slots Q ls hR hS hl k => gs_putf (m2 := gs_sR m a a2 x) hC hq hw hj hk ha hc hd hfin ?_ ?_ rfl ?_ (fun b hb => gs_sR_ce hb) hR hS k)
      · exact gs_nR hty
      · exact gs_fR hty
      · rw [gs_ce_obj hk hc, gs_sR_ob ht, gs_cv]
        show _ = Sum.inr (a1, (gs_ob G m a 0 (gs_ftab.getD a1 [])).set a2 (Value.ref (gs_ad G x)))
        rw [gs_ad_lt (Nat.lt_of_lt_of_le hxn hR.2.1)]
    | 3, h, ht, _ =>
      have h : gs_ia st (fun x a st => gs_fld m a a1 (gs_bt x (go (pc + 3) is lo st (gs_sI m a a2 x)))) = some r := h
      obtain ⟨x, a, st, rfl, h⟩ := gs_ia_ok h
      obtain ⟨⟨hk, ha⟩, h⟩ := gs_fld_ok h
      obtain ⟨hx01, h⟩ := gs_bt_ok h
      have hty := hcod 3 ht
      refine gs_mvM (hgo _ _ _ _ _ his h) rfl (fun _ h => h) (fun H locs cells slots Q ls hR hS hl k => gs_putf (m2 := gs_sI m a a2 x) hC hq hw hj hk ha hc hd hfin ?_ ?_ rfl ?_ (fun b hb => gs_sI_ce hb) hR hS k)
      · exact gs_nB hty hx01
      · exact gs_fB hty hx01
      · rw [gs_ce_obj hk hc, gs_sI_ob ht (Or.inr rfl)]
        rfl
    | q + 4, h, ht, h3 => exact absurd (Nat.le_of_ble_eq_true h3) (by omega)
  | baload =>
    simp only [gs_ci, gs_dn, Bool.and_eq_true, decide_eq_true_eq] at hck
    obtain ⟨hd, hn⟩ := hck
    subst hn
    have h : gs_ia st (fun j a st => gs_ix m a 12 j (fun k => go (pc + 1) is lo (.inl (m.2.1 a k) :: st) m)) = some r := h
    obtain ⟨j, a, st, rfl, h⟩ := gs_ia_ok h
    obtain ⟨⟨hk, ha⟩, hi, h⟩ := gs_ix_ok h
    exact gs_mvR (hgo _ _ _ _ _ his h) (fun H locs cells slots Q ls hR hS hl k => gs_bald hC hk ha hi hd hR k)
  | iaload =>
    simp only [gs_ci, gs_dn, Bool.and_eq_true, decide_eq_true_eq] at hck
    obtain ⟨hd, hn⟩ := hck
    subst hn
    match a1, h, hard with
    | 0, h, hard =>
      have h : gs_ia st (fun j a st => gs_ix m a 13 j (fun k => go (pc + 1) is lo (.inl (m.2.1 a k) :: st) m)) = some r := h
      obtain ⟨j, a, st, rfl, h⟩ := gs_ia_ok h
      obtain ⟨⟨hk, ha⟩, hi, h⟩ := gs_ix_ok h
      exact gs_mvR (hgo _ _ _ _ _ his h) (fun H locs cells slots Q ls hR hS hl k => gs_iald hC hk ha hi hd hR k)
    | q + 1, h, hard => exact hard rfl
  | laload =>
    simp only [gs_ci, gs_dn, Bool.and_eq_true, decide_eq_true_eq] at hck
    obtain ⟨hd, hn⟩ := hck
    subst hn
    match a1, h, hard with
    | 0, h, hard =>
      have h : gs_ia st (fun j a st => gs_ix m a 14 j (fun k => go (pc + 1) is lo (.inr (.inl (m.2.2.1 a k)) :: st) m)) = some r := h
      obtain ⟨j, a, st, rfl, h⟩ := gs_ia_ok h
      obtain ⟨⟨hk, ha⟩, hi, h⟩ := gs_ix_ok h
      exact gs_mvR (hgo _ _ _ _ _ his h) (fun H locs cells slots Q ls hR hS hl k => gs_lald hC hk ha hi hd hR k)
    | q + 1, h, hard => exact hard rfl
  | aaload =>
    simp only [gs_ci, gs_dn, Bool.and_eq_true, decide_eq_true_eq] at hck
    obtain ⟨hd, hn⟩ := hck
    subst hn
    have h : gs_ia st (fun j a st => gs_ix m a (cond (Nat.beq (gs_kind a) 15) 15 16) j (fun k => gs_nn (m.2.2.2 a k) (fun b => go (pc + 1) is lo (.inr (.inr b) :: st) m))) = some r := h
    obtain ⟨j, a, st, rfl, h⟩ := gs_ia_ok h
    obtain ⟨⟨hk, ha⟩, hi, h⟩ := gs_ix_ok h
    obtain ⟨b, hb1, h⟩ := gs_nn_ok h
    have hk : gs_kind a = 15 ∨ gs_kind a = 16 := by
      cases hq : Nat.beq (gs_kind a) 15 with
      | true => exact Or.inl (Nat.eq_of_beq_eq_true hq)
      | false => rw [hq] at hk; exact Or.inr hk
    exact gs_mvR (hgo _ _ _ _ _ his h) (fun H locs cells slots Q ls hR hS hl k => gs_aald hC hk ha hi hb1 hd hR k)
  | iastore =>
    simp only [gs_ci, gs_dn, Bool.and_eq_true, decide_eq_true_eq] at hck
    obtain ⟨hd, hn⟩ := hck
    subst hn
    have h : gs_iia st (fun x j a st => gs_ix m a 13 j (fun k => go (pc + 1) is lo st (gs_sI m a k x))) = some r := h
    obtain ⟨x, j, a, st, rfl, h⟩ := gs_iia_ok h
    obtain ⟨⟨hk, ha⟩, hi, h⟩ := gs_ix_ok h
    exact gs_mvM (hgo _ _ _ _ _ his h) rfl (fun _ h => h) (fun H locs cells slots Q ls hR hS hl k => gs_iast hC hk ha hi hd hR hS k)
  | bastore =>
    simp only [gs_ci, gs_dn, Bool.and_eq_true, decide_eq_true_eq] at hck
    obtain ⟨hd, hn⟩ := hck
    subst hn
    have h : gs_iia st (fun x j a st => gs_ix m a 12 j (fun k => go (pc + 1) is lo st (gs_sI m a k x.toInt8.toInt32))) = some r := h
    obtain ⟨x, j, a, st, rfl, h⟩ := gs_iia_ok h
    obtain ⟨⟨hk, ha⟩, hi, h⟩ := gs_ix_ok h
    exact gs_mvM (hgo _ _ _ _ _ his h) rfl (fun _ h => h) (fun H locs cells slots Q ls hR hS hl k => gs_bast hC hk ha hi hd hR hS k)
  | lastore =>
    simp only [gs_ci, gs_dn, Bool.and_eq_true, decide_eq_true_eq] at hck
    obtain ⟨hd, hn⟩ := hck
    subst hn
    have h : gs_jia st (fun x j a st => gs_ix m a 14 j (fun k => go (pc + 1) is lo st (gs_sJ m a k x))) = some r := h
    obtain ⟨x, j, a, st, rfl, h⟩ := gs_jia_ok h
    obtain ⟨⟨hk, ha⟩, hi, h⟩ := gs_ix_ok h
    exact gs_mvM (hgo _ _ _ _ _ his h) rfl (fun _ h => h) (fun H locs cells slots Q ls hR hS hl k => gs_last hC hk ha hi hd hR hS k)
  | arraylength =>
    simp only [gs_ci, gs_dn, Bool.and_eq_true, decide_eq_true_eq] at hck
    obtain ⟨hd, hn⟩ := hck
    subst hn
    match a1, h, hard with
    | 0, h, hard =>
      have h : gs_a1 st (fun a st => cond (Nat.ble 12 (gs_kind a) && Nat.ble (gs_kind a) 14 && Nat.blt (gs_rk a) m.1.1) (go (pc + 1) is lo (.inl (Int32.ofNat (gs_len a)) :: st) m) none) = some r := h
      obtain ⟨a, st, rfl, h⟩ := gs_a1_ok h
      obtain ⟨hb1, h⟩ := gs_cd_ok h
      simp only [Bool.and_eq_true] at hb1
      obtain ⟨⟨h12, h14⟩, ha⟩ := hb1
      have h12 := Nat.le_of_ble_eq_true h12
      have h14 := Nat.le_of_ble_eq_true h14
      have ha : gs_rk a < m.1.1 := Nat.lt_of_succ_le (Nat.le_of_ble_eq_true ha)
      refine gs_mvR (hgo _ _ _ _ _ his h) (fun H locs cells slots Q ls hR hS hl k => ?_)
      obtain ⟨k0, hk0, -⟩ := gs_arrP (H := H) G (m := m) (a := a) rfl ha (by omega)
      show W p l e R s m₀ args below meth c H locs cells slots Q (F0 m₀ pc ls (.ref (gs_ad G a) :: st.map (gs_cv G)))
      rw [gs_ad_lt (Nat.lt_of_lt_of_le ha hR.2.1)]
      rcases (show gs_kind a = 12 ∨ gs_kind a = 13 ∨ gs_kind a = 14 by omega) with hk | hk | hk
      · rw [hk] at hk0
        exact va_alen hx hb hK hR.1 k0 0 hk0 rfl rfl hd k
      · rw [hk] at hk0
        exact va_alen hx hb hK hR.1 k0 1 hk0 rfl rfl hd k
      · rw [hk] at hk0
        exact va_alen hx hb hK hR.1 k0 2 hk0 rfl rfl hd k
    | q + 1, h, hard => exact hard rfl
  | ireturn =>
    simp only [gs_ci, gs_dn, Bool.and_eq_true, decide_eq_true_eq] at hck
    obtain ⟨⟨hd, hrb1⟩, hrb2⟩ := hck
    match a1, h, hrb1 with
    | 0, h, hrb1 =>
      have h : gs_i1 st (fun x st => gs_e0 st (gs_rI x m)) = some r := h
      obtain ⟨x, st, rfl, h⟩ := gs_i1_ok h
      obtain ⟨rfl, h⟩ := gs_e0_ok h
      cases h
      rw [← hrb1] at hrt
      exact ⟨⟨Nat.le_refl _, Nat.le_refl _⟩, fun _ _ H locs ls hR hS hl => vx_ret (W.iret hx hb hrt (fun t ht _ => ⟨some (.inl x), rfl, rfl, by rw [ht]; exact hR, hS.F ht⟩) hS.2.2 hd (hlocks := hlk))⟩
    | 1, h, hrb1 =>
      have h : gs_i1 st (fun x st => gs_e0 st (gs_bt x (gs_rI x m))) = some r := h
      obtain ⟨x, st, rfl, h⟩ := gs_i1_ok h
      obtain ⟨rfl, h⟩ := gs_e0_ok h
      obtain ⟨hx01, h⟩ := gs_bt_ok h
      cases h
      rw [← hrb1] at hrt
      exact ⟨⟨Nat.le_refl _, Nat.le_refl _⟩, fun _ _ H locs ls hR hS hl => vx_ret (W.zret hx hb hrt (gs_nB rfl hx01) (fun t ht _ => ⟨some (.inl x), rfl, rfl, by rw [ht]; exact hR, hS.F ht⟩) hS.2.2 hd (hlocks := hlk))⟩
    | q + 2, h, hrb1 => exact absurd (Nat.le_of_ble_eq_true hrb2) (by omega)
  | lreturn =>
    simp only [gs_ci, gs_dn, Bool.and_eq_true, decide_eq_true_eq] at hck
    obtain ⟨hd, hrb1⟩ := hck
    have h : gs_j1 st (fun x st => gs_e0 st (gs_rJ x m)) = some r := h
    obtain ⟨x, st, rfl, h⟩ := gs_j1_ok h
    obtain ⟨rfl, h⟩ := gs_e0_ok h
    cases h
    rw [hrb1] at hrt
    exact ⟨⟨Nat.le_refl _, Nat.le_refl _⟩, fun _ _ H locs ls hR hS hl => vx_ret (W.lret hx hb hrt (fun t ht _ => ⟨some (.inr (.inl x)), rfl, rfl, by rw [ht]; exact hR, hS.F ht⟩) hS.2.2 hd (hlocks := hlk))⟩
  | areturn =>
    simp only [gs_ci, gs_dn, Bool.and_eq_true, decide_eq_true_eq] at hck
    obtain ⟨hd, hrb1⟩ := hck
    have h : gs_a1 st (fun x st => gs_e0 st (gs_rA x m)) = some r := h
    obtain ⟨x, st, rfl, h⟩ := gs_a1_ok h
    obtain ⟨rfl, h⟩ := gs_e0_ok h
    cases h
    rw [hrb1] at hrt
    exact ⟨⟨Nat.le_refl _, Nat.le_refl _⟩, fun _ _ H locs ls hR hS hl => vx_ret (W.aret (v := .ref (gs_ad G x)) hx hb hrt (Or.inl ⟨_, rfl⟩) (Or.inr ⟨_, rfl⟩) (fun t ht _ => ⟨some (.inr (.inr x)), rfl, rfl, by rw [ht]; exact hR, hS.F ht⟩) hS.2.2 hd (hlocks := hlk))⟩
  | return_ =>
    simp only [gs_ci, gs_dn, Bool.and_eq_true, decide_eq_true_eq] at hck
    obtain ⟨hd, hrb1⟩ := hck
    have h : gs_e0 st (gs_rU m) = some r := h
    obtain ⟨rfl, h⟩ := gs_e0_ok h
    cases h
    rw [hrb1] at hrt
    exact ⟨⟨Nat.le_refl _, Nat.le_refl _⟩, fun _ _ H locs ls hR hS hl => vx_ret (W.vret hx hb hrt (fun t ht _ => ⟨none, rfl, rfl, by rw [ht]; exact hR, hS.F ht⟩) hS.2.2 hd (hlocks := hlk))⟩
  | aastore =>
    exact hard rfl
  | getstatic idx =>
    exact hard rfl
  | newarray ty =>
    exact hard rfl
  | anewarray idx =>
    exact hard rfl
  | new idx =>
    exact hard rfl
  | invokevirtual idx =>
    exact hard rfl
  | invokestatic idx =>
    exact hard rfl
  | invokespecial idx =>
    exact hard rfl
  | _ => cases h
end GSS
