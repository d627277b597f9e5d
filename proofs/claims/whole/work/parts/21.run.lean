/-! The run of a body, and a method's contract out of it. -/
theorem gs_pp_ok {o : Option (List gs_V × List gs_V)} {f : List gs_V → List gs_V → gs_O} {r : gs_R × gs_M} (h : gs_pp o f = some r) : ∃ as rest : List gs_V, o = some (as, rest) ∧ f as rest = some r := by
  unfold gs_pp at h
  split at h
  · next q => exact ⟨q.1, q.2, rfl, h⟩
  · cases h
theorem gs_rc_ok {as : List gs_V} {f : Nat → gs_O} {r : gs_R × gs_M} (h : gs_rc as f = some r) : ∃ (b : Nat) (t : List gs_V), as = .inr (.inr b) :: t ∧ f b = some r := by
  unfold gs_rc at h
  split at h
  · exact ⟨_, _, rfl, h⟩
  · cases h
def gs_cis (sp : Bool) (o nL : Nat) (cc : ByteArray) (rb : Nat) (ini : Bool) : Nat → List gs_N → Bool
  | _, [] => true
  | pc, i :: is => gs_ci o nL cc rb ini pc i && gs_ch sp o cc pc i && gs_ck3 o cc pc i && gs_cis sp o nL cc rb ini i.2.1 is
/-- what isn't a call of the tables' -/
def gs_h2 (ins : gs_N) : Bool := match ins with
  | (i, _, _, _, _, a4, _) => match i with
    | .invokestatic _ => false
    | .invokevirtual _ => Nat.ble 90 a4
    | .invokespecial _ => Nat.ble 90 a4
    | _ => gs_hard ins
theorem gs_pick_mem {lo : gs_L} : ∀ (ks : List Nat) (q : Nat × gs_V), q ∈ gs_pick ks lo → q ∈ lo
  | [], q, h => by cases h
  | k :: ks, q, h => by
    unfold gs_pick at h
    split at h
    · next v hv =>
      rcases List.mem_cons.mp h with rfl | h
      · exact gs_lk_mem hv
      · exact gs_pick_mem ks q h
    · exact gs_pick_mem ks q h
theorem gs_fb_mem {pc : Nat} {is : List gs_N} : ∀ B : List (Nat × List gs_N), gs_fb B pc = some is → (pc, is) ∈ B
  | [], h => by cases h
  | q :: t, h => by
    unfold gs_fb at h
    cases hb : Nat.beq q.1 pc with
    | true =>
      rw [hb] at h
      have e1 := Nat.eq_of_beq_eq_true hb
      have e2 : q.2 = is := Option.some.inj h
      rw [← e1, ← e2]
      exact List.mem_cons_self
    | false =>
      rw [hb] at h
      exact List.mem_cons_of_mem _ (gs_fb_mem t h)
section GSN
variable {p : Program} {l : Launch} {e : Env} {R : Room} {s : State} {m₀ : MethodId} {args : Array Value} {below : List Frame} {meth : Method} {c : Code} {G : gs_G} {cc : ByteArray} {nL u0 z0 : Nat} {r : gs_R × gs_M} {St : State → Prop}
theorem gs_Tg_sub {pc : Nat} {lo lo' : gs_L} {st : List gs_V} {m : gs_M} (h : gs_Tg p l e R s m₀ args below meth c G nL u0 z0 r pc lo' st m) (hs : ∀ q ∈ lo', q ∈ lo) : gs_Tg p l e R s m₀ args below meth c G nL u0 z0 r pc lo st m :=
  ⟨h.1, fun a b H locs ls hR hS hl => h.2 a b H locs ls hR hS (gs_lvs hl (fun q hq => List.mem_map.mpr ⟨q, hs q hq, rfl⟩))⟩
set_option maxHeartbeats 2000000 in
/-- a call -/
theorem gs_inv_ok {X : gs_E} {C : Nat → List gs_V → gs_M → gs_O} {go : gs_Go} {pc d : Nat} {is : List gs_N} {lo : gs_L} {st : List gs_V} {m : gs_M} {o : Nat}
    (hC : gs_Cx p s m₀ args meth c G cc nL (gs_own o) u0) (hSt : gs_Stk G St) (hs : St s) (hN : gs_Nst s) (ht : ∀ y ∈ c.exceptionTable.toList, False) (hR0 : R.cells = gs_us r.2 - u0 ∧ R.slots = r.2.1.2.2 - z0) (hRd : d + 13 ≤ R.frames ∧ 60 * (d + 13) ≤ R.locals)
    (hcal : ∀ (k : Nat) (as : List gs_V) (m' : gs_M) (r' : gs_R × gs_M), gs_pl k = true → C k as m' = some r' → gs_Mt l G St d k as m' r')
    (ins : gs_N) (hh : gs_hard ins = true) (hn2 : gs_h2 ins = false) (hch : gs_ch false o cc pc ins = true)
    (hgo : ∀ (lo' : gs_L) (st' : List gs_V) (m' : gs_M), go ins.2.1 is lo' st' m' = some r → gs_Tg p l e R s m₀ args below meth c G nL u0 z0 r ins.2.1 lo' st' m')
    (h : gs_step X C [] go pc ins is lo st m = some r) : gs_Tg p l e R s m₀ args below meth c G nL u0 z0 r pc lo st m := by
  obtain ⟨i, nx, a1, a2, a3, a4, cv, sw⟩ := ins
  cases i with
  | invokevirtual idx =>
    have hn2 : Nat.ble 90 a4 = false := hn2
    have h90 : ¬ 90 ≤ a4 := fun h => by rw [Nat.ble_eq_true_of_le h] at hn2; cases hn2
    simp only [gs_ch, gs_dn, Bool.false_and, Bool.or_false, Bool.or_eq_true, Bool.and_eq_true, decide_eq_true_eq] at hch
    rcases hch with (hch | hch) | ⟨⟨⟨⟨⟨⟨⟨hd, hnx⟩, hml⟩, ha4⟩, hcl⟩, hk⟩, hkd⟩, ha2⟩
    · exact absurd (Nat.eq_of_beq_eq_true hch) (by omega)
    · exact absurd (Nat.eq_of_beq_eq_true hch) (by omega)
    · have ha4 : a4 < 12 := Nat.lt_of_succ_le (Nat.le_of_ble_eq_true ha4)
      have hkd := Nat.eq_of_beq_eq_true hkd
      have ha2 := Nat.eq_of_beq_eq_true ha2
      have hgo : ∀ (lo' : gs_L) (st' : List gs_V) (m' : gs_M), go nx is lo' st' m' = some r → gs_Tg p l e R s m₀ args below meth c G nL u0 z0 r nx lo' st' m' := hgo
      subst hnx
      have h : gs_pp (gs_pop a2 [] st) (fun as rest => gs_rc as (fun b => gs_fld m b a4 (gs_call C (gs_hd [] pc go lo) go (pc + 3) a1 a3 as rest is lo m))) = some r := by
        rw [← h]
        rcases (show a4 = 0 ∨ a4 = 1 ∨ a4 = 2 ∨ a4 = 3 ∨ a4 = 4 ∨ a4 = 5 ∨ a4 = 6 ∨ a4 = 7 ∨ a4 = 8 ∨ a4 = 9 ∨ a4 = 10 ∨ a4 = 11 by omega) with rfl | rfl | rfl | rfl | rfl | rfl | rfl | rfl | rfl | rfl | rfl | rfl <;> rfl
      obtain ⟨as, rest, hp, h⟩ := gs_pp_ok h
      obtain ⟨b, t, rfl, h⟩ := gs_rc_ok h
      obtain ⟨hb, hz⟩ := gs_fld_ok h
      obtain ⟨hst, hlen⟩ := gs_pop_ok a2 [] st _ rest hp
      have hst : st = (Sum.inr (Sum.inr b) :: t).reverse ++ rest := by rw [hst]; rfl
      subst hst
      refine gs_callT (hd := gs_hd [] pc go lo) (av := ((Sum.inr (Sum.inr b) :: t).map (gs_cv G)).toArray) hC hR0 (fun v m' hg => hgo _ _ _ hg) (fun x m' hg => gs_out hC ht hg) (fun h8 r' hc => ?_) hz
      have hM := hcal a1 _ m r' hk hc
      exact ⟨hM.1, fun H locs cells slots ls hRep hS hls hz1 hz2 hc1 hc2 => gs_siteV hC hSt hs hk hkd (gs_ml_ok hml) hRd hd hcl ha4 hb (by simp at hlen; omega) h8 hM H locs cells slots ls hRep hS hls hz1 hz2 hc1 hc2⟩
  | invokestatic idx =>
    simp only [gs_ch, gs_dn, Bool.false_and, Bool.or_false, Bool.or_eq_true, Bool.and_eq_true, decide_eq_true_eq] at hch
    obtain ⟨⟨⟨⟨⟨hd, hnx⟩, hml⟩, hk⟩, hkd⟩, ha2⟩ := hch
    have hkd := Nat.eq_of_beq_eq_true hkd
    have ha2 := Nat.eq_of_beq_eq_true ha2
    have hgo : ∀ (lo' : gs_L) (st' : List gs_V) (m' : gs_M), go nx is lo' st' m' = some r → gs_Tg p l e R s m₀ args below meth c G nL u0 z0 r nx lo' st' m' := hgo
    subst hnx
    have h : gs_pp (gs_pop a2 [] st) (fun as rest => gs_call C gs_nt go (pc + 3) a1 a3 as rest is lo m) = some r := h
    obtain ⟨as, rest, hp, hz⟩ := gs_pp_ok h
    obtain ⟨hst, hlen⟩ := gs_pop_ok a2 [] st _ rest hp
    have hst : st = as.reverse ++ rest := by rw [hst]; rfl
    subst hst
    refine gs_callT (hd := gs_nt) (av := (as.map (gs_cv G)).toArray) hC hR0 (fun v m' hg => hgo _ _ _ hg) (fun x m' hg => by cases hg) (fun h8 r' hc => ?_) hz
    have hM := hcal a1 _ m r' hk hc
    rcases hml with hml | hml
    · exact ⟨hM.1, fun H locs cells slots ls hRep hS hls hz1 hz2 hc1 hc2 => gs_siteS hC hSt hs hk hkd (gs_ml_ok hml) hRd hd (by simp at hlen; omega) h8 hM H locs cells slots ls hRep hS hls hz1 hz2 hc1 hc2⟩
    · obtain ⟨-, r2, hc2, hres⟩ := gs_call_ok hz
      rw [hc] at hc2
      cases hc2
      rcases hres with ⟨v, hv, -⟩ | ⟨x, -, hx⟩
      · exact ⟨hM.1, fun H locs cells slots ls hRep hS hls hz1 hz2 hc1 hc2 => gs_siteSN hC hSt hs hv hk hkd (va_Nw.use rfl (hN _ hml)) hRd hd (by simp at hlen; omega) h8 hM H locs cells slots ls hRep hS hls hz1 hz2 hc1 hc2⟩
      · cases hx
  | invokespecial idx =>
    have hn2 : Nat.ble 90 a4 = false := hn2
    have h90 : ¬ 90 ≤ a4 := fun h => by rw [Nat.ble_eq_true_of_le h] at hn2; cases hn2
    simp only [gs_ch, gs_dn, Bool.false_and, Bool.or_false, Bool.or_eq_true, Bool.and_eq_true, decide_eq_true_eq] at hch
    rcases hch with hch | ⟨⟨⟨⟨⟨⟨⟨hd, hnx⟩, hml⟩, hk⟩, hkd⟩, ha2⟩, hret⟩, hnm⟩
    · exact absurd (Nat.eq_of_beq_eq_true hch) (by omega)
    · have hkd := Nat.eq_of_beq_eq_true hkd
      have ha2 := Nat.eq_of_beq_eq_true ha2
      have hgo : ∀ (lo' : gs_L) (st' : List gs_V) (m' : gs_M), go nx is lo' st' m' = some r → gs_Tg p l e R s m₀ args below meth c G nL u0 z0 r nx lo' st' m' := hgo
      subst hnx
      have h : gs_pp (gs_pop a2 [] st) (fun as rest => gs_rc as (fun _ => gs_call C gs_nt go (pc + 3) a1 a3 as rest is lo m)) = some r := by
        rw [← h]
        show _ = (match a4 with
          | 92 => _
          | _ => _)
        split
        · omega
        · rfl
      obtain ⟨as, rest, hp, h⟩ := gs_pp_ok h
      obtain ⟨b, t, rfl, hz⟩ := gs_rc_ok h
      obtain ⟨hst, hlen⟩ := gs_pop_ok a2 [] st _ rest hp
      have hst : st = (Sum.inr (Sum.inr b) :: t).reverse ++ rest := by rw [hst]; rfl
      subst hst
      refine gs_callT (hd := gs_nt) (av := ((Sum.inr (Sum.inr b) :: t).map (gs_cv G)).toArray) hC hR0 (fun v m' hg => hgo _ _ _ hg) (fun x m' hg => by cases hg) (fun h8 r' hc => ?_) hz
      have hM := hcal a1 _ m r' hk hc
      obtain ⟨-, r2, hc2, hres⟩ := gs_call_ok hz
      rw [hc] at hc2
      cases hc2
      have hl : (Cond.methodLink (gs_own o) idx (gs_y a1).1).before args s = true ∨ (Cond.methodLinkNest (gs_own o) idx (gs_y a1).1 RX11).before args s = true := by
        rcases hml with hml | hml
        · exact Or.inl (hC.2.2.2.2.1 _ (gs_ml_ok hml))
        · exact Or.inr (va_Nw.use rfl (hN _ hml))
      rcases hres with ⟨v, hv, -⟩ | ⟨x, -, hx⟩
      · exact ⟨hM.1, fun H locs cells slots ls hRep hS hls hz1 hz2 hc1 hc2 => gs_siteI hC hSt hs hv hk hkd hret hnm hl hRd hd (by simp at hlen; omega) h8 hM H locs cells slots ls hRep hS hls hz1 hz2 hc1 hc2⟩
      · cases hx
  | _ => exact absurd (hh.symm.trans hn2) (by decide)
/-- what is left to show of the other instructions -/
def gs_HH (p : Program) (l : Launch) (e : Env) (R : Room) (s : State) (m₀ : MethodId) (args : Array Value) (below : List Frame) (meth : Method) (c : Code) (G : gs_G) (cc : ByteArray) (nL u0 z0 o rb : Nat) (ini : Bool) (r : gs_R × gs_M) (X : gs_E) : Prop :=
  ∀ (C : Nat → List gs_V → gs_M → gs_O) (hs : List (Nat × Nat × Nat × Nat × Nat × Nat × Nat)) (go : gs_Go) (pc : Nat) (ins : gs_N) (is : List gs_N) (lo : gs_L) (st : List gs_V) (m : gs_M), gs_h2 ins = true → gs_ci o nL cc rb ini pc ins = true → gs_ck3 o cc pc ins = true →
    (∀ (lo' : gs_L) (st' : List gs_V) (m' : gs_M), go ins.2.1 is lo' st' m' = some r → gs_Tg p l e R s m₀ args below meth c G nL u0 z0 r ins.2.1 lo' st' m') →
    gs_step X C hs go pc ins is lo st m = some r → gs_Tg p l e R s m₀ args below meth c G nL u0 z0 r pc lo st m
theorem gs_run_ok {X : gs_E} {C : Nat → List gs_V → gs_M → gs_O} {T : gs_T} {K : Nat → gs_L → List gs_V → gs_M → gs_O} {o rb : Nat} {ini sp : Bool}
    (hC : gs_Cx p s m₀ args meth c G cc nL (gs_own o) u0) (hin : ini = true → meth.name = "<init>") (hrt : meth.sig.returnType = gs_rt rb)
    (hI : ∀ (go : gs_Go) (pc : Nat) (ins : gs_N) (is : List gs_N) (lo : gs_L) (st : List gs_V) (m : gs_M), gs_hard ins = true → gs_h2 ins = false → gs_ch sp o cc pc ins = true →
      (∀ (pc' : Nat) (is' : List gs_N) (lo' : gs_L) (st' : List gs_V) (m' : gs_M), gs_cis sp o nL cc rb ini pc' is' = true → go pc' is' lo' st' m' = some r → gs_Tg p l e R s m₀ args below meth c G nL u0 z0 r pc' lo' st' m') →
      gs_cis sp o nL cc rb ini ins.2.1 is = true → gs_step X C T.1 go pc ins is lo st m = some r → gs_Tg p l e R s m₀ args below meth c G nL u0 z0 r pc lo st m)
    (hH : gs_HH p l e R s m₀ args below meth c G cc nL u0 z0 o rb ini r X) (hB : ∀ b ∈ T.2.1, gs_cis sp o nL cc rb ini b.1 b.2 = true)
    (hK : ∀ (pc : Nat) (lo : gs_L) (st : List gs_V) (m : gs_M), K pc lo st m = some r → gs_Tg p l e R s m₀ args below meth c G nL u0 z0 r pc lo st m) :
    ∀ (n pc : Nat) (is : List gs_N) (lo : gs_L) (st : List gs_V) (m : gs_M), gs_cis sp o nL cc rb ini pc is = true → gs_run X C T K n pc is lo st m = some r → gs_Tg p l e R s m₀ args below meth c G nL u0 z0 r pc lo st m
  | 0, pc, is, lo, st, m, _, h => by cases is <;> cases h
  | n + 1, pc, [], lo, st, m, _, h => by
    unfold gs_run at h
    split at h
    · next ks hks => exact gs_Tg_sub (hK _ _ _ _ h) (gs_pick_mem ks)
    · split at h
      · next is his => exact gs_run_ok hC hin hrt hI hH hB hK n pc is lo st m (hB _ (gs_fb_mem _ his)) h
      · cases h
  | n + 1, pc, i :: is, lo, st, m, hc, h => by
    unfold gs_run at h
    simp only [gs_cis, Bool.and_eq_true] at hc
    obtain ⟨⟨⟨hci, hch⟩, hc3⟩, his⟩ := hc
    have ih := gs_run_ok hC hin hrt hI hH hB hK n
    refine gs_step_ok (ok := fun q is => gs_cis sp o nL cc rb ini q is = true) hC hin hrt (fun _ => rfl) (fun pc' is' lo' st' m' hok hg => ih pc' is' lo' st' m' hok hg) i hci his (fun hh => ?_) h
    cases h2 : gs_h2 i with
    | true => exact hH C T.1 _ pc i is lo st m h2 hci hc3 (fun lo' st' m' hg => ih _ _ _ _ _ his hg) h
    | false => exact hI _ pc i is lo st m hh h2 hch ih his h
end GSN
