/-! The other instructions: new cells, Object's constructor, rows of references. -/
theorem gs_kind_lt {a : Nat} (h : gs_kind a < 99) : a < 153 := by
  rcases Nat.lt_or_ge a 153 with h1 | h1
  · exact h1
  · unfold gs_kind at h
    rw [List.getD_eq_getElem?_getD, List.getElem?_eq_none (by show gs_kinds.length ≤ a; exact Nat.le_trans (by decide +kernel) h1)] at h
    exact absurd h (by decide)
theorem gs_nw_fv {G : gs_G} {m : gs_M} {z t j : Nat} {ty : FieldType} (h : gs_cod t ty = true) : defaultValue ty = gs_fv G (gs_nw m z) (gs_pm m.1.1) t j := by
  have e1 : (gs_nw m z).2.1 (gs_pm m.1.1) j = 0 := by show gs_up1 _ _ _ (gs_pm m.1.1) j = 0; simp [gs_up1]
  have e2 : (gs_nw m z).2.2.1 (gs_pm m.1.1) j = 0 := by show gs_up1 _ _ _ (gs_pm m.1.1) j = 0; simp [gs_up1]
  have e3 : (gs_nw m z).2.2.2 (gs_pm m.1.1) j = none := by show gs_up1 _ _ _ (gs_pm m.1.1) j = none; simp [gs_up1]
  unfold gs_fv
  unfold gs_cod at h
  split at h
  · rw [e1]; rfl
  · rw [e2]; rfl
  · rw [e3]; rfl
  · rw [e3]; rfl
  · rw [e1]; rfl
  · cases h
section GSHH
variable {p : Program} {l : Launch} {e : Env} {R : Room} {s : State} {m₀ : MethodId} {args : Array Value} {below : List Frame} {meth : Method} {c : Code} {G : gs_G} {cc : ByteArray} {nL u0 z0 o : Nat} {r : gs_R × gs_M} {go : gs_Go} {pc nx a1 a2 a3 a4 idx : Nat} {cv : gs_V} {sw : List (Int32 × Nat)} {is : List gs_N} {lo : gs_L} {st : List gs_V} {m : gs_M} {X : gs_E} {C : Nat → List gs_V → gs_M → gs_O} {hs : List (Nat × Nat × Nat × Nat × Nat × Nat × Nat)}
theorem gs_hh_obj (hC : gs_Cx p s m₀ args meth c G cc nL (gs_own o) u0) (hRd : 13 ≤ R.frames ∧ 780 ≤ R.locals) (hd : decode cc pc = .ok (.invokespecial idx, 3)) (hoi : (o, idx) ∈ gs_oi)
    (hgo : ∀ (lo' : gs_L) (st' : List gs_V) (m' : gs_M), go (pc + 3) is lo' st' m' = some r → gs_Tg p l e R s m₀ args below meth c G nL u0 z0 r (pc + 3) lo' st' m')
    (h : gs_a1 st (fun _ st => cond (Nat.ble (gs_cs st) 8) (go (pc + 3) is lo st m) none) = some r) : gs_Tg p l e R s m₀ args below meth c G nL u0 z0 r pc lo st m := by
  obtain ⟨hx, hb, hml, hown, hgw, hK, hlk, hsz⟩ := id hC
  obtain ⟨a, st, rfl, h⟩ := gs_a1_ok h
  obtain ⟨h8, h⟩ := gs_cd_ok h
  have h8 := Nat.le_of_ble_eq_true h8
  refine gs_mv (hgo _ _ _ h) (fun H locs cells slots Q ls hl k => ?_)
  refine W.objInit hx hb hown (hgw _ (gs_oi_ok hoi)) (hgw _ gs_oj1) (hgw _ gs_oj2) (g := F0 m₀ pc ls (.ref (gs_ad G a) :: st.map (gs_cv G))) rfl (hl.1.trans hml.symm) rfl hd (by omega) ?_ k
  have h9 := lv_room (m := m₀) (pc := pc) (ls := ls) (rest := .ref (gs_ad G a) :: st.map (gs_cv G)) (st := st.map (gs_cv G)) (by rw [gs_cs_sum]; exact h8)
  omega
theorem gs_hh_new (hC : gs_Cx p s m₀ args meth c G cc nL (gs_own o) u0) (hR0 : R.cells = gs_us r.2 - u0 ∧ R.slots = r.2.1.2.2 - z0) (hd : decode cc pc = .ok (.new idx, 3)) (hc : a1 < 12) (hun : (o, idx, (gs_cl? a1).1) ∈ gs_un) (ha2 : a2 = (gs_cl? a1).2.2)
    (hgo : ∀ (lo' : gs_L) (st' : List gs_V) (m' : gs_M), go (pc + 3) is lo' st' m' = some r → gs_Tg p l e R s m₀ args below meth c G nL u0 z0 r (pc + 3) lo' st' m')
    (h : cond (Nat.beq m.1.2.1 0 && Nat.beq (gs_kind (gs_pm m.1.1)) a1) (go (pc + 3) is lo (.inr (.inr (gs_pm m.1.1)) :: st) (gs_nw m a2)) none = some r) : gs_Tg p l e R s m₀ args below meth c G nL u0 z0 r pc lo st m := by
  obtain ⟨hx, hb, hml, hown, hgw, hK, hlk, hs1, hs2⟩ := id hC
  obtain ⟨hb1, h⟩ := gs_cd_ok h
  simp only [Bool.and_eq_true] at hb1
  have hg := Nat.eq_of_beq_eq_true hb1.1
  have hk := Nat.eq_of_beq_eq_true hb1.2
  obtain ⟨q, hq⟩ := gs_clLt hc
  have eq0 : gs_cl? a1 = q := by
    unfold gs_cl?
    simp only [List.getD_eq_getElem?_getD, hq, Option.getD_some]
  obtain ⟨hw, hty, hnm, hlen, hcod⟩ := gs_clAll hq
  have hiw := gs_iw hc
  rw [eq0] at hiw hun ha2
  refine gs_newT2 (z := a2) hC hg (gs_ce_obj hk hc) (gs_kind_lt (by omega)) (hgo _ _ _ h) (fun H locs cells slots Q ls hR hS hc1 hc2 kk => ?_)
  subst ha2
  refine va_new (C := q.1) (T := q.2.1) (N := q.2.2) (ci := a1) (index := idx) (Ts := u_ws q.1 q.2.1 q.2.2) hx hb (fun w h => hgw w (hw w h)) (fun w h => h) (gs_tyc a1) hty hown (hgw _ (gs_un_ok hun)) (hgw _ hiw.1) (hgw _ hiw.2) hK hR.1 (gs_D G _ _) hS (fun z hz => Nat.le_trans hs1 hz) hq (fun j hj => ?_) (by rw [hR0.1]; exact hc1) (by rw [hR0.2]; exact hc2) hd kk
  have hj2 : j < (gs_ftab.getD a1 []).length := by rw [hlen]; exact hj
  have h9 := hcod j hj
  unfold vp_V
  rw [List.getD_eq_getElem?_getD, gs_ob_get, List.getElem?_eq_getElem hj2, Option.map_some, Option.getD_some, Nat.zero_add]
  refine gs_nw_fv ?_
  rw [List.getD_eq_getElem?_getD (l := gs_ftab.getD a1 []), List.getElem?_eq_getElem hj2, Option.getD_some] at h9
  exact h9
theorem gs_fc {U : State} {cA cB : ClassId} {ty : FieldType} (h1 : va_RA U cA ty) (h2 : va_RA U cB ty) : cA = cB := by
  cases ty with
  | object C =>
    obtain ⟨_, _, -, -, -, h1⟩ := h1
    obtain ⟨_, _, -, -, -, h2⟩ := h2
    exact Option.some.inj (h1.symm.trans h2)
  | _ => exact Option.some.inj (Eq.trans (Eq.symm (show U.vm.findClass _ = some cA from h1)) h2)
theorem gs_hh_arr (hC : gs_Cx p s m₀ args meth c G cc nL (gs_own o) u0) (hR0 : R.cells = gs_us r.2 - u0 ∧ R.slots = r.2.1.2.2 - z0) {aty : ArrayType} {ty : FieldType} {t0 : Nat} (hd : decode cc pc = .ok (.newarray aty, 2)) (hty : newarray.typeOf aty = ty) (hac : gs_gw (.arrayClass ty)) (ht0 : (gs_tys G)[t0]? = some (G.2.2.1 a1, ty)) (h12 : ¬ a1 < 12) (h99 : a1 < 99) (hbt : ∀ n, n ≤ 20000 → n * componentBytes ty ≤ 536870912)
    (hrw : ∀ cA : ClassId, vp_cell cA (gs_len (gs_pm m.1.1), gs_rw G (gs_nw m (gs_len (gs_pm m.1.1))) (gs_pm m.1.1) a1) = arrV cA (gs_len (gs_pm m.1.1)) (fun _ => defaultValue ty)) (hln : gs_len (gs_pm m.1.1) ≤ 20000)
    (hgo : ∀ (lo' : gs_L) (st' : List gs_V) (m' : gs_M), go (pc + 2) is lo' st' m' = some r → gs_Tg p l e R s m₀ args below meth c G nL u0 z0 r (pc + 2) lo' st' m')
    (h : gs_i1 st (fun x st => cond (Nat.beq m.1.2.1 0 && Nat.beq (gs_kind (gs_pm m.1.1)) a1 && !(decide (x < 0)) && Nat.beq x.toNatClampNeg (gs_len (gs_pm m.1.1))) (go (pc + 2) is lo (.inr (.inr (gs_pm m.1.1)) :: st) (gs_nw m (gs_len (gs_pm m.1.1)))) none) = some r) : gs_Tg p l e R s m₀ args below meth c G nL u0 z0 r pc lo st m := by
  obtain ⟨hx, hb, hml, hown, hgw, hK, hlk, hs1, hs2⟩ := id hC
  obtain ⟨x, st, rfl, h⟩ := gs_i1_ok h
  obtain ⟨hb1, h⟩ := gs_cd_ok h
  simp only [Bool.and_eq_true, Bool.not_eq_true', decide_eq_false_iff_not] at hb1
  obtain ⟨⟨⟨hg, hk⟩, hx0⟩, hxn⟩ := hb1
  have hg := Nat.eq_of_beq_eq_true hg
  have hk := Nat.eq_of_beq_eq_true hk
  have hxn := Nat.eq_of_beq_eq_true hxn
  refine gs_newT2 (z := gs_len (gs_pm m.1.1)) (sv := .inl x :: st) hC hg (gs_ce_arr hk h12) (gs_kind_lt (by omega)) (hgo _ _ _ h) (fun H locs cells slots Q ls hR hS hc1 hc2 kk => ?_)
  refine va_newa (ty := ty) (a0 := (gs_len (gs_pm m.1.1), gs_rw G (gs_nw m (gs_len (gs_pm m.1.1))) (gs_pm m.1.1) a1)) hx hb (by rw [hty]; exact hgw _ hac) hty hK hR.1 (gs_D G _ _) hS (fun z hz => Nat.le_trans hs1 hz) hrw hx0 hxn (hbt _ hln) (by rw [hR0.1]; exact hc1) (by rw [hR0.2]; exact hc2) hd (fun q cA H1 hK1 hP1 hD1 hS1 => ?_)
  have hcA : cA = G.2.2.1 a1 := by
    have e1 := (hK1.2 (gs_tys G).length (cA, ty) (by rw [List.getElem?_append_right (Nat.le_refl _)]; simp)).2
    have e2 := (hK.2 t0 _ ht0).2
    exact gs_fc e1 e2
  subst hcA
  exact kk q H1 hP1 hD1 hS1
theorem gs_hh_aarr (hC : gs_Cx p s m₀ args meth c G cc nL (gs_own o) u0) (hR0 : R.cells = gs_us r.2 - u0 ∧ R.slots = r.2.1.2.2 - z0) {Cn : String} {t0 : Nat} (hd : decode cc pc = .ok (.anewarray idx, 3)) (hun : (o, idx, Cn) ∈ gs_un) (hao : va_AO Cn s) (ht0 : (gs_tys G)[t0]? = some (G.2.2.1 a1, .object Cn)) (h15 : a1 = 15 ∨ a1 = 16) (hln : gs_len (gs_pm m.1.1) ≤ 20000)
    (hgo : ∀ (lo' : gs_L) (st' : List gs_V) (m' : gs_M), go (pc + 3) is lo' st' m' = some r → gs_Tg p l e R s m₀ args below meth c G nL u0 z0 r (pc + 3) lo' st' m')
    (h : gs_i1 st (fun x st => cond (Nat.beq m.1.2.1 0 && Nat.beq (gs_kind (gs_pm m.1.1)) a1 && !(decide (x < 0)) && Nat.beq x.toNatClampNeg (gs_len (gs_pm m.1.1))) (go (pc + 3) is lo (.inr (.inr (gs_pm m.1.1)) :: st) (gs_nw m (gs_len (gs_pm m.1.1)))) none) = some r) : gs_Tg p l e R s m₀ args below meth c G nL u0 z0 r pc lo st m := by
  obtain ⟨hx, hb, hml, hown, hgw, hK, hlk, hs1, hs2⟩ := id hC
  obtain ⟨x, st, rfl, h⟩ := gs_i1_ok h
  obtain ⟨hb1, h⟩ := gs_cd_ok h
  simp only [Bool.and_eq_true, Bool.not_eq_true', decide_eq_false_iff_not] at hb1
  obtain ⟨⟨⟨hg, hk⟩, hx0⟩, hxn⟩ := hb1
  have hg := Nat.eq_of_beq_eq_true hg
  have hk := Nat.eq_of_beq_eq_true hk
  have hxn := Nat.eq_of_beq_eq_true hxn
  have hrw : gs_rw G (gs_nw m (gs_len (gs_pm m.1.1))) (gs_pm m.1.1) a1 = .inr (.inr (.inr (.inr (fun _ => none)))) := by
    have e3 : ∀ i, (gs_nw m (gs_len (gs_pm m.1.1))).2.2.2 (gs_pm m.1.1) i = none := by intro i; show gs_up1 _ _ _ (gs_pm m.1.1) i = none; simp [gs_up1]
    rcases h15 with rfl | rfl
    · show Sum.inr (Sum.inr (Sum.inr (Sum.inr (fun i => ((gs_nw m (gs_len (gs_pm m.1.1))).2.2.2 (gs_pm m.1.1) i).map (fun b => G.1 + gs_rk b))))) = _
      simp only [e3, Option.map_none]
    · show Sum.inr (Sum.inr (Sum.inr (Sum.inr (fun i => ((gs_nw m (gs_len (gs_pm m.1.1))).2.2.2 (gs_pm m.1.1) i).map (fun b => G.1 + gs_rk b))))) = _
      simp only [e3, Option.map_none]
  refine gs_newT2 (z := gs_len (gs_pm m.1.1)) (sv := .inl x :: st) hC hg (gs_ce_arr hk (by omega)) (gs_kind_lt (by omega)) (hgo _ _ _ h) (fun H locs cells slots Q ls hR hS hc1 hc2 kk => ?_)
  rw [hrw] at kk
  refine va_newq hx hb hown (hgw _ (gs_un_ok hun)) hao hK hR.1 (gs_D G _ _) hS (fun z hz => Nat.le_trans hs1 hz) hx0 hxn (by omega) (by rw [hR0.1]; exact hc1) (by rw [hR0.2]; exact hc2) hd (fun q cA H1 hK1 hP1 hD1 hS1 => ?_)
  have hcA : cA = G.2.2.1 a1 := by
    have e1 := (hK1.2 (gs_tys G).length (cA, .object Cn) (by rw [List.getElem?_append_right (Nat.le_refl _)]; simp)).2
    have e2 := (hK.2 t0 _ ht0).2
    exact gs_fc e1 e2
  subst hcA
  exact kk q H1 hP1 hD1 hS1
theorem gs_hh_aast (hC : gs_Cx p s m₀ args meth c G cc nL (gs_own o) u0) (hd : decode cc pc = .ok (.aastore, 1))
    (hgo : ∀ (lo' : gs_L) (st' : List gs_V) (m' : gs_M), go (pc + 1) is lo' st' m' = some r → gs_Tg p l e R s m₀ args below meth c G nL u0 z0 r (pc + 1) lo' st' m')
    (h : gs_aia st (fun x j a st => cond (gs_ok x (cond (Nat.beq (gs_kind a) 15) 0 2) m.1.1) (gs_ix m a (cond (Nat.beq (gs_kind a) 15) 15 16) j (fun k => go (pc + 1) is lo st (gs_sR m a k x))) none) = some r) : gs_Tg p l e R s m₀ args below meth c G nL u0 z0 r pc lo st m := by
  obtain ⟨hx, hb, hml, hown, hgw, hK, hlk, hs1, hs2⟩ := id hC
  obtain ⟨x, j, a, st, rfl, h⟩ := gs_aia_ok h
  obtain ⟨hb1, h⟩ := gs_cd_ok h
  obtain ⟨⟨hk, ha⟩, hi, h⟩ := gs_ix_ok h
  have hx1 := gs_ok_iff hb1
  refine gs_mvM (m2 := gs_sR m a j.toNatClampNeg x) (hgo _ _ _ h) rfl (fun h1 h2 => gs_sR_lt h1 h2 hx1.2) (fun H locs cells slots Q ls hR hS hl kk => ?_)
  obtain ⟨kx, hkx⟩ := gs_at G m hx1.2
  show W p l e R s m₀ args below meth c H locs cells slots Q (F0 m₀ pc ls (.ref (gs_ad G x) :: .int j :: .ref (gs_ad G a) :: st.map (gs_cv G)))
  rw [gs_ad_lt (Nat.lt_of_lt_of_le ha hR.2.1), gs_ad_lt (Nat.lt_of_lt_of_le hx1.2 hR.2.1)]
  have hup : ∀ kd : Nat, (kd = 15 ∨ kd = 16) → gs_rw G (gs_sR m a j.toNatClampNeg x) a kd = .inr (.inr (.inr (.inr (va_up (fun i => (m.2.2.2 a i).map (fun b => G.1 + gs_rk b)) j.toNatClampNeg (some (G.1 + gs_rk x)))))) := by
    intro kd hkd
    have e : (fun i => ((gs_sR m a j.toNatClampNeg x).2.2.2 a i).map (fun b => G.1 + gs_rk b)) = va_up (fun i => (m.2.2.2 a i).map (fun b => G.1 + gs_rk b)) j.toNatClampNeg (some (G.1 + gs_rk x)) := by
      funext i
      show (gs_up2 m.2.2.2 a j.toNatClampNeg (some x) a i).map (fun b => G.1 + gs_rk b) = _
      unfold va_up
      by_cases hij : i = j.toNatClampNeg
      · subst hij
        rw [gs_up2_at, if_pos rfl]
        rfl
      · rw [gs_up2_nj _ _ _ _ hij, if_neg hij]
    rcases hkd with rfl | rfl
    · show Sum.inr (Sum.inr (Sum.inr (Sum.inr (fun i => ((gs_sR m a j.toNatClampNeg x).2.2.2 a i).map (fun b => G.1 + gs_rk b))))) = _
      rw [e]
    · show Sum.inr (Sum.inr (Sum.inr (Sum.inr (fun i => ((gs_sR m a j.toNatClampNeg x).2.2.2 a i).map (fun b => G.1 + gs_rk b))))) = _
      rw [e]
  cases hq : Nat.beq (gs_kind a) 15 with
  | true =>
    rw [hq] at hk hx1
    have hk : gs_kind a = 15 := hk
    have hkx0 : gs_kind x = 0 := hx1.1
    rw [gs_ce_obj hkx0 (by decide)] at hkx
    obtain ⟨k0, hk0, hk1⟩ := gs_arrP (H := H) G hk ha (by decide)
    refine va_astq (r := (RX0, TX0, 11)) hx hb hK hR.1 (gs_D G _ _) hS k0 3 kx 0 hk0 rfl hkx rfl hi hd (fun H1 locs1 hP1 hD1 hS1 => ?_)
    rw [gs_ws_set (m2 := gs_sR m a j.toNatClampNeg x) ha hk1 rfl ?_ (fun b h => gs_sR_ce h)] at hP1
    · exact kk H1 locs1 hP1 hS1
    · rw [gs_ce_arr hk (by decide), hup 15 (Or.inl rfl)]
  | false =>
    rw [hq] at hk hx1
    have hk : gs_kind a = 16 := hk
    have hkx0 : gs_kind x = 2 := hx1.1
    rw [gs_ce_obj hkx0 (by decide)] at hkx
    obtain ⟨k0, hk0, hk1⟩ := gs_arrP (H := H) G hk ha (by decide)
    refine va_astq (r := (RX2, TX2, 16)) hx hb hK hR.1 (gs_D G _ _) hS k0 4 kx 2 hk0 rfl hkx rfl hi hd (fun H1 locs1 hP1 hD1 hS1 => ?_)
    rw [gs_ws_set (m2 := gs_sR m a j.toNatClampNeg x) ha hk1 rfl ?_ (fun b h => gs_sR_ce h)] at hP1
    · exact kk H1 locs1 hP1 hS1
    · rw [gs_ce_arr hk (by decide), hup 16 (Or.inr rfl)]
end GSHH
