/-! Calls: what the callee's contract gives at the call; a throw that leaves the method. -/
def gs_TX (p : Program) (l : Launch) (e : Env) (R : Room) (s : State) (m₀ : MethodId) (args : Array Value) (below : List Frame) (meth : Method) (c : Code) (G : gs_G) (nL u0 z0 : Nat) (r : gs_R × gs_M) (pc : Nat) (lo : gs_L) (x : Nat) (m : gs_M) : Prop :=
  (gs_us m ≤ gs_us r.2 ∧ m.1.2.2 ≤ r.2.1.2.2) ∧
  (u0 ≤ gs_us m → z0 ≤ m.1.2.2 → ∀ (H : Heap) (locs : List Loc) (ls : Array Slot) (q : Addr) (ce : Cell) (rest : List Value), gs_Rep G m H → va_S (gs_A G) s.heap H locs → lv_has ls nL (gs_cl G lo) → H[q]? = some ce → ce.vm = .none → s.vm.findClass (gs_ex x) = some ce.cls →
    vx_W p l e R s m₀ args below meth c H locs (gs_us m - u0) (m.1.2.2 - z0) (vx_MQ below (gs_Qc G r) (gs_XC G r) args s (gs_us r.2 - u0) (r.2.1.2.2 - z0) (gs_A G)) (F0 m₀ pc ls rest) q)
theorem gs_call_ok {C : Nat → List gs_V → gs_M → gs_O} {hd : Nat → gs_M → gs_O} {go : gs_Go} {nx k rk : Nat} {as rest : List gs_V} {is : List gs_N} {lo : gs_L} {m : gs_M} {r : gs_R × gs_M} (h : gs_call C hd go nx k rk as rest is lo m = some r) :
    gs_cs rest ≤ 8 ∧ ∃ r' : gs_R × gs_M, C k as m = some r' ∧ ((∃ v : Option gs_V, r'.1 = .inl v ∧ go nx is lo (v.toList ++ rest) r'.2 = some r) ∨ ∃ x : Nat, r'.1 = .inr x ∧ hd x r'.2 = some r) := by
  unfold gs_call at h
  obtain ⟨h8, h⟩ := gs_cd_ok h
  refine ⟨Nat.le_of_ble_eq_true h8, ?_⟩
  split at h
  · unfold gs_bI at h
    split at h
    · next x m' hc => exact ⟨_, hc, Or.inl ⟨some (.inl x), rfl, h⟩⟩
    · next x m' hc => exact ⟨_, hc, Or.inr ⟨x, rfl, h⟩⟩
    · cases h
  · unfold gs_bJ at h
    split at h
    · next x m' hc => exact ⟨_, hc, Or.inl ⟨some (.inr (.inl x)), rfl, h⟩⟩
    · next x m' hc => exact ⟨_, hc, Or.inr ⟨x, rfl, h⟩⟩
    · cases h
  · unfold gs_bA at h
    split at h
    · next x m' hc => exact ⟨_, hc, Or.inl ⟨some (.inr (.inr x)), rfl, h⟩⟩
    · next x m' hc => exact ⟨_, hc, Or.inr ⟨x, rfl, h⟩⟩
    · cases h
  · unfold gs_bU at h
    split at h
    · next m' hc => exact ⟨_, hc, Or.inl ⟨none, rfl, h⟩⟩
    · next x m' hc => exact ⟨_, hc, Or.inr ⟨x, rfl, h⟩⟩
    · cases h
theorem gs_cs_sum (G : gs_G) : ∀ st : List gs_V, ((st.map (gs_cv G)).map fun v => v.category).sum = gs_cs st
  | [] => rfl
  | v :: t => by
    simp only [List.map_cons, List.sum_cons, gs_cs_sum G t, gs_cs, gs_cat]
    cases gs_two v <;> simp <;> omega
section GSC
variable {p : Program} {l : Launch} {e : Env} {R : Room} {s : State} {m₀ : MethodId} {args : Array Value} {below : List Frame} {meth : Method} {c : Code} {G : gs_G} {cc : ByteArray} {nL u0 z0 : Nat} {r : gs_R × gs_M}
theorem gs_callT {own : String} {C : Nat → List gs_V → gs_M → gs_O} {hd : Nat → gs_M → gs_O} {go : gs_Go} {pc k rk : Nat} {as rest st : List gs_V} {is : List gs_N} {lo : gs_L} {m : gs_M} {av : Array Value}
    (hC : gs_Cx p s m₀ args meth c G cc nL own u0) (hR0 : R.cells = gs_us r.2 - u0 ∧ R.slots = r.2.1.2.2 - z0)
    (hgo : ∀ (v : Option gs_V) (m' : gs_M), go (pc + 3) is lo (v.toList ++ rest) m' = some r → gs_Tg p l e R s m₀ args below meth c G nL u0 z0 r (pc + 3) lo (v.toList ++ rest) m')
    (hX : ∀ (x : Nat) (m' : gs_M), hd x m' = some r → gs_TX p l e R s m₀ args below meth c G nL u0 z0 r pc lo x m')
    (hrun : gs_cs rest ≤ 8 → ∀ r' : gs_R × gs_M, C k as m = some r' → (gs_us m ≤ gs_us r'.2 ∧ m.1.2.2 ≤ r'.2.1.2.2) ∧ ∀ (H : Heap) (locs : List Loc) (cells slots : Nat) (ls : Array Slot), gs_Rep G m H → va_S (gs_A G) s.heap H locs → ls.size = nL → G.1 ≤ H.size → H.size ≤ G.1 + gs_us m → cells + (gs_us r'.2 - gs_us m) ≤ R.cells → slots + (r'.2.1.2.2 - m.1.2.2) ≤ R.slots →
      vx_Run p l e R s m₀ args below meth c H locs cells slots (gs_us r'.2 - gs_us m) (r'.2.1.2.2 - m.1.2.2) (F0 m₀ pc ls (st.map (gs_cv G))) (rest.map (gs_cv G)) (gs_Qc G r' av) (gs_XC G r') (gs_A G))
    (h : gs_call C hd go (pc + 3) k rk as rest is lo m = some r) : gs_Tg p l e R s m₀ args below meth c G nL u0 z0 r pc lo st m := by
  obtain ⟨hx, hb, hml, hown, hgw, hK, hlk, hs1, hs2⟩ := id hC
  obtain ⟨h8, r', hc, hres⟩ := gs_call_ok h
  obtain ⟨⟨hm1, hm2⟩, hrun⟩ := hrun h8 r' hc
  have size : ∀ (H : Heap) (locs : List Loc), u0 ≤ gs_us m → ∀ T : State, T.heap = H → Stand p l e R s m₀ args below meth c T locs (gs_us m - u0) (m.1.2.2 - z0) → H.size ≤ G.1 + gs_us m := by
    intro H locs hu T hT X
    have h1 := X.heapSize
    rw [hT] at h1
    omega
  rcases hres with ⟨v, hv, hg⟩ | ⟨x, hv, hg⟩
  · have hT := hgo v r'.2 hg
    refine ⟨⟨Nat.le_trans hm1 hT.1.1, Nat.le_trans hm2 hT.1.2⟩, fun hu hz H locs ls hR hS hl => ?_⟩
    intro T hTh X
    have hsz := size H locs hu T hTh X
    have hlo : G.1 ≤ H.size := Nat.le_trans hs1 hS.1
    have hu2 := hT.1.1
    have hz2 := hT.1.2
    rcases hrun H locs (gs_us m - u0) (m.1.2.2 - z0) ls hR hS hl.1 hlo hsz (by rw [hR0.1]; omega) (by rw [hR0.2]; omega) T hTh X with ⟨v', st₀, t, T', L, h0, X', hL, e1, e2, hq, st⟩ | ⟨q, st₀, t, T', L, E, ce, h0, X', hL, e1, e2, hq, -⟩
    · obtain ⟨v2, hv2, hv3, hR2, hF⟩ := hq
      rw [hv] at hv2
      cases hv2
      cases hv3
      obtain ⟨k1, k2, k3⟩ := vx_keep h0 e1 hS (fun q _ h => h) (fun q h => h) hL hF
      have ec : gs_us m - u0 + (gs_us r'.2 - gs_us m) = gs_us r'.2 - u0 := by omega
      have ez : m.1.2.2 - z0 + (r'.2.1.2.2 - m.1.2.2) = r'.2.1.2.2 - z0 := by omega
      rw [ec, ez] at X'
      have es : (v.map (gs_cv G)).toList ++ rest.map (gs_cv G) = (v.toList ++ rest).map (gs_cv G) := by
        cases v <;> rfl
      rw [es] at st
      obtain ⟨t2, a1, b1⟩ := hT.2 (by omega) (by omega) T'.heap (locs ++ L) ls (by rw [e1]; exact hR2) k3 hl T' rfl X'
      exact ⟨t2, st t2 a1, b1⟩
    · obtain ⟨x, hx1, -⟩ := hq
      rw [hv] at hx1
      cases hx1
  · have hT := hX x r'.2 hg
    refine ⟨⟨Nat.le_trans hm1 hT.1.1, Nat.le_trans hm2 hT.1.2⟩, fun hu hz H locs ls hR hS hl => ?_⟩
    intro T hTh X
    have hsz := size H locs hu T hTh X
    have hlo : G.1 ≤ H.size := Nat.le_trans hs1 hS.1
    have hu2 := hT.1.1
    have hz2 := hT.1.2
    rcases hrun H locs (gs_us m - u0) (m.1.2.2 - z0) ls hR hS hl.1 hlo hsz (by rw [hR0.1]; omega) (by rw [hR0.2]; omega) T hTh X with ⟨v', st₀, t, T', L, h0, X', hL, e1, e2, hq, -⟩ | ⟨q, st₀, t, T', L, E, ce, h0, X', hL, e1, e2, hq, hce, hcv, hcl, st⟩
    · obtain ⟨v2, hv2, -⟩ := hq
      rw [hv] at hv2
      cases hv2
    · obtain ⟨x2, hx2, hE, hR2, hF⟩ := hq
      rw [hv] at hx2
      cases hx2
      subst hE
      obtain ⟨k1, k2, k3⟩ := vx_keep h0 e1 hS (fun q _ h => h) (fun q h => h) hL hF
      have ec : gs_us m - u0 + (gs_us r'.2 - gs_us m) = gs_us r'.2 - u0 := by omega
      have ez : m.1.2.2 - z0 + (r'.2.1.2.2 - m.1.2.2) = r'.2.1.2.2 - z0 := by omega
      rw [ec, ez] at X'
      obtain ⟨t2, a1, b1⟩ := hT.2 (by omega) (by omega) T'.heap (locs ++ L) ls q ce (rest.map (gs_cv G)) (by rw [e1]; exact hR2) k3 hl (by rw [e1]; exact hce) hcv hcl T' rfl X'
      exact ⟨t2, st.trans a1, b1⟩
/-- no table: what is thrown leaves -/
theorem gs_out {own : String} {pc x : Nat} {go : gs_Go} {lo : gs_L} {m' : gs_M} (hC : gs_Cx p s m₀ args meth c G cc nL own u0) (ht : ∀ y ∈ c.exceptionTable.toList, False) (h : gs_hd [] pc go lo x m' = some r) : gs_TX p l e R s m₀ args below meth c G nL u0 z0 r pc lo x m' := by
  have h : gs_th x m' = some r := h
  cases h
  refine ⟨⟨Nat.le_refl _, Nat.le_refl _⟩, fun hu hz H locs ls q ce rest hR hS hl hq hv hcl => ?_⟩
  refine vx_out (fun y hy => (ht y hy).elim) hC.2.2.2.2.2.2.1 hq hv hcl (fun t ht _ => ⟨x, rfl, rfl, by rw [ht]; exact hR, hS.F ht⟩) hS.2.2 (Nat.le_refl _) (Nat.le_refl _)
end GSC
/-- a method's contract, at depth d -/
def gs_wk (k : Nat) : List Cond := gs_kw k :: lw_tbl.filter goodWord
def gs_Pc (G : gs_G) (St : State → Prop) (as : List gs_V) (m : gs_M) : Array Value → State → Prop := va_Pc (as.map (gs_cv G)) (fun U => gs_Rep G m U.heap ∧ gs_K G U ∧ St U ∧ G.1 ≤ U.heap.size ∧ U.heap.size ≤ G.1 + gs_us m)
def gs_Rm (d cells slots : Nat) : Room := { frames := d + 12, cells := cells, slots := slots, locals := 60 * (d + 12) }
def gs_Mt (l : Launch) (G : gs_G) (St : State → Prop) (d k : Nat) (as : List gs_V) (m : gs_M) (r : gs_R × gs_M) : Prop :=
  (gs_us m ≤ gs_us r.2 ∧ m.1.2.2 ≤ r.2.1.2.2) ∧ vx_Met l (gs_y k).1 (gs_wk k) (gs_Rm d (gs_us r.2 - gs_us m) (r.2.1.2.2 - m.1.2.2)) (gs_Pc G St as m) (gs_Qc G r) (gs_XC G r) (gs_us r.2 - gs_us m) (r.2.1.2.2 - m.1.2.2) (gs_A G)
/-- what the start gives and nothing changes -/
def gs_Stk (G : gs_G) (St : State → Prop) : Prop := ∀ U U' : State, U.WarmedH U'.vm → U.heap.size ≤ U'.heap.size → (∀ q : Nat, q < U.heap.size → ¬ gs_A G q → U'.heap[q]? = U.heap[q]?) → St U → St U'
section GSD
variable {p : Program} {l : Launch} {e : Env} {R : Room} {s : State} {m₀ : MethodId} {args : Array Value} {below : List Frame} {meth : Method} {c : Code} {G : gs_G} {cc : ByteArray} {nL u0 : Nat} {St : State → Prop}
theorem gs_Pc_blind {as : List gs_V} {m : gs_M} (hSt : gs_Stk G St) : FrameBlind (gs_Pc G St as m) := by
  intro a U g mk h
  obtain ⟨h1, h2, h3, h4, h5, h6⟩ := h
  exact ⟨h1, h2, va_K.moved (u := U) (U := U.calling g mk a) (Vm.Alike.refl U.vm) h3, hSt U _ (State.WarmedH.refl U) (Nat.le_refl _) (fun _ _ _ => rfl) h4, h5, h6⟩
theorem gs_Pc_at {own : String} {as : List gs_V} {m : gs_M} {H : Heap} {locs : List Loc} (hC : gs_Cx p s m₀ args meth c G cc nL own u0) (hSt : gs_Stk G St) (hs : St s) (hR : gs_Rep G m H) (hS : va_S (gs_A G) s.heap H locs) (h1 : G.1 ≤ H.size) (h2 : H.size ≤ G.1 + gs_us m) :
    ∀ U : State, U.heap = H → s.WarmedH U.vm → gs_Pc G St as m (as.map (gs_cv G)).toArray U := by
  intro U hU hW
  refine ⟨rfl, by rw [hU]; exact hR, va_K.moved hW.alike hC.2.2.2.2.2.1, hSt s U hW (by rw [hU]; exact hS.1) (fun q hq hA => by rw [hU]; exact hS.2.1 q hq hA) hs, by rw [hU]; exact h1, by rw [hU]; exact h2⟩
end GSD
