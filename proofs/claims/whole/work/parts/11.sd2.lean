/-! The context of a body, and single instructions over the pure memory. -/
def gs_gw (w : Cond) : Prop := w ∈ lw_tbl ∧ goodWord w = true
def gs_Cx (p : Program) (s : State) (m₀ : MethodId) (args : Array Value) (meth : Method) (c : Code) (G : gs_G) (cc : ByteArray) (nL : Nat) (own : String) (u0 : Nat) : Prop :=
  p.tables.exec = Jvm.exec ∧ c.code = cc ∧ c.maxLocals = nL ∧ s.vm.findClass own = some m₀.cls ∧ (∀ w, gs_gw w → w.before args s = true) ∧ gs_K G s ∧ meth.locks = false ∧ G.1 ≤ s.heap.size ∧ s.heap.size ≤ G.1 + u0
def gs_Tg (p : Program) (l : Launch) (e : Env) (R : Room) (s : State) (m₀ : MethodId) (args : Array Value) (below : List Frame) (meth : Method) (c : Code) (G : gs_G) (nL u0 z0 : Nat) (r : gs_R × gs_M) (pc : Nat) (lo : gs_L) (st : List gs_V) (m : gs_M) : Prop :=
  (gs_us m ≤ gs_us r.2 ∧ m.1.2.2 ≤ r.2.1.2.2) ∧
  (u0 ≤ gs_us m → z0 ≤ m.1.2.2 → ∀ (H : Heap) (locs : List Loc) (ls : Array Slot), gs_Rep G m H → va_S (gs_A G) s.heap H locs → lv_has ls nL (gs_cl G lo) →
    W p l e R s m₀ args below meth c H locs (gs_us m - u0) (m.1.2.2 - z0) (vx_MQ below (gs_Qc G r) (gs_XC G r) args s (gs_us r.2 - u0) (r.2.1.2.2 - z0) (gs_A G)) (F0 m₀ pc ls (st.map (gs_cv G))))
def gs_tyl : List (Nat → FieldType) := [tyX0, tyX1, tyX2, tyX3, tyX4, tyX5, tyX6, tyX8, tyX9, tyX10, tyX11, tyX12]
def gs_tyc (c : Nat) : Nat → FieldType := gs_tyl.getD c (fun _ => .int)
def gs_cod (t : Nat) (ty : FieldType) : Bool := match t, ty with
  | 0, .int => true
  | 1, .long => true
  | 2, .object _ => true
  | 2, .array _ => true
  | 3, .boolean => true
  | _, _ => false
def gs_clOk (c : Nat) (q : vw_C) : Prop := (∀ w ∈ u_ws q.1 q.2.1 q.2.2, gs_gw w) ∧ (∀ k, k < q.2.2 → parseFieldDescriptor (q.2.1 k).2.2.1 = some (gs_tyc c k)) ∧ (∀ a, a < q.2.2 → ∀ b, b < q.2.2 → a ≠ b → (q.2.1 a).2.1 ≠ (q.2.1 b).2.1) ∧ (gs_ftab.getD c []).length = q.2.2 ∧ ∀ k, k < q.2.2 → gs_cod ((gs_ftab.getD c []).getD k 9) (gs_tyc c k) = true
theorem gs_gw_all (ws : List Cond) (h : ws.all (fun w => decide (w ∈ lw_tbl) && goodWord w) = true) : ∀ w ∈ ws, gs_gw w := by
  intro w hw
  have h1 := List.all_eq_true.mp h w hw
  simp only [Bool.and_eq_true, decide_eq_true_eq] at h1
  exact h1
set_option maxRecDepth 100000 in
theorem gs_cl0 : gs_clOk 0 (RX0, TX0, 11) := ⟨gs_gw_all _ (by decide +kernel), tyX0_ok, nmX0, by decide, by decide⟩
set_option maxRecDepth 100000 in
theorem gs_cl1 : gs_clOk 1 (RX1, TX1, 1) := ⟨gs_gw_all _ (by decide +kernel), tyX1_ok, nmX1, by decide, by decide⟩
set_option maxRecDepth 100000 in
theorem gs_cl2 : gs_clOk 2 (RX2, TX2, 16) := ⟨gs_gw_all _ (by decide +kernel), tyX2_ok, nmX2, by decide, by decide⟩
set_option maxRecDepth 100000 in
theorem gs_cl3 : gs_clOk 3 (RX3, TX3, 4) := ⟨gs_gw_all _ (by decide +kernel), tyX3_ok, nmX3, by decide, by decide⟩
set_option maxRecDepth 100000 in
theorem gs_cl4 : gs_clOk 4 (RX4, TX4, 15) := ⟨gs_gw_all _ (by decide +kernel), tyX4_ok, nmX4, by decide, by decide⟩
set_option maxRecDepth 100000 in
theorem gs_cl5 : gs_clOk 5 (RX5, TX5, 11) := ⟨gs_gw_all _ (by decide +kernel), tyX5_ok, nmX5, by decide, by decide⟩
set_option maxRecDepth 100000 in
theorem gs_cl6 : gs_clOk 6 (RX6, TX6, 5) := ⟨gs_gw_all _ (by decide +kernel), tyX6_ok, nmX6, by decide, by decide⟩
set_option maxRecDepth 100000 in
theorem gs_cl7 : gs_clOk 7 (RX8, TX8, 14) := ⟨gs_gw_all _ (by decide +kernel), tyX8_ok, nmX8, by decide, by decide⟩
set_option maxRecDepth 100000 in
theorem gs_cl8 : gs_clOk 8 (RX9, TX9, 8) := ⟨gs_gw_all _ (by decide +kernel), tyX9_ok, nmX9, by decide, by decide⟩
set_option maxRecDepth 100000 in
theorem gs_cl9 : gs_clOk 9 (RX10, TX10, 4) := ⟨gs_gw_all _ (by decide +kernel), tyX10_ok, nmX10, by decide, by decide⟩
set_option maxRecDepth 100000 in
theorem gs_cl10 : gs_clOk 10 (RX11, TX11, 9) := ⟨gs_gw_all _ (by decide +kernel), tyX11_ok, nmX11, by decide, by decide⟩
set_option maxRecDepth 100000 in
theorem gs_cl11 : gs_clOk 11 (RX12, TX12, 60) := ⟨gs_gw_all _ (by decide +kernel), tyX12_ok, nmX12, by decide, by decide⟩
theorem gs_clAll {c : Nat} {q : vw_C} (h : vwCl[c]? = some q) : gs_clOk c q := by
  match c, h with
  | 0, h => cases h; exact gs_cl0
  | 1, h => cases h; exact gs_cl1
  | 2, h => cases h; exact gs_cl2
  | 3, h => cases h; exact gs_cl3
  | 4, h => cases h; exact gs_cl4
  | 5, h => cases h; exact gs_cl5
  | 6, h => cases h; exact gs_cl6
  | 7, h => cases h; exact gs_cl7
  | 8, h => cases h; exact gs_cl8
  | 9, h => cases h; exact gs_cl9
  | 10, h => cases h; exact gs_cl10
  | 11, h => cases h; exact gs_cl11
  | n + 12, h => simp [vwCl] at h
theorem gs_clLt {c : Nat} (h : c < 12) : ∃ q : vw_C, vwCl[c]? = some q := ⟨_, List.getElem?_eq_getElem (l := vwCl) (by simpa [vwCl] using h)⟩
theorem gs_ws_set {G : gs_G} {m m2 : gs_M} {a k : Nat} {x : va_E} (ha : gs_rk a < m.1.1) (hk : (gs_ws G m)[k]? = some (G.1 + gs_rk a, gs_ce G m a)) (hn : m2.1.1 = m.1.1) (hx : gs_ce G m2 a = x) (ho : ∀ b, b ≠ a → gs_ce G m2 b = gs_ce G m b) : (gs_ws G m).set k (G.1 + gs_rk a, x) = gs_ws G m2 := by
  have e : gs_wf G m (G.1 + gs_rk a) = gs_ce G m a := by simp [gs_wf, Nat.add_sub_cancel_left, gs_pm_rk]
  have h1 := va_pl_set (X := []) (L := gs_ls G m.1.1) (f := gs_wf G m) (a := G.1 + gs_rk a) (k := k) (e := x) (gs_D G _ _) (gs_in_ls ha) (by rw [e]; exact hk)
  simp only [List.nil_append] at h1
  unfold gs_ws
  rw [h1, hn]
  unfold va_pl
  apply List.map_congr_left
  intro q hq
  obtain ⟨b, hb, rfl⟩ := List.mem_map.mp hq
  have e2 : va_up (gs_wf G m) (G.1 + gs_rk a) x (G.1 + b) = gs_wf G m2 (G.1 + b) := by
    unfold va_up
    by_cases hab : b = gs_rk a
    · subst hab
      rw [if_pos rfl]
      simp only [gs_wf, Nat.add_sub_cancel_left, gs_pm_rk]
      exact hx.symm
    · rw [if_neg (by omega)]
      simp only [gs_wf, Nat.add_sub_cancel_left]
      exact (ho (gs_pm b) (fun e => hab (by rw [← e, gs_rk_pm]))).symm
  rw [e2]
section GSR
variable {p : Program} {l : Launch} {e : Env} {R : Room} {s : State} {m₀ : MethodId} {args : Array Value} {below : List Frame} {meth : Method} {c : Code} {G : gs_G} {cc : ByteArray} {nL : Nat} {own : String} {u0 z0 : Nat} {r : gs_R × gs_M}
theorem gs_mv {pc pc' : Nat} {lo : gs_L} {st st' : List gs_V} {m : gs_M} (h : gs_Tg p l e R s m₀ args below meth c G nL u0 z0 r pc' lo st' m)
    (row : ∀ (H : Heap) (locs : List Loc) (cells slots : Nat) (Q : State → Prop) (ls : Array Slot), lv_has ls nL (gs_cl G lo) → W p l e R s m₀ args below meth c H locs cells slots Q (F0 m₀ pc' ls (st'.map (gs_cv G))) → W p l e R s m₀ args below meth c H locs cells slots Q (F0 m₀ pc ls (st.map (gs_cv G)))) :
    gs_Tg p l e R s m₀ args below meth c G nL u0 z0 r pc lo st m :=
  ⟨h.1, fun a b H locs ls hR hS hl => row H locs _ _ _ ls hl (h.2 a b H locs ls hR hS hl)⟩
/-- with what the heap holds -/
theorem gs_mvR {pc pc' : Nat} {lo : gs_L} {st st' : List gs_V} {m : gs_M} (h : gs_Tg p l e R s m₀ args below meth c G nL u0 z0 r pc' lo st' m)
    (row : ∀ (H : Heap) (locs : List Loc) (cells slots : Nat) (Q : State → Prop) (ls : Array Slot), gs_Rep G m H → va_S (gs_A G) s.heap H locs → lv_has ls nL (gs_cl G lo) → W p l e R s m₀ args below meth c H locs cells slots Q (F0 m₀ pc' ls (st'.map (gs_cv G))) → W p l e R s m₀ args below meth c H locs cells slots Q (F0 m₀ pc ls (st.map (gs_cv G)))) :
    gs_Tg p l e R s m₀ args below meth c G nL u0 z0 r pc lo st m :=
  ⟨h.1, fun a b H locs ls hR hS hl => row H locs _ _ _ ls hR hS hl (h.2 a b H locs ls hR hS hl)⟩
/-- new locals -/
theorem gs_mvL {pc pc' : Nat} {lo lo' : gs_L} {st st' : List gs_V} {m : gs_M} (h : gs_Tg p l e R s m₀ args below meth c G nL u0 z0 r pc' lo' st' m)
    (row : ∀ (H : Heap) (locs : List Loc) (cells slots : Nat) (Q : State → Prop) (ls : Array Slot), lv_has ls nL (gs_cl G lo) → (∀ ls' : Array Slot, lv_has ls' nL (gs_cl G lo') → W p l e R s m₀ args below meth c H locs cells slots Q (F0 m₀ pc' ls' (st'.map (gs_cv G)))) → W p l e R s m₀ args below meth c H locs cells slots Q (F0 m₀ pc ls (st.map (gs_cv G)))) :
    gs_Tg p l e R s m₀ args below meth c G nL u0 z0 r pc lo st m :=
  ⟨h.1, fun a b H locs ls hR hS hl => row H locs _ _ _ ls hl (fun ls' hl' => h.2 a b H locs ls' hR hS hl')⟩
/-- a new memory of the same counts -/
theorem gs_mvM {pc pc' : Nat} {lo : gs_L} {st st' : List gs_V} {m m2 : gs_M} (h : gs_Tg p l e R s m₀ args below meth c G nL u0 z0 r pc' lo st' m2) (h1 : m2.1 = m.1) (h2 : m.1.1 ≤ 153 → (∀ a j b : Nat, m.2.2.2 a j = some b → gs_rk b < 153) → ∀ a j b : Nat, m2.2.2.2 a j = some b → gs_rk b < 153)
    (row : ∀ (H : Heap) (locs : List Loc) (cells slots : Nat) (Q : State → Prop) (ls : Array Slot), gs_Rep G m H → va_S (gs_A G) s.heap H locs → lv_has ls nL (gs_cl G lo) → (∀ (H1 : Heap) (locs1 : List Loc), va_P G.2.1 vwCl (gs_ws G m2) H1 → va_S (gs_A G) s.heap H1 locs1 → W p l e R s m₀ args below meth c H1 locs1 cells slots Q (F0 m₀ pc' ls (st'.map (gs_cv G)))) → W p l e R s m₀ args below meth c H locs cells slots Q (F0 m₀ pc ls (st.map (gs_cv G)))) :
    gs_Tg p l e R s m₀ args below meth c G nL u0 z0 r pc lo st m := by
  have hu : gs_us m2 = gs_us m := by unfold gs_us; rw [h1]
  refine ⟨by rw [← hu, ← h1]; exact h.1, fun a b H locs ls hR hS hl => row H locs _ _ _ ls hR hS hl (fun H1 locs1 hP1 hS1 => ?_)⟩
  have h3 := h.2 (by rw [hu]; exact a) (by rw [h1]; exact b) H1 locs1 ls ⟨hP1, by rw [h1]; exact hR.2.1, h2 hR.2.1 hR.2.2⟩ hS1 hl
  rw [hu, h1] at h3
  exact h3
theorem gs_lk_mem {lo : gs_L} {i : Nat} {v : gs_V} (h : gs_lk lo i = some v) : (i, v) ∈ lo := by
  induction lo with
  | nil => cases h
  | cons q t ih =>
    simp only [gs_lk] at h
    cases hb : Nat.beq q.1 i with
    | true =>
      rw [hb] at h
      have e1 := Nat.eq_of_beq_eq_true hb
      have e2 : q.2 = v := Option.some.inj h
      rw [← e1, ← e2]
      exact List.mem_cons_self
    | false =>
      rw [hb] at h
      exact List.mem_cons_of_mem _ (ih h)
theorem gs_lv {lo : gs_L} {ls : Array Slot} {i : Nat} {v : gs_V} (hl : lv_has ls nL (gs_cl G lo)) (h : gs_lk lo i = some v) : ls[i]? = some (.val (gs_cv G v)) :=
  hl.2.2 (i, gs_cv G v) (List.mem_map.mpr ⟨(i, v), gs_lk_mem h, rfl⟩)
theorem gs_rm_mem {lo : gs_L} {i : Nat} {q : Nat × gs_V} (h : q ∈ gs_rm lo i) : q ∈ lo ∧ q.1 ≠ i ∧ ¬ (q.1 + 1 = i ∧ gs_two q.2 = true) := by
  induction lo with
  | nil => cases h
  | cons x t ih =>
    simp only [gs_rm] at h
    cases hb : (Nat.beq x.1 i || (Nat.beq (x.1 + 1) i && gs_two x.2)) with
    | true =>
      rw [hb] at h
      have h2 := ih h
      exact ⟨List.mem_cons_of_mem _ h2.1, h2.2⟩
    | false =>
      rw [hb] at h
      have h' : q ∈ x :: gs_rm t i := h
      simp only [Bool.or_eq_false_iff, Bool.and_eq_false_iff] at hb
      rcases List.mem_cons.mp h' with e | h2
      · subst e
        refine ⟨List.mem_cons_self, fun e => ?_, fun e => ?_⟩
        · rw [e, Nat.beq_refl] at hb
          cases hb.1
        · rcases hb.2 with h3 | h3
          · rw [e.1, Nat.beq_refl] at h3
            cases h3
          · rw [e.2] at h3
            cases h3
      · have h2 := ih h2
        exact ⟨List.mem_cons_of_mem _ h2.1, h2.2⟩
theorem gs_cat (G : gs_G) (v : gs_V) : (gs_cv G v).category = (cond (gs_two v) 2 1) := by
  rcases v with x | x | x <;> rfl
/-- fewer locals -/
theorem gs_lvs {ls : Array Slot} {l1 : List (Nat × Value)} {lo : gs_L} (h : lv_has ls nL l1) (hs : ∀ q ∈ lo, (q.1, gs_cv G q.2) ∈ l1) : lv_has ls nL (gs_cl G lo) := by
  refine ⟨h.1, h.2.1, fun q hq => ?_⟩
  obtain ⟨x, hx, rfl⟩ := List.mem_map.mp hq
  exact h.2.2 _ (hs x hx)
theorem gs_st1_sub {lo : gs_L} {i : Nat} {v : gs_V} : ∀ q ∈ gs_st1 lo i v, (q.1, gs_cv G q.2) ∈ ((i, gs_cv G v) :: (gs_cl G lo).filter (fun q => !(q.1 == i) && !(q.1 + 1 == i && q.2.category == 2))) := by
  intro q hq
  rcases List.mem_cons.mp hq with rfl | hq
  · exact List.mem_cons_self
  · obtain ⟨h1, h2, h3⟩ := gs_rm_mem hq
    refine List.mem_cons_of_mem _ (List.mem_filter.mpr ⟨List.mem_map.mpr ⟨q, h1, rfl⟩, ?_⟩)
    have e1 : (q.1 == i) = false := by simpa using h2
    have e2 : (q.1 + 1 == i && (gs_cv G q.2).category == 2) = false := by
      rw [gs_cat]
      cases ht : gs_two q.2 with
      | false => simp
      | true =>
        have : q.1 + 1 ≠ i := fun e => h3 ⟨e, ht⟩
        simp [this]
    simp only [e1, e2, Bool.not_false, Bool.and_self]
theorem gs_st2_sub {lo : gs_L} {i : Nat} {v : gs_V} : ∀ q ∈ gs_st2 lo i v, (q.1, gs_cv G q.2) ∈ ((i, gs_cv G v) :: (gs_cl G lo).filter (fun q => !(q.1 == i) && (!(q.1 == i + 1) && !(q.1 + 1 == i && q.2.category == 2)))) := by
  intro q hq
  rcases List.mem_cons.mp hq with rfl | hq
  · exact List.mem_cons_self
  · obtain ⟨h1, h2, h3⟩ := gs_rm_mem hq
    obtain ⟨h4, h5, -⟩ := gs_rm_mem h1
    refine List.mem_cons_of_mem _ (List.mem_filter.mpr ⟨List.mem_map.mpr ⟨q, h4, rfl⟩, ?_⟩)
    have e1 : (q.1 == i) = false := by simpa using h2
    have e3 : (q.1 == i + 1) = false := by simpa using h5
    have e2 : (q.1 + 1 == i && (gs_cv G q.2).category == 2) = false := by
      rw [gs_cat]
      cases ht : gs_two q.2 with
      | false => simp
      | true =>
        have : q.1 + 1 ≠ i := fun e => h3 ⟨e, ht⟩
        simp [this]
    simp only [e1, e2, e3, Bool.not_false, Bool.and_self]
end GSR
