section GSF
variable {p : Program} {l : Launch} {e : Env} {R : Room} {s : State} {m₀ : MethodId} {args : Array Value} {below : List Frame} {meth : Method} {c : Code} {G : gs_G} {cc : ByteArray} {nL : Nat} {own : String} {u0 z0 : Nat} {r : gs_R × gs_M}
variable {H : Heap} {locs : List Loc} {cells slots : Nat} {Q : State → Prop} {ls : Array Slot} {rest : List Value} {m m2 : gs_M} {a j k idx pc : Nat}
theorem gs_getf (hC : gs_Cx p s m₀ args meth c G cc nL own u0) {q : vw_C} (hq : vwCl[k]? = some q) (hfl : gs_gw (.fieldLink own idx (q.2.1 j).1 (q.2.1 j).2.1 (q.2.1 j).2.2.1)) (hj : j < q.2.2) (hk : gs_kind a = k) (ha : gs_rk a < m.1.1) (hc : k < 12) (hd : decode cc pc = .ok (.getfield idx, 3))
    {t : Nat} (ht : (gs_ftab.getD k [])[j]? = some t) (hR : gs_Rep G m H) (kk : W p l e R s m₀ args below meth c H locs cells slots Q (F0 m₀ (pc + 3) ls (gs_fv G m a t j :: rest))) : W p l e R s m₀ args below meth c H locs cells slots Q (F0 m₀ pc ls (.ref (gs_ad G a) :: rest)) := by
  obtain ⟨hx, hb, -, hown, hgw, hK, -, -⟩ := hC
  obtain ⟨hw, -⟩ := gs_clAll hq
  obtain ⟨k0, hk0⟩ := gs_at G m ha
  rw [gs_ce_obj hk hc] at hk0
  rw [gs_ad_lt (Nat.lt_of_lt_of_le ha hR.2.1)]
  refine va_get (C := q.1) (T := q.2.1) (N := q.2.2) (ci := k) (Ts := u_ws q.1 q.2.1 q.2.2) hx hb (fun w h => hgw w (hw w h)) (fun w h => h) hown hK hR.1 k0 hk0 hq j hj (hgw _ hfl) (fun _ h => h) (v := gs_fv G m a t j) ?_ hd kk
  rw [gs_ob_get, ht]
  simp
theorem gs_putf (hC : gs_Cx p s m₀ args meth c G cc nL own u0) {q : vw_C} (hq : vwCl[k]? = some q) (hfl : gs_gw (.fieldLink own idx (q.2.1 j).1 (q.2.1 j).2.1 (q.2.1 j).2.2.1)) (hj : j < q.2.2) (hk : gs_kind a = k) (ha : gs_rk a < m.1.1) (hc : k < 12) (hd : decode cc pc = .ok (.putfield idx, 3))
    (hfin : (q.2.1 j).2.2.2 = false ∨ ((q.2.1 j).2.2.2 = true ∧ meth.name = "<init>" ∧ (q.2.1 j).1 = own)) {v : Value} (hn : narrow (gs_tyc k j) v = v) (hfit : fits (gs_tyc k j) v = true) (hm : m2.1 = m.1) (hce : gs_ce G m2 a = .inr (k, (gs_ob G m a 0 (gs_ftab.getD k [])).set j v)) (ho : ∀ b, b ≠ a → gs_ce G m2 b = gs_ce G m b)
    (hR : gs_Rep G m H) (hS : va_S (gs_A G) s.heap H locs)
    (kk : ∀ (H1 : Heap) (locs1 : List Loc), va_P G.2.1 vwCl (gs_ws G m2) H1 → va_S (gs_A G) s.heap H1 locs1 → W p l e R s m₀ args below meth c H1 locs1 cells slots Q (F0 m₀ (pc + 3) ls rest)) : W p l e R s m₀ args below meth c H locs cells slots Q (F0 m₀ pc ls (v :: .ref (gs_ad G a) :: rest)) := by
  obtain ⟨hx, hb, -, hown, hgw, hK, -, -⟩ := hC
  obtain ⟨hw, hty, hnm, hlen, hcod⟩ := gs_clAll hq
  obtain ⟨k0, hk0⟩ := gs_at G m ha
  have hset := fun (x : va_E) (hx : gs_ce G m2 a = x) => gs_ws_set (x := x) ha hk0 (by rw [hm]) hx ho
  have hset := hset _ hce
  rw [gs_ce_obj hk hc] at hk0
  rw [gs_ad_lt (Nat.lt_of_lt_of_le ha hR.2.1)]
  have hl : j < (gs_ob G m a 0 (gs_ftab.getD k [])).length := by rw [gs_ob_len, hlen]; exact hj
  rcases hfin with hfin | ⟨hfin, hin, hown2⟩
  · refine va_put (C := q.1) (T := q.2.1) (N := q.2.2) (ci := k) (Ts := u_ws q.1 q.2.1 q.2.2) hx hb (fun w h => hgw w (hw w h)) (fun w h => h) (gs_tyc k) hty hnm hown hK hR.1 (gs_D G _ _) hS k0 hk0 hq j hj (hgw _ hfl) (fun _ h => h) hfin (hty j hj) hn hfit hl hd (fun H1 locs1 hP1 hD1 hS1 => ?_)
    rw [hset] at hP1
    exact kk H1 locs1 hP1 hS1
  · refine va_putF (C := q.1) (T := q.2.1) (N := q.2.2) (ci := k) (Ts := u_ws q.1 q.2.1 q.2.2) hx hb (fun w h => hgw w (hw w h)) (fun w h => h) (gs_tyc k) hty hnm hown hK hR.1 (gs_D G _ _) hS k0 hk0 hq j hj (hgw _ hfl) (fun _ h => h) hfin hin hown2 (hty j hj) hn hfit hl hd (fun H1 locs1 hP1 hD1 hS1 => ?_)
    rw [hset] at hP1
    exact kk H1 locs1 hP1 hS1
theorem gs_arrP (G : gs_G) {m : gs_M} {H : Heap} {a k : Nat} (hk : gs_kind a = k) (ha : gs_rk a < m.1.1) (hc : ¬ k < 12) : ∃ k0 : Nat, (gs_ws G m)[k0]? = some (G.1 + gs_rk a, .inl (G.2.2.1 k, gs_len a, gs_rw G m a k)) ∧ (gs_ws G m)[k0]? = some (G.1 + gs_rk a, gs_ce G m a) := by
  obtain ⟨k0, hk0⟩ := gs_at G m ha
  exact ⟨k0, by rw [hk0, gs_ce_arr hk hc], hk0⟩
theorem gs_iald (hC : gs_Cx p s m₀ args meth c G cc nL own u0) (hk : gs_kind a = 13) (ha : gs_rk a < m.1.1) {i : Int32} (hi : vp_in i (gs_len a)) (hd : decode cc pc = .ok (.iaload, 1)) (hR : gs_Rep G m H)
    (kk : W p l e R s m₀ args below meth c H locs cells slots Q (F0 m₀ (pc + 1) ls (.int (m.2.1 a i.toNatClampNeg) :: rest))) : W p l e R s m₀ args below meth c H locs cells slots Q (F0 m₀ pc ls (.int i :: .ref (gs_ad G a) :: rest)) := by
  obtain ⟨hx, hb, -, -, -, hK, -, -⟩ := hC
  obtain ⟨k0, hk0, -⟩ := gs_arrP (H := H) G hk ha (by decide)
  rw [gs_ad_lt (Nat.lt_of_lt_of_le ha hR.2.1)]
  exact va_iald hx hb hK hR.1 k0 1 hk0 rfl hi hd kk
theorem gs_bald (hC : gs_Cx p s m₀ args meth c G cc nL own u0) (hk : gs_kind a = 12) (ha : gs_rk a < m.1.1) {i : Int32} (hi : vp_in i (gs_len a)) (hd : decode cc pc = .ok (.baload, 1)) (hR : gs_Rep G m H)
    (kk : W p l e R s m₀ args below meth c H locs cells slots Q (F0 m₀ (pc + 1) ls (.int (m.2.1 a i.toNatClampNeg) :: rest))) : W p l e R s m₀ args below meth c H locs cells slots Q (F0 m₀ pc ls (.int i :: .ref (gs_ad G a) :: rest)) := by
  obtain ⟨hx, hb, -, -, -, hK, -, -⟩ := hC
  obtain ⟨k0, hk0, -⟩ := gs_arrP (H := H) G hk ha (by decide)
  rw [gs_ad_lt (Nat.lt_of_lt_of_le ha hR.2.1)]
  exact va_bald hx hb hK hR.1 k0 0 hk0 rfl hi hd kk
theorem gs_lald (hC : gs_Cx p s m₀ args meth c G cc nL own u0) (hk : gs_kind a = 14) (ha : gs_rk a < m.1.1) {i : Int32} (hi : vp_in i (gs_len a)) (hd : decode cc pc = .ok (.laload, 1)) (hR : gs_Rep G m H)
    (kk : W p l e R s m₀ args below meth c H locs cells slots Q (F0 m₀ (pc + 1) ls (.long (m.2.2.1 a i.toNatClampNeg) :: rest))) : W p l e R s m₀ args below meth c H locs cells slots Q (F0 m₀ pc ls (.int i :: .ref (gs_ad G a) :: rest)) := by
  obtain ⟨hx, hb, -, -, -, hK, -, -⟩ := hC
  obtain ⟨k0, hk0, -⟩ := gs_arrP (H := H) G hk ha (by decide)
  rw [gs_ad_lt (Nat.lt_of_lt_of_le ha hR.2.1)]
  exact va_lald hx hb hK hR.1 k0 2 hk0 rfl hi hd kk
theorem gs_aald (hC : gs_Cx p s m₀ args meth c G cc nL own u0) (hk : gs_kind a = 15 ∨ gs_kind a = 16) (ha : gs_rk a < m.1.1) {i : Int32} {b : Nat} (hi : vp_in i (gs_len a)) (hv : m.2.2.2 a i.toNatClampNeg = some b) (hd : decode cc pc = .ok (.aaload, 1)) (hR : gs_Rep G m H)
    (kk : W p l e R s m₀ args below meth c H locs cells slots Q (F0 m₀ (pc + 1) ls (.ref (gs_ad G b) :: rest))) : W p l e R s m₀ args below meth c H locs cells slots Q (F0 m₀ pc ls (.int i :: .ref (gs_ad G a) :: rest)) := by
  obtain ⟨hx, hb, -, -, -, hK, -, -⟩ := hC
  have hb153 := hR.2.2 _ _ _ hv
  rw [gs_ad_lt hb153] at kk
  rw [gs_ad_lt (Nat.lt_of_lt_of_le ha hR.2.1)]
  rcases hk with hk | hk
  · obtain ⟨k0, hk0, -⟩ := gs_arrP (H := H) G hk ha (by decide)
    refine va_aldq hx hb hK hR.1 k0 3 (f := fun i => (m.2.2.2 a i).map (fun b => G.1 + gs_rk b)) hk0 rfl hi hd ?_
    simp only [hv]
    exact kk
  · obtain ⟨k0, hk0, -⟩ := gs_arrP (H := H) G hk ha (by decide)
    refine va_aldq hx hb hK hR.1 k0 4 (f := fun i => (m.2.2.2 a i).map (fun b => G.1 + gs_rk b)) hk0 rfl hi hd ?_
    simp only [hv]
    exact kk
theorem gs_iast (hC : gs_Cx p s m₀ args meth c G cc nL own u0) (hk : gs_kind a = 13) (ha : gs_rk a < m.1.1) {i x : Int32} (hi : vp_in i (gs_len a)) (hd : decode cc pc = .ok (.iastore, 1)) (hR : gs_Rep G m H) (hS : va_S (gs_A G) s.heap H locs)
    (kk : ∀ (H1 : Heap) (locs1 : List Loc), va_P G.2.1 vwCl (gs_ws G (gs_sI m a i.toNatClampNeg x)) H1 → va_S (gs_A G) s.heap H1 locs1 → W p l e R s m₀ args below meth c H1 locs1 cells slots Q (F0 m₀ (pc + 1) ls rest)) : W p l e R s m₀ args below meth c H locs cells slots Q (F0 m₀ pc ls (.int x :: .int i :: .ref (gs_ad G a) :: rest)) := by
  obtain ⟨hx, hb, -, -, -, hK, -, -⟩ := hC
  obtain ⟨k0, hk0, hk1⟩ := gs_arrP (H := H) G hk ha (by decide)
  rw [gs_ad_lt (Nat.lt_of_lt_of_le ha hR.2.1)]
  refine va_iast hx hb hK hR.1 (gs_D G _ _) hS k0 1 hk0 rfl hi hd (fun H1 locs1 hP1 hD1 hS1 => ?_)
  rw [gs_ws_set (m2 := gs_sI m a i.toNatClampNeg x) ha hk1 rfl ?_ (fun b h => gs_sI_ce h)] at hP1
  · exact kk H1 locs1 hP1 hS1
  · rw [gs_ce_arr hk (by decide)]
    show Sum.inl (G.2.2.1 13, gs_len a, Sum.inl (gs_up2 m.2.1 a i.toNatClampNeg x a)) = _
    rw [gs_up2_row]
    rfl
theorem gs_bast (hC : gs_Cx p s m₀ args meth c G cc nL own u0) (hk : gs_kind a = 12) (ha : gs_rk a < m.1.1) {i x : Int32} (hi : vp_in i (gs_len a)) (hd : decode cc pc = .ok (.bastore, 1)) (hR : gs_Rep G m H) (hS : va_S (gs_A G) s.heap H locs)
    (kk : ∀ (H1 : Heap) (locs1 : List Loc), va_P G.2.1 vwCl (gs_ws G (gs_sI m a i.toNatClampNeg x.toInt8.toInt32)) H1 → va_S (gs_A G) s.heap H1 locs1 → W p l e R s m₀ args below meth c H1 locs1 cells slots Q (F0 m₀ (pc + 1) ls rest)) : W p l e R s m₀ args below meth c H locs cells slots Q (F0 m₀ pc ls (.int x :: .int i :: .ref (gs_ad G a) :: rest)) := by
  obtain ⟨hx, hb, -, -, -, hK, -, -⟩ := hC
  obtain ⟨k0, hk0, hk1⟩ := gs_arrP (H := H) G hk ha (by decide)
  rw [gs_ad_lt (Nat.lt_of_lt_of_le ha hR.2.1)]
  refine va_bast hx hb hK hR.1 (gs_D G _ _) hS k0 0 hk0 rfl hi hd (fun H1 locs1 hP1 hD1 hS1 => ?_)
  rw [gs_ws_set (m2 := gs_sI m a i.toNatClampNeg x.toInt8.toInt32) ha hk1 rfl ?_ (fun b h => gs_sI_ce h)] at hP1
  · exact kk H1 locs1 hP1 hS1
  · rw [gs_ce_arr hk (by decide), vp_nar_byte]
    show Sum.inl (G.2.2.1 12, gs_len a, Sum.inl (gs_up2 m.2.1 a i.toNatClampNeg x.toInt8.toInt32 a)) = _
    rw [gs_up2_row]
    rfl
theorem gs_last (hC : gs_Cx p s m₀ args meth c G cc nL own u0) (hk : gs_kind a = 14) (ha : gs_rk a < m.1.1) {i : Int32} {x : Int64} (hi : vp_in i (gs_len a)) (hd : decode cc pc = .ok (.lastore, 1)) (hR : gs_Rep G m H) (hS : va_S (gs_A G) s.heap H locs)
    (kk : ∀ (H1 : Heap) (locs1 : List Loc), va_P G.2.1 vwCl (gs_ws G (gs_sJ m a i.toNatClampNeg x)) H1 → va_S (gs_A G) s.heap H1 locs1 → W p l e R s m₀ args below meth c H1 locs1 cells slots Q (F0 m₀ (pc + 1) ls rest)) : W p l e R s m₀ args below meth c H locs cells slots Q (F0 m₀ pc ls (.long x :: .int i :: .ref (gs_ad G a) :: rest)) := by
  obtain ⟨hx, hb, -, -, -, hK, -, -⟩ := hC
  obtain ⟨k0, hk0, hk1⟩ := gs_arrP (H := H) G hk ha (by decide)
  rw [gs_ad_lt (Nat.lt_of_lt_of_le ha hR.2.1)]
  refine va_last hx hb hK hR.1 (gs_D G _ _) hS k0 2 hk0 rfl hi hd (fun H1 locs1 hP1 hD1 hS1 => ?_)
  rw [gs_ws_set (m2 := gs_sJ m a i.toNatClampNeg x) ha hk1 rfl ?_ (fun b h => gs_sJ_ce h)] at hP1
  · exact kk H1 locs1 hP1 hS1
  · rw [gs_ce_arr hk (by decide)]
    show Sum.inl (G.2.2.1 14, gs_len a, Sum.inr (Sum.inl (gs_up2 m.2.2.1 a i.toNatClampNeg x a))) = _
    rw [gs_up2_row]
    rfl
end GSF
