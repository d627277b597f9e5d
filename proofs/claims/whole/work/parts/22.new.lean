/-! New cells. -/
theorem gs_nw_ce {G : gs_G} {m : gs_M} {z b : Nat} (h : b ≠ gs_pm m.1.1) : gs_ce G (gs_nw m z) b = gs_ce G m b := by
  refine gs_ce_cong ?_ ?_ ?_ <;> (show gs_up1 _ _ _ b = _; unfold gs_up1; rw [if_neg h])
theorem gs_ws_nw {G : gs_G} {m : gs_M} {z : Nat} {x : va_E} (hx : gs_ce G (gs_nw m z) (gs_pm m.1.1) = x) : gs_ws G m ++ [(G.1 + m.1.1, x)] = gs_ws G (gs_nw m z) := by
  have e1 : (gs_nw m z).1.1 = m.1.1 + 1 := rfl
  unfold gs_ws
  rw [e1]
  unfold gs_ls va_pl
  rw [List.range_succ, List.map_append, List.map_append]
  congr 1
  · rw [List.map_map, List.map_map]
    apply List.map_congr_left
    intro b hb
    have hb : b < m.1.1 := List.mem_range.mp hb
    show (G.1 + b, gs_wf G m (G.1 + b)) = (G.1 + b, gs_wf G (gs_nw m z) (G.1 + b))
    simp only [gs_wf, Nat.add_sub_cancel_left]
    rw [gs_nw_ce (fun e => by have := gs_pm_inj e; omega)]
  · show [(G.1 + m.1.1, x)] = [(G.1 + m.1.1, gs_wf G (gs_nw m z) (G.1 + m.1.1))]
    simp only [gs_wf, Nat.add_sub_cancel_left]
    rw [hx]
theorem gs_nw_lt {m : gs_M} {z : Nat} (h2 : ∀ a j b : Nat, m.2.2.2 a j = some b → gs_rk b < 153) : ∀ a j b : Nat, (gs_nw m z).2.2.2 a j = some b → gs_rk b < 153 := by
  intro a j b h
  have h : gs_up1 m.2.2.2 (gs_pm m.1.1) (fun _ => none) a j = some b := h
  unfold gs_up1 at h
  split at h
  · cases h
  · exact h2 _ _ _ h
section GSW
variable {p : Program} {l : Launch} {e : Env} {R : Room} {s : State} {m₀ : MethodId} {args : Array Value} {below : List Frame} {meth : Method} {c : Code} {G : gs_G} {cc : ByteArray} {nL u0 z0 : Nat} {r : gs_R × gs_M} {own : String}
/-- the address of a new cell -/
theorem gs_new_at {m : gs_M} {q : Nat} {x : va_E} {H1 : Heap} {locs : List Loc} {T : State} {slots : Nat} (hC : gs_Cx p s m₀ args meth c G cc nL own u0) (hu : u0 ≤ gs_us m) (hg : m.1.2.1 = 0) (hP : va_P G.2.1 vwCl (gs_ws G m ++ [(q, x)]) H1) (hD : va_D (gs_A G) (gs_ws G m ++ [(q, x)])) (hT : T.heap = H1) (X : Stand p l e R s m₀ args below meth c T locs (gs_us m - u0 + 1) slots) : q = G.1 + m.1.1 := by
  obtain ⟨-, -, -, -, -, -, -, hs1, hs2⟩ := hC
  have hlen : (gs_ws G m).length = m.1.1 := by simp [gs_ws, va_pl, gs_ls]
  have hlast : (gs_ws G m ++ [(q, x)])[m.1.1]? = some (q, x) := by
    rw [List.getElem?_append_right (by omega), hlen]
    simp
  have h1 : q < H1.size := (hP _ _ hlast).lt
  have h2 : G.1 ≤ q := hD.2 _ _ hlast
  have h3 := X.heapSize
  rw [hT] at h3
  have hus : gs_us m = m.1.1 := by unfold gs_us; omega
  rcases Nat.lt_or_ge q (G.1 + m.1.1) with h4 | h4
  · have hi : q - G.1 < m.1.1 := by omega
    obtain ⟨k0, hk0⟩ := gs_at G m (a := gs_pm (q - G.1)) (by rw [gs_rk_pm]; exact hi)
    rw [gs_rk_pm] at hk0
    have hk1 : k0 < (gs_ws G m).length := (List.getElem?_eq_some_iff.mp hk0).1
    have hk2 : (gs_ws G m ++ [(q, x)])[k0]? = some (G.1 + (q - G.1), gs_ce G m (gs_pm (q - G.1))) := by
      rw [List.getElem?_append_left hk1]
      exact hk0
    have := hD.1 k0 m.1.1 _ _ hk2 hlast (show G.1 + (q - G.1) = q by omega)
    omega
  · omega
theorem gs_newT2 {pc pc' : Nat} {lo : gs_L} {st sv : List gs_V} {m : gs_M} {z : Nat} {x : va_E} (hC : gs_Cx p s m₀ args meth c G cc nL own u0) (hg : m.1.2.1 = 0) (hx : gs_ce G (gs_nw m z) (gs_pm m.1.1) = x) (hlt : gs_pm m.1.1 < 153)
    (h : gs_Tg p l e R s m₀ args below meth c G nL u0 z0 r pc' lo (.inr (.inr (gs_pm m.1.1)) :: st) (gs_nw m z))
    (row : ∀ (H : Heap) (locs : List Loc) (cells slots : Nat) (Q : State → Prop) (ls : Array Slot), gs_Rep G m H → va_S (gs_A G) s.heap H locs → cells + 1 ≤ gs_us r.2 - u0 → slots + z ≤ r.2.1.2.2 - z0 → (∀ (q : Nat) (H1 : Heap), va_P G.2.1 vwCl (gs_ws G m ++ [(q, x)]) H1 → va_D (gs_A G) (gs_ws G m ++ [(q, x)]) → va_S (gs_A G) s.heap H1 locs → W p l e R s m₀ args below meth c H1 locs (cells + 1) (slots + z) Q (F0 m₀ pc' ls (.ref q :: st.map (gs_cv G)))) → W p l e R s m₀ args below meth c H locs cells slots Q (F0 m₀ pc ls (sv.map (gs_cv G)))) :
    gs_Tg p l e R s m₀ args below meth c G nL u0 z0 r pc lo sv m := by
  have e1 : gs_us (gs_nw m z) = gs_us m + 1 := by
    show m.1.1 + 1 + m.1.2.1 = m.1.1 + m.1.2.1 + 1
    omega
  have e2 : (gs_nw m z).1.2.2 = m.1.2.2 + z := rfl
  have hm := h.1
  rw [e1, e2] at hm
  have hlt2 : m.1.1 < 153 := by
    have h9 := gs_rk_lt hlt
    rw [gs_rk_pm] at h9
    exact h9
  refine ⟨⟨by omega, by omega⟩, fun hu hz H locs ls hR hS hl => ?_⟩
  refine row H locs _ _ _ ls hR hS (by omega) (by omega) (fun q H1 hP1 hD1 hS1 => ?_)
  intro T hT X
  have hq := gs_new_at hC hu hg hP1 hD1 hT X
  subst hq
  rw [gs_ws_nw hx] at hP1
  have h3 := h.2 (by rw [e1]; omega) (by rw [e2]; omega) H1 locs ls ⟨hP1, by show m.1.1 + 1 ≤ 153; omega, gs_nw_lt hR.2.2⟩ hS1 hl
  rw [e1, e2] at h3
  have ea : gs_us m + 1 - u0 = gs_us m - u0 + 1 := by omega
  have eb : m.1.2.2 + z - z0 = m.1.2.2 - z0 + z := by omega
  rw [ea, eb] at h3
  have es : ((Sum.inr (Sum.inr (gs_pm m.1.1)) :: st : List gs_V).map (gs_cv G)) = Value.ref (G.1 + m.1.1) :: st.map (gs_cv G) := by
    show Value.ref (gs_ad G (gs_pm m.1.1)) :: _ = _
    rw [gs_ad_lt (gs_rk_lt hlt), gs_rk_pm]
  rw [es] at h3
  exact h3 T hT X
end GSW
