/-! What the pure memory is in a heap. -/
/-- where the cells begin; classes and slots of the objects; classes of the arrays; the long row, the text, the script -/
abbrev gs_G : Type := Nat × ((Nat → ClassId) × (Nat → Nat → Nat)) × (Nat → ClassId) × Nat × Nat × Nat
def gs_ad (G : gs_G) (a : Nat) : Nat := if a = 100000 then G.2.2.2.1 else if a = 100001 then G.2.2.2.2.1 else if a = 100002 then G.2.2.2.2.2 else G.1 + gs_rk a
def gs_cv (G : gs_G) (v : gs_V) : Value := match v with
  | .inl x => .int x
  | .inr (.inl x) => .long x
  | .inr (.inr a) => .ref (gs_ad G a)
def gs_cl (G : gs_G) (lo : gs_L) : List (Nat × Value) := lo.map (fun q => (q.1, gs_cv G q.2))
abbrev gs_A (G : gs_G) : Nat → Prop := fun q => G.1 ≤ q
def gs_ftab : List (List Nat) := [[0, 0, 0, 0, 0, 0, 0, 0, 0, 0, 0], [2], [0, 0, 0, 0, 0, 0, 0, 0, 0, 0, 0, 0, 0, 0, 0, 0], [2, 2, 2, 0], [2, 2, 2, 2, 2, 2, 2, 0, 0, 0, 0, 2, 2, 0, 0], [2, 2, 0, 0, 0, 3, 3, 0, 2, 0, 0], [2, 2, 2, 0, 3], [2, 2, 2, 2, 2, 2, 2, 2, 0, 0, 0, 0, 0, 0], [2, 2, 0, 0, 0, 0, 0, 0], [2, 2, 2, 0], [2, 2, 2, 2, 0, 0, 0, 3, 3], [2, 0, 0, 2, 0, 0, 0, 0, 0, 0, 0, 0, 2, 2, 2, 2, 2, 0, 2, 2, 2, 2, 2, 2, 2, 2, 2, 2, 2, 2, 2, 2, 2, 2, 2, 2, 0, 0, 2, 2, 0, 0, 0, 0, 3, 3, 2, 2, 3, 0, 0, 3, 2, 2, 0, 2, 2, 2, 2, 1]]
def gs_fv (G : gs_G) (m : gs_M) (a t j : Nat) : Value := match t with
  | 1 => .long (m.2.2.1 a j)
  | 2 => va_rf ((m.2.2.2 a j).map (fun b => G.1 + gs_rk b))
  | _ => .int (m.2.1 a j)
def gs_ob (G : gs_G) (m : gs_M) (a : Nat) : Nat → List Nat → List Value
  | _, [] => []
  | j, t :: ts => gs_fv G m a t j :: gs_ob G m a (j + 1) ts
def gs_rw (G : gs_G) (m : gs_M) (a k : Nat) : (Nat → Int32) ⊕ (Nat → Int64) ⊕ (Nat → UInt32) ⊕ (Nat → UInt64) ⊕ (Nat → Option Nat) := match k with
  | 14 => .inr (.inl (m.2.2.1 a))
  | 15 => .inr (.inr (.inr (.inr (fun i => (m.2.2.2 a i).map (fun b => G.1 + gs_rk b)))))
  | 16 => .inr (.inr (.inr (.inr (fun i => (m.2.2.2 a i).map (fun b => G.1 + gs_rk b)))))
  | _ => .inl (m.2.1 a)
def gs_ce (G : gs_G) (m : gs_M) (a : Nat) : va_E := if gs_kind a < 12 then .inr (gs_kind a, gs_ob G m a 0 (gs_ftab.getD (gs_kind a) [])) else .inl (G.2.2.1 (gs_kind a), gs_len a, gs_rw G m a (gs_kind a))
def gs_ls (G : gs_G) (n : Nat) : List Nat := (List.range n).map (G.1 + ·)
def gs_wf (G : gs_G) (m : gs_M) : Nat → va_E := fun q => gs_ce G m (gs_pm (q - G.1))
def gs_ws (G : gs_G) (m : gs_M) : va_W := va_pl (gs_ls G m.1.1) (gs_wf G m)
def gs_us (m : gs_M) : Nat := m.1.1 + m.1.2.1
def gs_Rep (G : gs_G) (m : gs_M) (H : Heap) : Prop := va_P G.2.1 vwCl (gs_ws G m) H ∧ m.1.1 ≤ 153 ∧ ∀ a j b : Nat, m.2.2.2 a j = some b → gs_rk b < 153
def gs_tys (G : gs_G) : List (ClassId × FieldType) := [(G.2.2.1 12, .byte), (G.2.2.1 13, .int), (G.2.2.1 14, .long), (G.2.2.1 15, .object "GuestStars$Cloud"), (G.2.2.1 16, .object "GuestStars$Guest")]
def gs_K (G : gs_G) (U : State) : Prop := va_K G.2.1 vwCl (gs_tys G) U
def gs_ex (e : Nat) : String := match e with
  | 0 => "java/lang/IllegalArgumentException"
  | 1 => "java/lang/IndexOutOfBoundsException"
  | _ => "java/util/NoSuchElementException"
def gs_Qc (G : gs_G) (r : gs_R × gs_M) : Array Value → State → Outcome → State → Prop := fun _ st o t => ∃ v : Option gs_V, r.1 = .inl v ∧ o = .returned (v.map (gs_cv G)) ∧ gs_Rep G r.2 t.heap ∧ va_F (gs_A G) st t
def gs_XC (G : gs_G) (r : gs_R × gs_M) : String → State → State → Prop := fun E st t => ∃ e : Nat, r.1 = .inr e ∧ E = gs_ex e ∧ gs_Rep G r.2 t.heap ∧ va_F (gs_A G) st t
theorem gs_D (G : gs_G) (n : Nat) (f : Nat → va_E) : va_D (gs_A G) (va_pl (gs_ls G n) f) := by
  have key : ∀ (i : Nat) (p : Nat × va_E), (va_pl (gs_ls G n) f)[i]? = some p → i < n ∧ p.1 = G.1 + i := by
    intro i p h
    simp only [va_pl, gs_ls, List.getElem?_map] at h
    by_cases hi : i < n
    · rw [List.getElem?_range hi] at h
      cases h
      exact ⟨hi, rfl⟩
    · rw [List.getElem?_eq_none (by simpa using Nat.le_of_not_lt hi)] at h
      cases h
  refine ⟨fun i j p q hp hq he => ?_, fun k q hq => ?_⟩
  · have h1 := key i p hp
    have h2 := key j q hq
    omega
  · have h1 := key k q hq
    show G.1 ≤ q.1
    omega
theorem gs_in_ls {G : gs_G} {n a : Nat} (h : a < n) : G.1 + a ∈ gs_ls G n := List.mem_map.mpr ⟨a, List.mem_range.mpr h, rfl⟩
theorem gs_at (G : gs_G) (m : gs_M) {a : Nat} (h : gs_rk a < m.1.1) : ∃ k : Nat, (gs_ws G m)[k]? = some (G.1 + gs_rk a, gs_ce G m a) := by
  obtain ⟨k, hk⟩ := va_pl_get (X := []) (f := gs_wf G m) (gs_in_ls (G := G) h)
  refine ⟨k, ?_⟩
  have e : gs_wf G m (G.1 + gs_rk a) = gs_ce G m a := by simp [gs_wf, Nat.add_sub_cancel_left, gs_pm_rk]
  rw [e] at hk
  exact hk
theorem gs_ok_iff {a c n : Nat} (h : gs_ok a c n = true) : gs_kind a = c ∧ gs_rk a < n := by
  simp only [gs_ok, Bool.and_eq_true] at h
  exact ⟨Nat.eq_of_beq_eq_true h.1, Nat.lt_of_succ_le (Nat.le_of_ble_eq_true h.2)⟩
theorem gs_ad_lt {G : gs_G} {a : Nat} (h : gs_rk a < 153) : gs_ad G a = G.1 + gs_rk a := by
  have h := gs_lt_rk h
  unfold gs_ad
  rw [if_neg (by omega), if_neg (by omega), if_neg (by omega)]
theorem gs_in_iff {i : Int32} {n : Nat} (h : gs_in i n = true) : vp_in i n := by
  simp only [gs_in, Bool.and_eq_true, Bool.not_eq_true', decide_eq_false_iff_not] at h
  intro h2
  rcases h2 with h2 | h2
  · exact h.1 h2
  · have := Nat.lt_of_succ_le (Nat.le_of_ble_eq_true h.2)
    omega
theorem lv_lt_list {α : Type} {l : List α} {j : Nat} {t : α} (h : l[j]? = some t) : j < l.length := (List.getElem?_eq_some_iff.mp h).1
theorem gs_ob_len (G : gs_G) (m : gs_M) (a : Nat) : ∀ (ts : List Nat) (j : Nat), (gs_ob G m a j ts).length = ts.length
  | [], _ => rfl
  | t :: ts, j => by simp only [gs_ob, List.length_cons, gs_ob_len G m a ts (j + 1)]
theorem gs_ob_get (G : gs_G) (m : gs_M) (a : Nat) : ∀ (ts : List Nat) (j k : Nat), (gs_ob G m a j ts)[k]? = (ts[k]?).map (fun t => gs_fv G m a t (j + k))
  | [], _, k => by simp [gs_ob]
  | t :: ts, j, 0 => by simp [gs_ob]
  | t :: ts, j, k + 1 => by
    simp only [gs_ob, List.getElem?_cons_succ, gs_ob_get G m a ts (j + 1) k]
    have e : j + 1 + k = j + (k + 1) := by omega
    rw [e]
theorem gs_ext_list {α : Type} {l1 l2 : List α} (h : ∀ k : Nat, l1[k]? = l2[k]?) : l1 = l2 := List.ext_getElem? h
/-- one field changed -/
theorem gs_ob_set {G : gs_G} {m m2 : gs_M} {a j : Nat} {v : Value} {ts : List Nat} (hj : j < ts.length) (h1 : ∀ t, ts[j]? = some t → gs_fv G m2 a t j = v) (h2 : ∀ k t, k ≠ j → ts[k]? = some t → gs_fv G m2 a t k = gs_fv G m a t k) : gs_ob G m2 a 0 ts = (gs_ob G m a 0 ts).set j v := by
  apply List.ext_getElem?
  intro k
  rw [gs_ob_get, List.getElem?_set, gs_ob_len, gs_ob_get]
  simp only [Nat.zero_add]
  by_cases hk : j = k
  · subst hk
    rw [if_pos rfl, if_pos hj]
    rw [List.getElem?_eq_getElem hj, Option.map_some, h1 _ (List.getElem?_eq_getElem hj)]
  · rw [if_neg hk]
    cases ht : ts[k]? with
    | none => rfl
    | some t => rw [Option.map_some, Option.map_some, h2 k t (fun e => hk e.symm) ht]
theorem gs_fv_cong {G : gs_G} {m m2 : gs_M} {a : Nat} (h1 : m2.2.1 a = m.2.1 a) (h2 : m2.2.2.1 a = m.2.2.1 a) (h3 : m2.2.2.2 a = m.2.2.2 a) (t j : Nat) : gs_fv G m2 a t j = gs_fv G m a t j := by
  unfold gs_fv
  split
  · rw [h2]
  · rw [h3]
  · rw [h1]
theorem gs_ce_cong {G : gs_G} {m m2 : gs_M} {a : Nat} (h1 : m2.2.1 a = m.2.1 a) (h2 : m2.2.2.1 a = m.2.2.1 a) (h3 : m2.2.2.2 a = m.2.2.2 a) : gs_ce G m2 a = gs_ce G m a := by
  unfold gs_ce
  split
  · have e : ∀ (ts : List Nat) (j : Nat), gs_ob G m2 a j ts = gs_ob G m a j ts := by
      intro ts
      induction ts with
      | nil => intro j; rfl
      | cons t ts ih => intro j; simp only [gs_ob, ih, gs_fv_cong h1 h2 h3]
    rw [e]
  · have e : gs_rw G m2 a (gs_kind a) = gs_rw G m a (gs_kind a) := by
      unfold gs_rw
      split
      · rw [h2]
      · rw [h3]
      · rw [h3]
      · rw [h1]
    rw [e]
theorem gs_up2_row {α : Type} (f : Nat → Nat → α) (a j : Nat) (x : α) : gs_up2 f a j x a = fun i => if i = j then x else f a i := by
  funext i
  simp [gs_up2]
theorem gs_up2_ne {α : Type} (f : Nat → Nat → α) (a j : Nat) (x : α) {b : Nat} (h : b ≠ a) : gs_up2 f a j x b = f b := by
  funext i
  simp [gs_up2, h]
theorem gs_up2_at {α : Type} (f : Nat → Nat → α) (a j : Nat) (x : α) : gs_up2 f a j x a j = x := by simp [gs_up2]
theorem gs_up2_nj {α : Type} (f : Nat → Nat → α) (a j : Nat) (x : α) {b i : Nat} (h : i ≠ j) : gs_up2 f a j x b i = f b i := by simp [gs_up2, h]
theorem gs_ce_obj {G : gs_G} {m : gs_M} {a c : Nat} (hk : gs_kind a = c) (hc : c < 12) : gs_ce G m a = .inr (c, gs_ob G m a 0 (gs_ftab.getD c [])) := by
  unfold gs_ce
  rw [hk, if_pos hc]
theorem gs_ce_arr {G : gs_G} {m : gs_M} {a c : Nat} (hk : gs_kind a = c) (hc : ¬ c < 12) : gs_ce G m a = .inl (G.2.2.1 c, gs_len a, gs_rw G m a c) := by
  unfold gs_ce
  rw [hk, if_neg hc]
theorem gs_sI_ce {G : gs_G} {m : gs_M} {a b j : Nat} {x : Int32} (h : b ≠ a) : gs_ce G (gs_sI m a j x) b = gs_ce G m b := gs_ce_cong (gs_up2_ne _ _ _ _ h) rfl rfl
theorem gs_sJ_ce {G : gs_G} {m : gs_M} {a b j : Nat} {x : Int64} (h : b ≠ a) : gs_ce G (gs_sJ m a j x) b = gs_ce G m b := gs_ce_cong rfl (gs_up2_ne _ _ _ _ h) rfl
theorem gs_sR_ce {G : gs_G} {m : gs_M} {a b j : Nat} {x : Nat} (h : b ≠ a) : gs_ce G (gs_sR m a j x) b = gs_ce G m b := gs_ce_cong rfl rfl (gs_up2_ne _ _ _ _ h)
theorem gs_sI_ob {G : gs_G} {m : gs_M} {a j t : Nat} {x : Int32} {ts : List Nat} (ht : ts[j]? = some t) (h0 : t = 0 ∨ t = 3) : gs_ob G (gs_sI m a j x) a 0 ts = (gs_ob G m a 0 ts).set j (.int x) := by
  refine gs_ob_set (lv_lt_list ht) (fun t' ht' => ?_) (fun k t' hk ht' => ?_)
  · rw [ht] at ht'
    cases ht'
    rcases h0 with rfl | rfl
    · show Value.int (gs_up2 m.2.1 a j x a j) = .int x
      rw [gs_up2_at]
    · show Value.int (gs_up2 m.2.1 a j x a j) = .int x
      rw [gs_up2_at]
  · unfold gs_fv
    split
    · rfl
    · rfl
    · show Value.int (gs_up2 m.2.1 a j x a k) = _
      rw [gs_up2_nj _ _ _ _ hk]
theorem gs_sJ_ob {G : gs_G} {m : gs_M} {a j : Nat} {x : Int64} {ts : List Nat} (ht : ts[j]? = some 1) : gs_ob G (gs_sJ m a j x) a 0 ts = (gs_ob G m a 0 ts).set j (.long x) := by
  refine gs_ob_set (lv_lt_list ht) (fun t' ht' => ?_) (fun k t' hk ht' => ?_)
  · rw [ht] at ht'
    cases ht'
    show Value.long (gs_up2 m.2.2.1 a j x a j) = .long x
    rw [gs_up2_at]
  · unfold gs_fv
    split
    · show Value.long (gs_up2 m.2.2.1 a j x a k) = _
      rw [gs_up2_nj _ _ _ _ hk]
    · rfl
    · rfl
theorem gs_sR_ob {G : gs_G} {m : gs_M} {a j : Nat} {x : Nat} {ts : List Nat} (ht : ts[j]? = some 2) : gs_ob G (gs_sR m a j x) a 0 ts = (gs_ob G m a 0 ts).set j (.ref (G.1 + gs_rk x)) := by
  refine gs_ob_set (lv_lt_list ht) (fun t' ht' => ?_) (fun k t' hk ht' => ?_)
  · rw [ht] at ht'
    cases ht'
    show va_rf ((gs_up2 m.2.2.2 a j (some x) a j).map (fun b => G.1 + gs_rk b)) = .ref (G.1 + gs_rk x)
    rw [gs_up2_at]
    rfl
  · unfold gs_fv
    split
    · rfl
    · show va_rf ((gs_up2 m.2.2.2 a j (some x) a k).map (fun b => G.1 + gs_rk b)) = _
      rw [gs_up2_nj _ _ _ _ hk]
    · rfl
