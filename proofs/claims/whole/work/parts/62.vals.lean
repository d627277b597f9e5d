/-! The rules of sorts: a row of knots, its value, in both classes. -/
abbrev kj (m : gs_M) (k : Nat) : Nat := (m.2.1 139 k).toInt.toNat
abbrev pj (m : gs_M) (k : Nat) : Nat := (m.2.1 140 k).toInt.toNat
abbrev oj (m : gs_M) (k : Nat) : Nat := (m.2.1 141 k).toInt.toNat
def ckn (p : Nat) : Nat := if p = 0 then 8 else if p = 1 then 9 else if p = 2 then 10 else if p = 3 then 12 else if p = 4 then 30 else 31
/-- the class's numbers of knots -/
def ck (j p : Nat) : Nat := if j = 0 then 33 else if j = 1 then ckn p else if j = 2 then 29 else ckb j
/-- the class's knots are the reference's -/
def gs_RK (m : gs_M) (T n8 : Nat) : Prop := ∀ k, k < n8 → m.2.1 139 k = Int32.ofNat (kj m k) ∧ kj m k ≤ 14 ∧ m.2.1 140 k = Int32.ofNat (pj m k) ∧ pj m k ≤ 9999 ∧ (3 ≤ kj m k → m.2.1 141 k = Int32.ofNat (oj m k)) ∧ m.2.1 (T + 18) k = Int32.ofNat (ck (kj m k) (pj m k)) ∧ (kj m k = 0 → m.2.1 (T + 19) k = m.2.1 140 k) ∧ (kj m k = 1 → pj m k < 6)
def nmi (p : Nat) : Nat := if p = 0 then 7 else if p = 1 then 8 else if p = 2 then 9 else if p = 3 then 10 else if p = 4 then 5 else 2
def nmv (m : gs_M) (g p : Nat) : Int64 := Int32.toInt64 (gd m g (nmi p))
/-- the knots that wait, after one more -/
def wstep (kn pt ot : Nat → Nat) (k : Nat) (S : List Nat) : Option (List Nat) :=
  if kn k ≤ 1 then some (k :: S) else if kn k = 2 then (match S with
    | a :: S => if pt k = a then some (k :: S) else none
    | [] => none) else (match S with
    | b :: a :: S => if pt k = a ∧ ot k = b then some (k :: S) else none
    | _ => none)
def gs_wks (kn pt ot : Nat → Nat) (f : Nat) : Nat → Option (List Nat)
  | 0 => some []
  | q + 1 => match gs_wks kn pt ot f q with
    | some S => wstep kn pt ot (f + q) S
    | none => none
/-- their values, after one more; none: an error -/
def vstep (kn pt : Nat → Nat) (nm : Nat → Int64) (k : Nat) (V : List Int64) : Option (List Int64) :=
  if kn k = 0 then some (Int64.ofNat (pt k) :: V) else if kn k = 1 then some (nm (pt k) :: V) else if kn k = 2 then (match V with
    | a :: V => some ((if lg_cmp a 0 = 0 then 1 else 0) :: V)
    | [] => none) else (match V with
    | b :: a :: V => (match f_ap (kn k) a b with
      | some v => some (v :: V)
      | none => none)
    | _ => none)
def gs_sv (kn pt : Nat → Nat) (nm : Nat → Int64) (f : Nat) : Nat → Option (List Int64)
  | 0 => some []
  | q + 1 => match gs_sv kn pt nm f q with
    | some V => vstep kn pt nm (f + q) V
    | none => none
/-- a stack in a row of longs -/
def gs_stk (st : Nat → Int64) : List Int64 → Prop
  | [] => True
  | v :: V => st V.length = v ∧ gs_stk st V
theorem gs_stk_congr {st st' : Nat → Int64} : ∀ V : List Int64, (∀ i, i < V.length → st' i = st i) → gs_stk st V → gs_stk st' V
  | [], _, _ => trivial
  | v :: V, hc, h => ⟨(hc V.length (Nat.lt_succ_self _)).trans h.1, gs_stk_congr V (fun i hi => hc i (Nat.lt_succ_of_lt hi)) h.2⟩
theorem gs_stk_push {m : gs_M} {a : Nat} {v : Int64} {V : List Int64} (h : gs_stk (m.2.2.1 a) V) : gs_stk ((gs_sJ m a V.length v).2.2.1 a) (v :: V) := by
  refine ⟨gs_sJe _ _ _ _, gs_stk_congr V (fun i hi => ?_) h⟩
  rw [gs_sJg, if_pos rfl, if_neg (by omega)]
theorem gs_stk_set {m : gs_M} {a : Nat} {v u : Int64} {V : List Int64} (h : gs_stk (m.2.2.1 a) (u :: V)) : gs_stk ((gs_sJ m a V.length v).2.2.1 a) (v :: V) := gs_stk_push h.2
/-- what the knots that wait are worth, in the reference -/
def gs_vls (val : Nat → Int64) : List Nat → List Int64 → Prop
  | [], [] => True
  | s :: S, v :: V => val s = v ∧ gs_vls val S V
  | _, _ => False
theorem gs_vls_len {val : Nat → Int64} : ∀ (S : List Nat) (V : List Int64), gs_vls val S V → S.length = V.length
  | [], [], _ => rfl
  | _ :: S, _ :: V, h => congrArg (· + 1) (gs_vls_len S V h.2)
  | [], _ :: _, h => h.elim
  | _ :: _, [], h => h.elim
theorem gs_vls_congr {val val' : Nat → Int64} : ∀ (S : List Nat) (V : List Int64), (∀ s, s ∈ S → val' s = val s) → gs_vls val S V → gs_vls val' S V
  | [], [], _, _ => trivial
  | s :: S, v :: V, hc, h => ⟨(hc s (List.mem_cons_self ..)).trans h.1, gs_vls_congr S V (fun i hi => hc i (List.mem_cons_of_mem _ hi)) h.2⟩
  | [], _ :: _, _, h => h.elim
  | _ :: _, [], _, h => h.elim
theorem wstep_lt {kn pt ot : Nat → Nat} {k : Nat} {S S' : List Nat} (h : wstep kn pt ot k S = some S') (hS : ∀ s, s ∈ S → s < k) : (∀ s, s ∈ S' → s < k + 1) ∧ ∃ R, S' = k :: R := by
  unfold wstep at h
  by_cases h1 : kn k ≤ 1
  · rw [if_pos h1] at h
    cases h
    exact ⟨fun s hs => by
      rcases List.mem_cons.mp hs with e | e
      · omega
      · have := hS s e; omega, S, rfl⟩
  · rw [if_neg h1] at h
    by_cases h2 : kn k = 2
    · rw [if_pos h2] at h
      match S, h, hS with
      | [], h, _ => cases h
      | a :: S, h, hS =>
        simp only at h
        split at h
        · cases h
          exact ⟨fun s hs => by
            rcases List.mem_cons.mp hs with e | e
            · omega
            · have := hS s (List.mem_cons_of_mem _ e); omega, S, rfl⟩
        · cases h
    · rw [if_neg h2] at h
      match S, h, hS with
      | [], h, _ => cases h
      | [_], h, _ => cases h
      | b :: a :: S, h, hS =>
        simp only at h
        split at h
        · cases h
          exact ⟨fun s hs => by
            rcases List.mem_cons.mp hs with e | e
            · omega
            · have := hS s (List.mem_cons_of_mem _ (List.mem_cons_of_mem _ e)); omega, S, rfl⟩
        · cases h
theorem gs_wks_lt {kn pt ot : Nat → Nat} {f : Nat} : ∀ (q : Nat) (S : List Nat), gs_wks kn pt ot f q = some S → ∀ s, s ∈ S → s < f + q
  | 0, S, h, s, hs => by cases h; cases hs
  | q + 1, S, h, s, hs => by
    unfold gs_wks at h
    split at h
    · next R hR => exact (wstep_lt h (gs_wks_lt q R hR)).1 s hs
    · cases h
theorem gs_wks_pre {kn pt ot : Nat → Nat} {f : Nat} : ∀ (r q : Nat) (S : List Nat), gs_wks kn pt ot f (q + r) = some S → ∃ R, gs_wks kn pt ot f q = some R
  | 0, q, S, h => ⟨S, h⟩
  | r + 1, q, S, h => by
    have h : gs_wks kn pt ot f (q + r + 1) = some S := h
    unfold gs_wks at h
    split at h
    · next R hR => exact gs_wks_pre r q R hR
    · cases h
theorem gs_wks_s {kn pt ot : Nat → Nat} {f q : Nat} {S : List Nat} (h : gs_wks kn pt ot f q = some S) : gs_wks kn pt ot f (q + 1) = wstep kn pt ot (f + q) S := by
  show (match gs_wks kn pt ot f q with
    | some S => wstep kn pt ot (f + q) S
    | none => none) = _
  rw [h]
theorem gs_sv_s {kn pt : Nat → Nat} {nm : Nat → Int64} {f q : Nat} {V : List Int64} (h : gs_sv kn pt nm f q = some V) : gs_sv kn pt nm f (q + 1) = vstep kn pt nm (f + q) V := by
  show (match gs_sv kn pt nm f q with
    | some V => vstep kn pt nm (f + q) V
    | none => none) = _
  rw [h]
theorem gs_sv_none {kn pt : Nat → Nat} {nm : Nat → Int64} {f : Nat} : ∀ (r q : Nat), gs_sv kn pt nm f q = none → gs_sv kn pt nm f (q + r) = none
  | 0, _, h => h
  | r + 1, q, h => by
    show (match gs_sv kn pt nm f (q + r) with
      | some V => vstep kn pt nm (f + (q + r)) V
      | none => none) = none
    rw [gs_sv_none r q h]
section VAL
variable {X : gs_E} {d : Nat} {m M : gs_M} {T n n8 g k l f q F : Nat} {V : List Int64}
def f_sg (c : Int32) : Int32 := if c = 27 then 1 else if c = 28 then 1 else if c < 39 then 0 else if 48 < c then 0 else 1
theorem x_isSign {c : Int32} : gs_exec X (d + 1) 74 [.inl c] m = gs_rI (f_sg c) m := by
  rw [eq_X6_isSign]
  simp only [gs_bt1, gs_bt0, gs_if_rI]
  rfl
def f_vo (f : Nat → Int32) (c : Int32) : Int32 := if c = 8 then f 10 else if c = 9 then f 11 else if c = 10 then f 12 else if c = 12 then f 13 else if c = 30 then f 6 else if c = 31 then f 3 else 0
theorem x_valueOf {c : Int32} (h : gs_Sh m T) (hg : g < 12) : gs_exec X (d + 1) 22 [.inr (.inr (T + (27 + g))), .inl c] m = gs_rI (f_vo (m.2.1 (T + (27 + g))) c) m := by
  rw [eq_X2_valueOf]
  simp only [fl_tg h hg, gs_if_rI]
  rfl
abbrev x_evF (X : gs_E) (d T g l H k F : Nat) (m : gs_M) : gs_O := gs_iter X (gs_exec X (d + 3)) gT_X6_evaluate F 15 [(0, .inr (.inr (T + 17))), (2, .inl (Int32.ofNat l)), (3, .inr (.inr (T + (27 + g)))), (4, .inl (Int32.ofNat H)), (5, .inl (Int32.ofNat k))] [] m
theorem x_ev_num {H : Nat} (h : gs_Sh m T) (h8 : m.2.1 (T + 17) 3 = Int32.ofNat n8) (b8 : n8 ≤ 64) (he : m.2.1 (T + 17) 4 = 0) (hk : k < l) (hl : l ≤ n8) (hH : H < 64) (hc : m.2.1 (T + 18) k = 33) :
    x_evF X d T g l H k (F + 1) m = x_evF X d T g l (H + 1) (k + 1) F (gs_sJ m (T + 20) H (Int32.toInt64 (m.2.1 (T + 19) k))) := by
  unfold x_evF
  rw [eq_X6_evaluate_15, if_pos ((gs_nlt (by omega) (by omega)).mpr hk), fl_t17 h, h8, if_pos ((gs_nlt (by omega) (by omega)).mpr (by omega)), fl_t17 h, he, if_pos rfl, fl_t17 h, sh_t17_0 h, gs_nn_s, ar_t h 18 13 64 (by decide) (by omega), hc, if_neg (show ¬ (33 : Int32) = 29 by decide), x_isSign, gs_bI_s, show f_sg 33 = 0 by decide, if_pos rfl, if_pos (by show _ < Int32.ofNat 64; rw [gs_nlt (by omega) (by omega)]; omega), fl_t17 h, sh_t17_2 h, gs_nn_s, if_pos rfl, fl_t17 h, sh_t17_1 h, gs_nn_s, ar_t h 19 13 64 (by decide) (by omega), ar_t h 20 14 64 (by decide) hH, gs_ns, gs_ns]
theorem x_ev_name {H : Nat} {c : Int32} (h : gs_Sh m T) (hg : g < 12) (h8 : m.2.1 (T + 17) 3 = Int32.ofNat n8) (b8 : n8 ≤ 64) (he : m.2.1 (T + 17) 4 = 0) (hk : k < l) (hl : l ≤ n8) (hH : H < 64) (hc : m.2.1 (T + 18) k = c) (c1 : ¬ c = 29) (c2 : f_sg c = 0) (c3 : ¬ c = 33) :
    x_evF X d T g l H k (F + 1) m = x_evF X d T g l (H + 1) (k + 1) F (gs_sJ m (T + 20) H (Int32.toInt64 (f_vo (m.2.1 (T + (27 + g))) c))) := by
  unfold x_evF
  rw [eq_X6_evaluate_15, if_pos ((gs_nlt (by omega) (by omega)).mpr hk), fl_t17 h, h8, if_pos ((gs_nlt (by omega) (by omega)).mpr (by omega)), fl_t17 h, he, if_pos rfl, fl_t17 h, sh_t17_0 h, gs_nn_s, ar_t h 18 13 64 (by decide) (by omega), hc, if_neg c1, x_isSign, gs_bI_s, c2, if_pos rfl, if_pos (by show _ < Int32.ofNat 64; rw [gs_nlt (by omega) (by omega)]; omega), fl_t17 h, sh_t17_2 h, gs_nn_s, if_neg c3, fl_tg h hg, x_valueOf h hg, gs_bI_s, ar_t h 20 14 64 (by decide) hH, gs_ns, gs_ns]
theorem x_ev_not {H : Nat} (h : gs_Sh m T) (h8 : m.2.1 (T + 17) 3 = Int32.ofNat n8) (b8 : n8 ≤ 64) (he : m.2.1 (T + 17) 4 = 0) (hk : k < l) (hl : l ≤ n8) (hH : H < 64) (hc : m.2.1 (T + 18) k = 29) :
    x_evF X d T g l (H + 1) k (F + 1) m = x_evF X d T g l (H + 1) (k + 1) F (gs_sJ m (T + 20) H (if lg_cmp (m.2.2.1 (T + 20) H) 0 = 0 then 1 else 0)) := by
  have e1 : Int32.ofNat (H + 1) - (1 : Int32) = Int32.ofNat H := n_sub (a := H + 1) (b := 1) (by omega)
  unfold x_evF
  rw [eq_X6_evaluate_15, if_pos ((gs_nlt (by omega) (by omega)).mpr hk), fl_t17 h, h8, if_pos ((gs_nlt (by omega) (by omega)).mpr (by omega)), fl_t17 h, he, if_pos rfl, fl_t17 h, sh_t17_0 h, gs_nn_s, ar_t h 18 13 64 (by decide) (by omega), hc, if_pos rfl, if_neg (by show ¬ _ < Int32.ofNat 1; rw [gs_nlt (by omega) (by omega)]; omega), fl_t17 h, sh_t17_2 h, gs_nn_s, fl_t17 h, gs_nn_s, e1, ar_t h 20 14 64 (by decide) hH, ar_t h 20 14 64 (by decide) hH, ar_t h 20 14 64 (by decide) hH, gs_ns]
  split <;> rfl
theorem x_ev_sign {H j : Nat} (h : gs_Sh m T) (h8 : m.2.1 (T + 17) 3 = Int32.ofNat n8) (b8 : n8 ≤ 64) (he : m.2.1 (T + 17) 4 = 0) (hk : k < l) (hl : l ≤ n8) (hH : H + 1 < 64) (h3 : 3 ≤ j) (h14 : j ≤ 14) (hc : m.2.1 (T + 18) k = Int32.ofNat (ckb j)) :
    x_evF X d T g l (H + 2) k (F + 1) m = match f_ap j (m.2.2.1 (T + 20) H) (m.2.2.1 (T + 20) (H + 1)) with
      | some v => x_evF X d T g l (H + 1) (k + 1) F (gs_sJ m (T + 20) H v)
      | none => x_evF X d T g l (H + 1) (k + 1) F (gs_sJ (gs_sI m (T + 17) 4 1) (T + 20) H 0) := by
  have e1 : Int32.ofNat (H + 2) + (-1 : Int32) = Int32.ofNat (H + 1) := by
    rw [← Int32.sub_eq_add_neg]
    exact n_sub (a := H + 2) (b := 1) (by omega)
  have e2 : Int32.ofNat (H + 1) - (1 : Int32) = Int32.ofNat H := n_sub (a := H + 1) (b := 1) (by omega)
  have g1 : ∀ i, i ≤ 14 → 3 ≤ i → ¬ Int32.ofNat (ckb i) = 29 ∧ f_sg (Int32.ofNat (ckb i)) = 1 := by decide
  have hs : gs_Sh (gs_sI m (T + 17) 4 1) T := h
  unfold x_evF
  rw [eq_X6_evaluate_15, if_pos ((gs_nlt (by omega) (by omega)).mpr hk), fl_t17 h, h8, if_pos ((gs_nlt (by omega) (by omega)).mpr (by omega)), fl_t17 h, he, if_pos rfl, fl_t17 h, sh_t17_0 h, gs_nn_s, ar_t h 18 13 64 (by decide) (by omega), hc, if_neg (g1 j h14 h3).1, x_isSign, gs_bI_s, (g1 j h14 h3).2, if_neg (show ¬ (1 : Int32) = 0 by decide), if_neg (by show ¬ _ < Int32.ofNat 2; rw [gs_nlt (by omega) (by omega)]; omega), fl_t17 h, sh_t17_2 h, gs_nn_s, fl_t17 h, gs_nn_s, e1, e2, ar_t h 20 14 64 (by decide) (show H < 64 by omega), fl_t17 h, gs_nn_s, ar_t h 20 14 64 (by decide) hH, fl_t17 h, x_apply h h3 h14]
  cases f_ap j (m.2.2.1 (T + 20) H) (m.2.2.1 (T + 20) (H + 1)) with
  | some v =>
    rw [show f_re T m (some v) = gs_rJ v m from rfl, gs_bJ_s, ar_t h 20 14 64 (by decide) (show H < 64 by omega), gs_ns]
  | none =>
    rw [show f_re T m none = gs_rJ 0 (gs_sI m (T + 17) 4 1) from rfl, gs_bJ_s, ar_t hs 20 14 64 (by decide) (show H < 64 by omega), gs_ns]
theorem x_ev_end {H : Nat} (h : gs_Sh m T) (he : m.2.1 (T + 17) 4 = 0) (bl : l ≤ 64) (hH : 0 < H) (hH2 : H < 100) : x_evF X d T g l H l (F + 1) m = gs_rJ (m.2.2.1 (T + 20) 0) m := by
  unfold x_evF
  rw [eq_X6_evaluate_15, if_neg (show ¬ Int32.ofNat l < Int32.ofNat l from fun q => by have := (gs_nlt (by omega) (by omega)).mp q; omega), fl_t17 h, he, if_pos rfl, if_neg (n_nz hH (by omega)), fl_t17 h, sh_t17_2 h, gs_nn_s]
  exact ar_t h 20 14 64 (by decide) (k := 0) (by decide)
theorem x_ev_err {H : Nat} (h : gs_Sh m T) (he : m.2.1 (T + 17) 4 = 1) (hk : k ≤ l) (bl : l ≤ 64) (h8 : m.2.1 (T + 17) 3 = Int32.ofNat n8) (b8 : n8 ≤ 64) (hl : l ≤ n8) : x_evF X d T g l H k (F + 1) m = gs_rJ 0 m := by
  unfold x_evF
  rw [eq_X6_evaluate_15]
  by_cases hkl : k < l
  · rw [if_pos ((gs_nlt (by omega) (by omega)).mpr hkl), fl_t17 h, h8, if_pos ((gs_nlt (by omega) (by omega)).mpr (by omega)), fl_t17 h, he, if_neg (show ¬ (1 : Int32) = 0 by decide), fl_t17 h, if_neg (show ¬ (1 : Int32) = 0 by decide)]
  · rw [if_neg (fun q => hkl ((gs_nlt (by omega) (by omega)).mp q)), fl_t17 h, he, if_neg (show ¬ (1 : Int32) = 0 by decide)]
end VAL
