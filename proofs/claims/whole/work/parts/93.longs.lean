/-! Which methods leave all longs as they were. -/
def gs_qJ (J : Nat → Nat → Int64) (o : gs_O) : Prop := ∀ r m', o = some (r, m') → m'.2.2.1 = J
def gs_njw (S : List Nat) (ins : gs_N) : Bool := match ins with
  | (i, _, a1, _, a3, a4, _) => match i with
    | .putfield _ => !(Nat.beq a3 1)
    | .lastore => false
    | .newarray _ => false
    | .anewarray _ => false
    | .new _ => Nat.ble 100 a1
    | .invokevirtual _ => Nat.beq a4 90 || Nat.beq a4 91 || decide (a1 ∈ S)
    | .invokestatic _ => decide (a1 ∈ S)
    | .invokespecial _ => Nat.beq a4 92 || decide (a1 ∈ S)
    | _ => true
section QJ
variable {J : Nat → Nat → Int64} {S : List Nat}
theorem qJ_n : gs_qJ J none := fun _ _ e => by cases e
theorem qJ_r {r : gs_R} {m : gs_M} (h : m.2.2.1 = J) : gs_qJ J (some (r, m)) := fun _ _ e => by
  cases e
  exact h
theorem qJ_c {b : Bool} {o : gs_O} (h : gs_qJ J o) : gs_qJ J (cond b o none) := by
  cases b
  · exact qJ_n
  · exact h
theorem qJ_d {b : Bool} {o : gs_O} (h : gs_qJ J o) : gs_qJ J (cond b none o) := by
  cases b
  · exact h
  · exact qJ_n
theorem qJ_sw {f : Nat → gs_O} (h : ∀ t, gs_qJ J (f t)) {x : Int32} {e : Nat} : ∀ l : List (Int32 × Nat), gs_qJ J (gs_sw l f x e)
  | [] => h e
  | q :: t => by
    show gs_qJ J (if x = q.1 then f q.2 else gs_sw t f x e)
    split
    · exact h _
    · exact qJ_sw h t
theorem qJ_hd2 {go : gs_Go} {pc : Nat} {lo : gs_L} (h0 : ∀ (pc : Nat) (lo : gs_L) (st : List gs_V) (m : gs_M), m.2.2.1 = J → gs_qJ J (go pc [] lo st m)) : ∀ (hs : List (Nat × Nat × Nat × Nat × Nat × Nat × Nat)) (e : Nat) (m : gs_M), m.2.2.1 = J → gs_qJ J (gs_hd2 hs pc go lo e m)
  | [], _, _, _ => qJ_n
  | (a, b, _, E, p, ix, _) :: t, e, m, hm => by
    show gs_qJ J (cond (Nat.ble a pc && Nat.blt pc b && Nat.beq e E) (go p [] (gs_rm lo ix) [] m) (gs_hd2 t pc go lo e m))
    cases (Nat.ble a pc && Nat.blt pc b && Nat.beq e E)
    · exact qJ_hd2 h0 t e m hm
    · exact h0 _ _ _ _ hm
theorem qJ_hd {go : gs_Go} {pc : Nat} {lo : gs_L} (h0 : ∀ (pc : Nat) (lo : gs_L) (st : List gs_V) (m : gs_M), m.2.2.1 = J → gs_qJ J (go pc [] lo st m)) : ∀ (hs : List (Nat × Nat × Nat × Nat × Nat × Nat × Nat)) (e : Nat) (m : gs_M), m.2.2.1 = J → gs_qJ J (gs_hd hs pc go lo e m)
  | [], _, _, hm => qJ_r hm
  | q :: t, e, m, hm => qJ_hd2 h0 (q :: t) e m hm
theorem qJ_call {C : Nat → List gs_V → gs_M → gs_O} {hd : Nat → gs_M → gs_O} {go : gs_Go} {nx k rk : Nat} {as rest : List gs_V} {is : List gs_N} {lo : gs_L} {m : gs_M} (hC : gs_qJ J (C k as m)) (hh : ∀ e m, m.2.2.1 = J → gs_qJ J (hd e m)) (h1 : ∀ (pc : Nat) (lo : gs_L) (st : List gs_V) (m : gs_M), m.2.2.1 = J → gs_qJ J (go pc is lo st m)) : gs_qJ J (gs_call C hd go nx k rk as rest is lo m) := by
  apply qJ_c
  cases e : C k as m with
  | none => split <;> exact qJ_n
  | some q =>
    obtain ⟨r, m'⟩ := q
    have hm' := hC r m' e
    split
    · unfold gs_bI
      split
      · next h => cases h; exact h1 _ _ _ _ hm'
      · next h => cases h; exact hh _ _ hm'
      · exact qJ_n
    · unfold gs_bJ
      split
      · next h => cases h; exact h1 _ _ _ _ hm'
      · next h => cases h; exact hh _ _ hm'
      · exact qJ_n
    · unfold gs_bA
      split
      · next h => cases h; exact h1 _ _ _ _ hm'
      · next h => cases h; exact hh _ _ hm'
      · exact qJ_n
    · unfold gs_bU
      split
      · next h => cases h; exact h1 _ _ _ _ hm'
      · next h => cases h; exact hh _ _ hm'
      · exact qJ_n
theorem qJ_pp {o : Option (List gs_V × List gs_V)} {f : List gs_V → List gs_V → gs_O} (h : ∀ a b, gs_qJ J (f a b)) : gs_qJ J (gs_pp o f) := by
  unfold gs_pp
  split
  · exact h _ _
  · exact qJ_n
theorem qJ_rc {as : List gs_V} {f : Nat → gs_O} (h : ∀ b, gs_qJ J (f b)) : gs_qJ J (gs_rc as f) := by
  unfold gs_rc
  split
  · exact h _
  · exact qJ_n
set_option maxHeartbeats 4000000 in
theorem gs_step_qJ {X : gs_E} {C : Nat → List gs_V → gs_M → gs_O} {hs : List (Nat × Nat × Nat × Nat × Nat × Nat × Nat)} {go : gs_Go} {pc : Nat} {is : List gs_N} {lo : gs_L} {st : List gs_V} {m : gs_M} (ins : gs_N) (hn : gs_njw S ins = true) (hC : ∀ k ∈ S, ∀ as m, m.2.2.1 = J → gs_qJ J (C k as m)) (hm : m.2.2.1 = J)
    (h1 : ∀ (pc : Nat) (lo : gs_L) (st : List gs_V) (m : gs_M), m.2.2.1 = J → gs_qJ J (go pc is lo st m)) (h0 : ∀ (pc : Nat) (lo : gs_L) (st : List gs_V) (m : gs_M), m.2.2.1 = J → gs_qJ J (go pc [] lo st m)) :
    gs_qJ J (gs_step X C hs go pc ins is lo st m) := by
  obtain ⟨i, nx, a1, a2, a3, a4, cv, sw⟩ := ins
  have mem : ∀ {b : Bool}, (b || decide (a1 ∈ S)) = true → b = false → a1 ∈ S := fun h hb => by
    rw [hb, Bool.false_or] at h
    exact of_decide_eq_true h
  cases i with
  | invokevirtual idx =>
    simp only [gs_step]
    split
    · unfold gs_a1
      split
      · exact qJ_c (h1 _ _ _ _ hm)
      · exact qJ_n
    · unfold gs_ia
      split
      · exact qJ_c (h1 _ _ _ _ hm)
      · exact qJ_n
    · next n1 n2 =>
      have ha : a1 ∈ S := by
        have h : (Nat.beq a4 90 || Nat.beq a4 91 || decide (a1 ∈ S)) = true := hn
        refine mem h ?_
        rw [Bool.or_eq_false_iff]
        exact ⟨Bool.eq_false_iff.mpr (fun q => n1 (Nat.eq_of_beq_eq_true q)), Bool.eq_false_iff.mpr (fun q => n2 (Nat.eq_of_beq_eq_true q))⟩
      exact qJ_pp (fun a b => qJ_rc (fun c => qJ_c (qJ_call (hC a1 ha _ _ hm) (qJ_hd h0 hs) h1)))
  | invokestatic idx =>
    simp only [gs_step]
    have ha : a1 ∈ S := of_decide_eq_true hn
    exact qJ_pp (fun a b => qJ_call (hC a1 ha _ _ hm) (fun _ _ _ => qJ_n) h1)
  | invokespecial idx =>
    simp only [gs_step]
    split
    · unfold gs_a1
      split
      · exact qJ_c (h1 _ _ _ _ hm)
      · exact qJ_n
    · next n1 =>
      have ha : a1 ∈ S := by
        have h : (Nat.beq a4 92 || decide (a1 ∈ S)) = true := hn
        exact mem h (Bool.eq_false_iff.mpr (fun q => n1 (Nat.eq_of_beq_eq_true q)))
      exact qJ_pp (fun a b => qJ_rc (fun c => qJ_call (hC a1 ha _ _ hm) (fun _ _ _ => qJ_n) h1))
  | putfield idx =>
    simp only [gs_step]
    split
    · unfold gs_ia
      split
      · exact qJ_c (h1 _ _ _ _ hm)
      · exact qJ_n
    · exact absurd hn (by simp [gs_njw])
    · unfold gs_aa
      split
      · exact qJ_c (qJ_c (h1 _ _ _ _ hm))
      · exact qJ_n
    · unfold gs_ia
      split
      · refine qJ_c ?_
        unfold gs_bt
        split
        · exact h1 _ _ _ _ hm
        · exact qJ_n
      · exact qJ_n
  | lastore => exact absurd hn (by simp [gs_njw])
  | newarray t => exact absurd hn (by simp [gs_njw])
  | anewarray t => exact absurd hn (by simp [gs_njw])
  | new idx =>
    have h : Nat.ble 100 a1 = true := hn
    simp only [gs_step, h, cond_true]
    exact qJ_c (qJ_r hm)
  | tableswitch a b c e =>
    simp only [gs_step, gs_i1]
    split
    · exact qJ_sw (fun t => h0 _ _ _ _ hm) sw
    · exact qJ_n
  | lookupswitch a b =>
    simp only [gs_step, gs_i1]
    split
    · exact qJ_sw (fun t => h0 _ _ _ _ hm) sw
    · exact qJ_n
  | ifCond cn off => cases cn <;> (simp only [gs_step, gs_i1]; repeat' (first | exact qJ_n | exact h1 _ _ _ _ hm | exact h0 _ _ _ _ hm | split))
  | if_icmp cn off => cases cn <;> (simp only [gs_step, gs_i2]; repeat' (first | exact qJ_n | exact h1 _ _ _ _ hm | exact h0 _ _ _ _ hm | split))
  | _ => first
    | exact qJ_n
    | (simp only [gs_step, gs_i1, gs_i2, gs_j1, gs_j2, gs_a1, gs_ia, gs_iia, gs_aia, gs_v1, gs_v2, gs_e0, gs_lI, gs_lJ, gs_lA, gs_cI, gs_cJ, gs_fld, gs_nn, gs_ix, gs_nz, gs_nzL, gs_bt, gs_rI, gs_rJ, gs_rU, gs_rA]; repeat' (first | exact qJ_n | exact h1 _ _ _ _ hm | exact h0 _ _ _ _ hm | exact qJ_r hm | apply qJ_c | apply qJ_d | split))
theorem gs_run_qJ {X : gs_E} {C : Nat → List gs_V → gs_M → gs_O} {T : gs_T} {K : Nat → gs_L → List gs_V → gs_M → gs_O} (hC : ∀ k ∈ S, ∀ as m, m.2.2.1 = J → gs_qJ J (C k as m)) (hT : ∀ b ∈ T.2.1, b.2.all (gs_njw S) = true) (hK : ∀ pc lo st m, m.2.2.1 = J → gs_qJ J (K pc lo st m)) :
    ∀ (n pc : Nat) (is : List gs_N) (lo : gs_L) (st : List gs_V) (m : gs_M), is.all (gs_njw S) = true → m.2.2.1 = J → gs_qJ J (gs_run X C T K n pc is lo st m)
  | 0, _, is, _, _, _, _, _ => by cases is <;> exact qJ_n
  | n + 1, pc, [], lo, st, m, _, hm => by
    unfold gs_run
    split
    · exact hK _ _ _ _ hm
    · split
      · next is his => exact gs_run_qJ hC hT hK n pc is lo st m (hT _ (gs_fb_mem _ his)) hm
      · exact qJ_n
  | n + 1, pc, i :: is, lo, st, m, h, hm => by
    simp only [List.all_cons, Bool.and_eq_true] at h
    unfold gs_run
    exact gs_step_qJ i h.1 hC hm (fun pc lo st m hm => gs_run_qJ hC hT hK n pc is lo st m h.2 hm) (fun pc lo st m hm => gs_run_qJ hC hT hK n pc [] lo st m rfl hm)
theorem gs_iter_qJ {X : gs_E} {C : Nat → List gs_V → gs_M → gs_O} {T : gs_T} (hC : ∀ k ∈ S, ∀ as m, m.2.2.1 = J → gs_qJ J (C k as m)) (hT : ∀ b ∈ T.2.1, b.2.all (gs_njw S) = true) : ∀ (n pc : Nat) (lo : gs_L) (st : List gs_V) (m : gs_M), m.2.2.1 = J → gs_qJ J (gs_iter X C T n pc lo st m)
  | 0, _, _, _, _, _ => qJ_n
  | n + 1, pc, lo, st, m, hm => by
    unfold gs_iter
    split
    · next is his => exact gs_run_qJ hC hT (gs_iter_qJ hC hT n) 2000 pc is lo st m (hT _ (gs_fb_mem _ his)) hm
    · exact qJ_n
theorem gs_exec_qJ {X : gs_E} (hS : S.all (fun k => (gs_tab k).2.1.all (fun b => b.2.all (gs_njw S))) = true) : ∀ (d k : Nat), k ∈ S → ∀ (as : List gs_V) (m : gs_M), m.2.2.1 = J → gs_qJ J (gs_exec X d k as m)
  | 0, _, _, _, _, _ => qJ_n
  | d + 1, k, hk, as, m, hm => by
    have hT : ∀ b ∈ (gs_tab k).2.1, b.2.all (gs_njw S) = true := fun b hb => List.all_eq_true.mp (List.all_eq_true.mp hS k hk) b hb
    show gs_qJ J (gs_ent X (gs_exec X d) (gs_tab k) as m)
    unfold gs_ent
    apply qJ_c
    split
    · next is his => exact gs_run_qJ (gs_exec_qJ hS d) hT (gs_iter_qJ (gs_exec_qJ hS d) hT X.1) 2000 0 is _ _ _ (hT _ (gs_fb_mem _ his)) hm
    · exact qJ_n
end QJ
def gs_S270 : List Nat := [176, 177, 228, 249, 251, 252, 253, 254, 256, 257, 258, 259, 260, 261, 263, 264, 267, 268, 269, 270]
set_option maxRecDepth 1000000 in
theorem gs_S270_ok : gs_S270.all (fun k => (gs_tab k).2.1.all (fun b => b.2.all (gs_njw gs_S270))) = true := by decide +kernel
theorem r_lay_longs {X : gs_E} {d : Nat} {as : List gs_V} {m M : gs_M} (e : gs_exec X d 270 as m = gs_rU M) : M.2.2.1 = m.2.2.1 := gs_exec_qJ gs_S270_ok d 270 (by decide) as m rfl _ _ e
