/-! Only the law reads the script. -/
def gs_nscr (ins : gs_N) : Bool := match ins with
  | (i, _, a1, _) => match i with
    | .iaload => Nat.beq a1 0
    | .arraylength => Nat.beq a1 0
    | .invokevirtual _ => !(Nat.beq a1 319)
    | .invokestatic _ => !(Nat.beq a1 319)
    | .invokespecial _ => !(Nat.beq a1 319)
    | _ => true
theorem gs_hd2_X {go go' : gs_Go} {pc : Nat} {lo : gs_L} (h0 : ∀ (pc : Nat) (lo : gs_L) (st : List gs_V) (m : gs_M), go pc [] lo st m = go' pc [] lo st m) : ∀ hs : List (Nat × Nat × Nat × Nat × Nat × Nat × Nat), gs_hd2 hs pc go lo = gs_hd2 hs pc go' lo
  | [] => rfl
  | (a, b, _, E, p, ix, _) :: t => by
    funext e m
    show cond (Nat.ble a pc && Nat.blt pc b && Nat.beq e E) (go p [] (gs_rm lo ix) [] m) (gs_hd2 t pc go lo e m) = cond (Nat.ble a pc && Nat.blt pc b && Nat.beq e E) (go' p [] (gs_rm lo ix) [] m) (gs_hd2 t pc go' lo e m)
    rw [h0, gs_hd2_X h0 t]
theorem gs_hd_X {go go' : gs_Go} {pc : Nat} {lo : gs_L} (h0 : ∀ (pc : Nat) (lo : gs_L) (st : List gs_V) (m : gs_M), go pc [] lo st m = go' pc [] lo st m) : ∀ hs : List (Nat × Nat × Nat × Nat × Nat × Nat × Nat), gs_hd hs pc go lo = gs_hd hs pc go' lo
  | [] => rfl
  | q :: t => gs_hd2_X h0 (q :: t)
theorem gs_call_X {C C' : Nat → List gs_V → gs_M → gs_O} {hd hd' : Nat → gs_M → gs_O} {go go' : gs_Go} {nx k rk : Nat} {as rest : List gs_V} {is : List gs_N} {lo : gs_L} {m : gs_M} (hC : C k = C' k) (hh : hd = hd') (h1 : ∀ (pc : Nat) (lo : gs_L) (st : List gs_V) (m : gs_M), go pc is lo st m = go' pc is lo st m) : gs_call C hd go nx k rk as rest is lo m = gs_call C' hd' go' nx k rk as rest is lo m := by
  subst hh
  unfold gs_call
  simp only [hC, h1]
set_option maxHeartbeats 4000000 in
theorem gs_step_X {X X' : gs_E} {C C' : Nat → List gs_V → gs_M → gs_O} {hs : List (Nat × Nat × Nat × Nat × Nat × Nat × Nat)} {go go' : gs_Go} {pc : Nat} {is : List gs_N} {lo : gs_L} {st : List gs_V} {m : gs_M} (ins : gs_N) (hn : gs_nscr ins = true) (hC : ∀ k, k ≠ 319 → C k = C' k)
    (h1 : ∀ (pc : Nat) (lo : gs_L) (st : List gs_V) (m : gs_M), go pc is lo st m = go' pc is lo st m) (h0 : ∀ (pc : Nat) (lo : gs_L) (st : List gs_V) (m : gs_M), go pc [] lo st m = go' pc [] lo st m) :
    gs_step X C hs go pc ins is lo st m = gs_step X' C' hs go' pc ins is lo st m := by
  obtain ⟨i, nx, a1, a2, a3, a4, cv, sw⟩ := ins
  have key : ∀ a : Nat, (!(Nat.beq a 319)) = true → a ≠ 319 := fun a h e => by subst e; exact absurd h (by decide)
  cases i with
  | iaload =>
    have e := Nat.eq_of_beq_eq_true (show Nat.beq a1 0 = true from hn)
    subst e
    simp only [gs_step, h1]
  | arraylength =>
    have e := Nat.eq_of_beq_eq_true (show Nat.beq a1 0 = true from hn)
    subst e
    simp only [gs_step, h1]
  | invokevirtual idx =>
    have e := hC a1 (key a1 hn)
    have f : ∀ (as rest : List gs_V), gs_call C (gs_hd hs pc go lo) go nx a1 a3 as rest is lo m = gs_call C' (gs_hd hs pc go' lo) go' nx a1 a3 as rest is lo m := fun as rest => gs_call_X e (gs_hd_X h0 hs) h1
    simp only [gs_step, h1, f]
  | invokestatic idx =>
    have e := hC a1 (key a1 hn)
    have f : ∀ (as rest : List gs_V), gs_call C gs_nt go nx a1 a3 as rest is lo m = gs_call C' gs_nt go' nx a1 a3 as rest is lo m := fun as rest => gs_call_X e rfl h1
    simp only [gs_step, f]
  | invokespecial idx =>
    have e := hC a1 (key a1 hn)
    have f : ∀ (as rest : List gs_V), gs_call C gs_nt go nx a1 a3 as rest is lo m = gs_call C' gs_nt go' nx a1 a3 as rest is lo m := fun as rest => gs_call_X e rfl h1
    simp only [gs_step, h1, f]
  | ifCond cn off => cases cn <;> simp only [gs_step, h1, h0]
  | if_icmp cn off => cases cn <;> simp only [gs_step, h1, h0]
  | _ => first | rfl | simp only [gs_step, h1, h0]
theorem gs_run_X {X X' : gs_E} {C C' : Nat → List gs_V → gs_M → gs_O} {T : gs_T} {K : Nat → gs_L → List gs_V → gs_M → gs_O} (hC : ∀ k, k ≠ 319 → C k = C' k) (hT : ∀ b ∈ T.2.1, b.2.all gs_nscr = true) :
    ∀ (n pc : Nat) (is : List gs_N) (lo : gs_L) (st : List gs_V) (m : gs_M), is.all gs_nscr = true → gs_run X C T K n pc is lo st m = gs_run X' C' T K n pc is lo st m
  | 0, _, is, _, _, _, _ => by cases is <;> rfl
  | n + 1, pc, [], lo, st, m, _ => by
    unfold gs_run
    split
    · rfl
    · split
      · next is his => exact gs_run_X hC hT n pc is lo st m (hT _ (gs_fb_mem _ his))
      · rfl
  | n + 1, pc, i :: is, lo, st, m, h => by
    simp only [List.all_cons, Bool.and_eq_true] at h
    unfold gs_run
    exact gs_step_X i h.1 hC (fun pc lo st m => gs_run_X hC hT n pc is lo st m h.2) (fun pc lo st m => gs_run_X hC hT n pc [] lo st m rfl)
theorem gs_iter_X {X X' : gs_E} {C C' : Nat → List gs_V → gs_M → gs_O} {T : gs_T} (hC : ∀ k, k ≠ 319 → C k = C' k) (hT : ∀ b ∈ T.2.1, b.2.all gs_nscr = true) : ∀ n : Nat, gs_iter X C T n = gs_iter X' C' T n
  | 0 => rfl
  | n + 1 => by
    funext pc lo st m
    unfold gs_iter
    split
    · next is his =>
      rw [gs_iter_X hC hT n]
      exact gs_run_X hC hT 2000 pc is lo st m (hT _ (gs_fb_mem _ his))
    · rfl
set_option maxRecDepth 1000000 in
theorem gs_tabs_nscr : (gs_tabs.take 319).all (fun T => T.2.1.all (fun b => b.2.all gs_nscr)) = true ∧ (gs_tab 320).2.1.all (fun b => b.2.all gs_nscr) = true := by decide +kernel
theorem gs_tab_nscr {k : Nat} (h : k ≠ 319) : ∀ b ∈ (gs_tab k).2.1, b.2.all gs_nscr = true := by
  intro b hb
  have hl : gs_tabs.length = 321 := by decide +kernel
  unfold gs_tab at hb
  rw [List.getD_eq_getElem?_getD] at hb
  cases hq : gs_tabs[k]? with
  | none => rw [hq] at hb; cases hb
  | some T =>
    rw [hq] at hb
    have hk : k < 321 := by rw [← hl]; exact (List.getElem?_eq_some_iff.mp hq).1
    rcases (show k < 319 ∨ k = 320 by omega) with h9 | h9
    · have hm : T ∈ gs_tabs.take 319 := List.mem_of_getElem? (i := k) (by rw [List.getElem?_take_of_lt h9]; exact hq)
      exact List.all_eq_true.mp (List.all_eq_true.mp gs_tabs_nscr.1 T hm) b hb
    · have e : gs_tab 320 = T := by
        unfold gs_tab
        rw [List.getD_eq_getElem?_getD, ← h9, hq]
        rfl
      have h8 := gs_tabs_nscr.2
      rw [e] at h8
      exact List.all_eq_true.mp h8 b hb
theorem gs_exec_X {X X' : gs_E} (hf : X.1 = X'.1) : ∀ (d k : Nat), k ≠ 319 → gs_exec X d k = gs_exec X' d k
  | 0, _, _ => by funext as m; rfl
  | d + 1, k, hk => by
    funext as m
    show gs_ent X (gs_exec X d) (gs_tab k) as m = gs_ent X' (gs_exec X' d) (gs_tab k) as m
    have hC : ∀ k, k ≠ 319 → gs_exec X d k = gs_exec X' d k := fun k hk => gs_exec_X hf d k hk
    unfold gs_ent
    rw [gs_iter_X hC (gs_tab_nscr hk) X.1, hf]
    split
    · next is his => rw [gs_run_X hC (gs_tab_nscr hk) 2000 0 is _ _ _ (gs_tab_nscr hk _ (gs_fb_mem _ his))]
    · rfl
