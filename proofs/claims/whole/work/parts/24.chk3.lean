def gs_lawf (b : Nat × List gs_N) : Bool := gs_cis true (gs_y 319).2.2.2.2.1 (gs_y 319).2.2.1 (gs_y 319).2.1 (gs_rb 319) (gs_ini 319) b.1 b.2
set_option maxRecDepth 1000000 in
theorem gs_law_0 : (List.range 5).all (fun j => gs_lawf (gB_L_law.getD (0 + j) (0, []))) = true := by decide +kernel
set_option maxRecDepth 1000000 in
theorem gs_law_1 : (List.range 6).all (fun j => gs_lawf (gB_L_law.getD (5 + j) (0, []))) = true := by decide +kernel
set_option maxRecDepth 1000000 in
theorem gs_law_2 : (List.range 4).all (fun j => gs_lawf (gB_L_law.getD (11 + j) (0, []))) = true := by decide +kernel
set_option maxRecDepth 1000000 in
theorem gs_law_3 : (List.range 4).all (fun j => gs_lawf (gB_L_law.getD (15 + j) (0, []))) = true := by decide +kernel
set_option maxRecDepth 1000000 in
theorem gs_law_4 : (List.range 5).all (fun j => gs_lawf (gB_L_law.getD (19 + j) (0, []))) = true := by decide +kernel
set_option maxRecDepth 1000000 in
theorem gs_law_5 : (List.range 5).all (fun j => gs_lawf (gB_L_law.getD (24 + j) (0, []))) = true := by decide +kernel
set_option maxRecDepth 1000000 in
theorem gs_law_6 : (List.range 5).all (fun j => gs_lawf (gB_L_law.getD (29 + j) (0, []))) = true := by decide +kernel
set_option maxRecDepth 1000000 in
theorem gs_law_7 : (List.range 4).all (fun j => gs_lawf (gB_L_law.getD (34 + j) (0, []))) = true := by decide +kernel
set_option maxRecDepth 1000000 in
theorem gs_law_8 : (List.range 8).all (fun j => gs_lawf (gB_L_law.getD (38 + j) (0, []))) = true := by decide +kernel
set_option maxRecDepth 1000000 in
theorem gs_law_9 : (List.range 4).all (fun j => gs_lawf (gB_L_law.getD (46 + j) (0, []))) = true := by decide +kernel
theorem gs_lawAll : ∀ n, n < 50 → gs_lawf (gB_L_law.getD n (0, [])) = true := by
  intro n hn
  rcases Nat.lt_or_ge n 5 with h | h
  · have h9 := List.all_eq_true.mp gs_law_0 (n - 0) (List.mem_range.mpr (by omega))
    rw [show 0 + (n - 0) = n by omega] at h9
    exact h9
  rcases Nat.lt_or_ge n 11 with h | h
  · have h9 := List.all_eq_true.mp gs_law_1 (n - 5) (List.mem_range.mpr (by omega))
    rw [show 5 + (n - 5) = n by omega] at h9
    exact h9
  rcases Nat.lt_or_ge n 15 with h | h
  · have h9 := List.all_eq_true.mp gs_law_2 (n - 11) (List.mem_range.mpr (by omega))
    rw [show 11 + (n - 11) = n by omega] at h9
    exact h9
  rcases Nat.lt_or_ge n 19 with h | h
  · have h9 := List.all_eq_true.mp gs_law_3 (n - 15) (List.mem_range.mpr (by omega))
    rw [show 15 + (n - 15) = n by omega] at h9
    exact h9
  rcases Nat.lt_or_ge n 24 with h | h
  · have h9 := List.all_eq_true.mp gs_law_4 (n - 19) (List.mem_range.mpr (by omega))
    rw [show 19 + (n - 19) = n by omega] at h9
    exact h9
  rcases Nat.lt_or_ge n 29 with h | h
  · have h9 := List.all_eq_true.mp gs_law_5 (n - 24) (List.mem_range.mpr (by omega))
    rw [show 24 + (n - 24) = n by omega] at h9
    exact h9
  rcases Nat.lt_or_ge n 34 with h | h
  · have h9 := List.all_eq_true.mp gs_law_6 (n - 29) (List.mem_range.mpr (by omega))
    rw [show 29 + (n - 29) = n by omega] at h9
    exact h9
  rcases Nat.lt_or_ge n 38 with h | h
  · have h9 := List.all_eq_true.mp gs_law_7 (n - 34) (List.mem_range.mpr (by omega))
    rw [show 34 + (n - 34) = n by omega] at h9
    exact h9
  rcases Nat.lt_or_ge n 46 with h | h
  · have h9 := List.all_eq_true.mp gs_law_8 (n - 38) (List.mem_range.mpr (by omega))
    rw [show 38 + (n - 38) = n by omega] at h9
    exact h9
  rcases Nat.lt_or_ge n 50 with h | h
  · have h9 := List.all_eq_true.mp gs_law_9 (n - 46) (List.mem_range.mpr (by omega))
    rw [show 46 + (n - 46) = n by omega] at h9
    exact h9
  omega
set_option maxRecDepth 1000000 in
theorem gs_mch2_319 : gs_mch2 319 = true := by
  have e1 : (gs_tab 319).2.1 = gB_L_law := rfl
  have e2 : gB_L_law.length = 50 := by decide +kernel
  have e3 : (Nat.beq (gs_tab 319).2.2.2 (gs_y 319).2.2.1 && decide ((gs_y 319).1.cls = gs_own (gs_y 319).2.2.2.2.1) && decide ((gs_y 319).2.2.2.1 = gs_rt (gs_rb 319))) = true := by decide +kernel
  unfold gs_mch2
  rw [e3, e1, Bool.true_and]
  refine List.all_eq_true.mpr (fun b hb => ?_)
  obtain ⟨n, hn, rfl⟩ := List.getElem_of_mem hb
  have h9 := gs_lawAll n (by rw [← e2]; exact hn)
  rw [List.getD_eq_getElem?_getD, List.getElem?_eq_getElem hn, Option.getD_some] at h9
  exact h9
