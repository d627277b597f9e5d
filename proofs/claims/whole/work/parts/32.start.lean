/-! What the start gives. -/
theorem gs_traces {l : Launch} (hf : l.flags = flags0) : l.stackTraces = false := by
  unfold Launch.stackTraces
  rw [hf]
  decide
theorem gs_instw : vwCl.all (fun q => decide (Cond.instantiable q.1 q.2.2 ∈ lw_tbl)) = true := by decide +kernel
theorem gs_nblw : gs_nbl.all (fun w => decide (w ∈ lw_tbl)) = true := by decide +kernel
def gs_flat : List Cond := flatC (Jvm.Cond.and given_1 narrow_1)
set_option maxRecDepth 1000000 in
theorem gs_fdig : ∀ j, j < 12 → Cond.eq (.elem (.static RX4 "DIGITS" "[J") (.int (Int32.ofNat j))) (.long (gs_digits.getD j 0)) ∈ gs_flat := by decide +kernel
def gs_fwb (j : Nat) : Bool := decide (Cond.eq (.elem (.field (.string RX9 19) "java/lang/String" "value" "[B") (.int (Int32.ofNat j))) (.int (gs_words.getD j 0)) ∈ gs_flat)
set_option maxRecDepth 1000000 in
theorem gs_fwb_0 : (List.range 12).all (fun j => gs_fwb (0 + j)) = true := by decide +kernel
set_option maxRecDepth 1000000 in
theorem gs_fwb_1 : (List.range 12).all (fun j => gs_fwb (12 + j)) = true := by decide +kernel
set_option maxRecDepth 1000000 in
theorem gs_fwb_2 : (List.range 12).all (fun j => gs_fwb (24 + j)) = true := by decide +kernel
set_option maxRecDepth 1000000 in
theorem gs_fwb_3 : (List.range 12).all (fun j => gs_fwb (36 + j)) = true := by decide +kernel
set_option maxRecDepth 1000000 in
theorem gs_fwb_4 : (List.range 12).all (fun j => gs_fwb (48 + j)) = true := by decide +kernel
set_option maxRecDepth 1000000 in
theorem gs_fwb_5 : (List.range 12).all (fun j => gs_fwb (60 + j)) = true := by decide +kernel
set_option maxRecDepth 1000000 in
theorem gs_fwb_6 : (List.range 12).all (fun j => gs_fwb (72 + j)) = true := by decide +kernel
set_option maxRecDepth 1000000 in
theorem gs_fwb_7 : (List.range 12).all (fun j => gs_fwb (84 + j)) = true := by decide +kernel
set_option maxRecDepth 1000000 in
theorem gs_fwb_8 : (List.range 12).all (fun j => gs_fwb (96 + j)) = true := by decide +kernel
set_option maxRecDepth 1000000 in
theorem gs_fwb_9 : (List.range 12).all (fun j => gs_fwb (108 + j)) = true := by decide +kernel
set_option maxRecDepth 1000000 in
theorem gs_fwb_10 : (List.range 12).all (fun j => gs_fwb (120 + j)) = true := by decide +kernel
set_option maxRecDepth 1000000 in
theorem gs_fwb_11 : (List.range 12).all (fun j => gs_fwb (132 + j)) = true := by decide +kernel
set_option maxRecDepth 1000000 in
theorem gs_fwb_12 : (List.range 12).all (fun j => gs_fwb (144 + j)) = true := by decide +kernel
set_option maxRecDepth 1000000 in
theorem gs_fwb_13 : (List.range 12).all (fun j => gs_fwb (156 + j)) = true := by decide +kernel
set_option maxRecDepth 1000000 in
theorem gs_fwb_14 : (List.range 3).all (fun j => gs_fwb (168 + j)) = true := by decide +kernel
theorem gs_fwrd : ∀ j, j < 171 → gs_fwb j = true := by
  intro n hn
  rcases Nat.lt_or_ge n 12 with h | h
  · have h9 := List.all_eq_true.mp gs_fwb_0 (n - 0) (List.mem_range.mpr (by omega))
    rw [show 0 + (n - 0) = n by omega] at h9
    exact h9
  rcases Nat.lt_or_ge n 24 with h | h
  · have h9 := List.all_eq_true.mp gs_fwb_1 (n - 12) (List.mem_range.mpr (by omega))
    rw [show 12 + (n - 12) = n by omega] at h9
    exact h9
  rcases Nat.lt_or_ge n 36 with h | h
  · have h9 := List.all_eq_true.mp gs_fwb_2 (n - 24) (List.mem_range.mpr (by omega))
    rw [show 24 + (n - 24) = n by omega] at h9
    exact h9
  rcases Nat.lt_or_ge n 48 with h | h
  · have h9 := List.all_eq_true.mp gs_fwb_3 (n - 36) (List.mem_range.mpr (by omega))
    rw [show 36 + (n - 36) = n by omega] at h9
    exact h9
  rcases Nat.lt_or_ge n 60 with h | h
  · have h9 := List.all_eq_true.mp gs_fwb_4 (n - 48) (List.mem_range.mpr (by omega))
    rw [show 48 + (n - 48) = n by omega] at h9
    exact h9
  rcases Nat.lt_or_ge n 72 with h | h
  · have h9 := List.all_eq_true.mp gs_fwb_5 (n - 60) (List.mem_range.mpr (by omega))
    rw [show 60 + (n - 60) = n by omega] at h9
    exact h9
  rcases Nat.lt_or_ge n 84 with h | h
  · have h9 := List.all_eq_true.mp gs_fwb_6 (n - 72) (List.mem_range.mpr (by omega))
    rw [show 72 + (n - 72) = n by omega] at h9
    exact h9
  rcases Nat.lt_or_ge n 96 with h | h
  · have h9 := List.all_eq_true.mp gs_fwb_7 (n - 84) (List.mem_range.mpr (by omega))
    rw [show 84 + (n - 84) = n by omega] at h9
    exact h9
  rcases Nat.lt_or_ge n 108 with h | h
  · have h9 := List.all_eq_true.mp gs_fwb_8 (n - 96) (List.mem_range.mpr (by omega))
    rw [show 96 + (n - 96) = n by omega] at h9
    exact h9
  rcases Nat.lt_or_ge n 120 with h | h
  · have h9 := List.all_eq_true.mp gs_fwb_9 (n - 108) (List.mem_range.mpr (by omega))
    rw [show 108 + (n - 108) = n by omega] at h9
    exact h9
  rcases Nat.lt_or_ge n 132 with h | h
  · have h9 := List.all_eq_true.mp gs_fwb_10 (n - 120) (List.mem_range.mpr (by omega))
    rw [show 120 + (n - 120) = n by omega] at h9
    exact h9
  rcases Nat.lt_or_ge n 144 with h | h
  · have h9 := List.all_eq_true.mp gs_fwb_11 (n - 132) (List.mem_range.mpr (by omega))
    rw [show 132 + (n - 132) = n by omega] at h9
    exact h9
  rcases Nat.lt_or_ge n 156 with h | h
  · have h9 := List.all_eq_true.mp gs_fwb_12 (n - 144) (List.mem_range.mpr (by omega))
    rw [show 144 + (n - 144) = n by omega] at h9
    exact h9
  rcases Nat.lt_or_ge n 168 with h | h
  · have h9 := List.all_eq_true.mp gs_fwb_13 (n - 156) (List.mem_range.mpr (by omega))
    rw [show 156 + (n - 156) = n by omega] at h9
    exact h9
  rcases Nat.lt_or_ge n 171 with h | h
  · have h9 := List.all_eq_true.mp gs_fwb_14 (n - 168) (List.mem_range.mpr (by omega))
    rw [show 168 + (n - 168) = n by omega] at h9
    exact h9
  omega
set_option maxRecDepth 1000000 in
theorem gs_fnc : gs_ncl.all (fun x => decide (Cond.not (.castable x.1 x.2) ∈ gs_flat)) = true := by decide +kernel
set_option maxRecDepth 1000000 in
theorem gs_fsx : gs_sxs.all (fun x => decide (Cond.exactly (.string (gs_own x.1) x.2.1) "java/lang/String" ∈ gs_flat) && decide (Cond.stringRef (gs_own x.1) x.2.1 x.2.2 ∈ lw_tbl)) = true := by decide +kernel
set_option maxRecDepth 1000000 in
theorem gs_fmore : [Cond.arrayOf (.static RX4 "DIGITS" "[J") .long, Cond.eq (.length (.static RX4 "DIGITS" "[J")) (.int 12), Cond.exactly (.string RX9 19) "java/lang/String", Cond.eq (.field (.string RX9 19) "java/lang/String" "coder" "B") (.int 0), Cond.arrayOf (.field (.string RX9 19) "java/lang/String" "value" "[B") .byte, Cond.eq (.length (.field (.string RX9 19) "java/lang/String" "value" "[B")) (.int 171), Cond.eq (.static "java/lang/String" "COMPACT_STRINGS" "Z") (.int 1), Cond.isRef (.static "jdk/internal/util/Preconditions" "SIOOBE_FORMATTER" "Ljava/util/function/BiFunction;"), Cond.isRef (.static Bundle.tN "UNASSIGNED_STACK" Bundle.steD), Cond.isRef (.static Bundle.tN "SUPPRESSED_SENTINEL" Bundle.listD)].all (fun w => decide (w ∈ gs_flat)) = true := by decide +kernel
set_option maxRecDepth 1000000 in
theorem gs_tmore : [Cond.laysStatic RX4 "DIGITS" "[J", Cond.initialized RX4, Cond.laysStatic "java/lang/String" "COMPACT_STRINGS" "Z", Cond.initialized "java/lang/String", Cond.laysStatic "jdk/internal/util/Preconditions" "SIOOBE_FORMATTER" "Ljava/util/function/BiFunction;", Cond.initialized "jdk/internal/util/Preconditions", Cond.laysStatic Bundle.tN "UNASSIGNED_STACK" Bundle.steD, Cond.laysStatic Bundle.tN "SUPPRESSED_SENTINEL" Bundle.listD, Cond.initialized Bundle.tN, Cond.arrayClass .byte, Cond.arrayClass .int, Cond.arrayClass .long, Cond.arrayOver (.object "GuestStars$Cloud"), Cond.arrayOver (.object "GuestStars$Guest"), Cond.stringRef RX9 19 gs_wtx].all (fun w => decide (w ∈ lw_tbl)) = true := by decide +kernel
