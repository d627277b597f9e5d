/-! What the start gives. -/
theorem gs_traces {l : Launch} (hf : l.flags = flags0) : l.stackTraces = false := by
  unfold Launch.stackTraces
  rw [hf]
  decide
theorem gs_instw : vwCl.all (fun q => decide (Cond.instantiable q.1 q.2.2 ∈ lw_tbl)) = true := by decide +kernel
theorem gs_nblw : gs_nbl.all (fun w => decide (w ∈ lw_tbl)) = true := by decide +kernel
def gs_flat : List Cond := flatC (Jvm.Cond.and given_1 narrow_1)
set_option maxRecDepth 1000000 in
theorem gs_fdig : ∀ j, j < 12 → Cond.eq (.elem (.static RX4 "DIGITS" "[J") (.int (Int32.ofNat j))) (.long (gs_digits.getD j 0)) ∈ gs_flat := by decide +kernel
set_option maxRecDepth 1000000 in
theorem gs_fwrd : ((List.range 171).all (fun j => decide (Cond.eq (.elem (.field (.string RX9 19) "java/lang/String" "value" "[B") (.int (Int32.ofNat j))) (.int (gs_words.getD j 0)) ∈ gs_flat))) = true := by decide +kernel
set_option maxRecDepth 1000000 in
theorem gs_fnc : gs_ncl.all (fun x => decide (Cond.not (.castable x.1 x.2) ∈ gs_flat)) = true := by decide +kernel
set_option maxRecDepth 1000000 in
theorem gs_fsx : gs_sxs.all (fun x => decide (Cond.exactly (.string (gs_own x.1) x.2.1) "java/lang/String" ∈ gs_flat) && decide (Cond.stringRef (gs_own x.1) x.2.1 x.2.2 ∈ lw_tbl)) = true := by decide +kernel
set_option maxRecDepth 1000000 in
theorem gs_fmore : [Cond.arrayOf (.static RX4 "DIGITS" "[J") .long, Cond.eq (.length (.static RX4 "DIGITS" "[J")) (.int 12), Cond.exactly (.string RX9 19) "java/lang/String", Cond.eq (.field (.string RX9 19) "java/lang/String" "coder" "B") (.int 0), Cond.arrayOf (.field (.string RX9 19) "java/lang/String" "value" "[B") .byte, Cond.eq (.length (.field (.string RX9 19) "java/lang/String" "value" "[B")) (.int 171), Cond.eq (.static "java/lang/String" "COMPACT_STRINGS" "Z") (.int 1), Cond.isRef (.static "jdk/internal/util/Preconditions" "SIOOBE_FORMATTER" "Ljava/util/function/BiFunction;"), Cond.isRef (.static Bundle.tN "UNASSIGNED_STACK" Bundle.steD), Cond.isRef (.static Bundle.tN "SUPPRESSED_SENTINEL" Bundle.listD)].all (fun w => decide (w ∈ gs_flat)) = true := by decide +kernel
set_option maxRecDepth 1000000 in
theorem gs_tmore : [Cond.laysStatic RX4 "DIGITS" "[J", Cond.initialized RX4, Cond.laysStatic "java/lang/String" "COMPACT_STRINGS" "Z", Cond.initialized "java/lang/String", Cond.laysStatic "jdk/internal/util/Preconditions" "SIOOBE_FORMATTER" "Ljava/util/function/BiFunction;", Cond.initialized "jdk/internal/util/Preconditions", Cond.laysStatic Bundle.tN "UNASSIGNED_STACK" Bundle.steD, Cond.laysStatic Bundle.tN "SUPPRESSED_SENTINEL" Bundle.listD, Cond.initialized Bundle.tN, Cond.arrayClass .byte, Cond.arrayClass .int, Cond.arrayClass .long, Cond.arrayOver (.object "GuestStars$Cloud"), Cond.arrayOver (.object "GuestStars$Guest"), Cond.stringRef RX9 19 gs_wtx].all (fun w => decide (w ∈ lw_tbl)) = true := by decide +kernel
