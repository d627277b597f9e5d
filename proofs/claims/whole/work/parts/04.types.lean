abbrev gs_V : Type := Int32 ⊕ Int64 ⊕ Nat
abbrev gs_M : Type := (Nat × Nat × Nat) × (Nat → Nat → Int32) × (Nat → Nat → Int64) × (Nat → Nat → Option Nat)
abbrev gs_R : Type := Option gs_V ⊕ Nat
abbrev gs_O : Type := Option (gs_R × gs_M)
abbrev gs_L : Type := List (Nat × gs_V)
/-- an instruction, the place behind it, four numbers, a constant, a switch's rows -/
abbrev gs_N : Type := Instr × Nat × Nat × Nat × Nat × Nat × gs_V × List (Int32 × Nat)
/-- handlers (from, to, place, exception, place behind the store, local, entry), blocks, stops, how many locals -/
abbrev gs_T : Type := List (Nat × Nat × Nat × Nat × Nat × Nat × Nat) × List (Nat × List gs_N) × List (Nat × List Nat) × Nat
def gs_kinds : List Nat := [10, 5, 13, 8, 12, 13, 4, 13, 14, 14, 14, 13, 13, 13, 13, 13, 1, 13, 7, 3, 13, 13, 13, 3, 13, 13, 13, 3, 13, 13, 13, 3, 13, 13, 13, 6, 13, 13, 14, 9, 13, 13, 13, 16, 15, 2, 2, 2, 2, 2, 2, 2, 2, 2, 2, 2, 2, 0, 0, 0, 0, 0, 0, 0, 0, 0, 0, 7, 3, 13, 13, 13, 3, 13, 13, 13, 3, 13, 13, 13, 3, 13, 13, 13, 6, 13, 13, 14, 9, 13, 13, 13, 16, 15, 2, 2, 2, 2, 2, 2, 2, 2, 2, 2, 2, 2, 0, 0, 0, 0, 0, 0, 0, 0, 0, 0, 11, 13, 13, 13, 13, 13, 13, 13, 13, 13, 13, 13, 13, 13, 13, 13, 13, 13, 13, 13, 13, 13, 13, 13, 13, 13, 13, 13, 14, 14, 13, 13, 13, 13, 13, 13, 14]
def gs_lens : List Nat := [0, 0, 72, 0, 800, 32, 0, 120, 13, 23, 23, 23, 23, 10, 12, 12, 0, 12, 0, 0, 8, 8, 8, 0, 10, 10, 10, 0, 8, 8, 8, 0, 6, 6, 6, 0, 64, 64, 64, 0, 6, 6, 6, 12, 10, 0, 0, 0, 0, 0, 0, 0, 0, 0, 0, 0, 0, 0, 0, 0, 0, 0, 0, 0, 0, 0, 0, 0, 0, 8, 8, 8, 0, 10, 10, 10, 0, 8, 8, 8, 0, 6, 6, 6, 0, 64, 64, 64, 0, 6, 6, 6, 12, 10, 0, 0, 0, 0, 0, 0, 0, 0, 0, 0, 0, 0, 0, 0, 0, 0, 0, 0, 0, 0, 0, 0, 0, 800, 171, 9, 9, 9, 4, 4, 16, 16, 16, 20, 20, 20, 16, 16, 384, 180, 12, 12, 12, 12, 36, 128, 128, 128, 96, 96, 6, 64, 12, 12, 120, 13312, 12, 12, 1]
def gs_kind (a : Nat) : Nat := gs_kinds.getD a 99
def gs_len (a : Nat) : Nat := gs_lens.getD a 0
