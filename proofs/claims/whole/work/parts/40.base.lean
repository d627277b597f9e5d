/-! The shape of the memory after the constructors: who points where, for good. T: the tale that is told. -/
def gs_rpf : List (Nat × Nat × Nat) := [(0, 0, 1), (0, 1, 6), (0, 2, 16), (1, 0, 2), (1, 8, 3), (3, 0, 4), (3, 1, 5), (6, 0, 7), (6, 1, 8), (6, 2, 9), (6, 3, 10), (6, 4, 11), (6, 5, 12), (6, 6, 13), (6, 11, 14), (6, 12, 15), (16, 0, 17), (116, 0, 117), (116, 3, 118), (116, 12, 119), (116, 13, 120), (116, 14, 121), (116, 15, 122), (116, 16, 123), (116, 18, 124), (116, 19, 125), (116, 20, 126), (116, 21, 127), (116, 22, 128), (116, 23, 129), (116, 24, 130), (116, 25, 131), (116, 26, 132), (116, 27, 133), (116, 28, 134), (116, 29, 135), (116, 30, 136), (116, 31, 137), (116, 32, 138), (116, 33, 139), (116, 34, 140), (116, 35, 141), (116, 38, 142), (116, 39, 143), (116, 46, 144), (116, 47, 145), (116, 52, 146), (116, 53, 147), (116, 55, 148), (116, 56, 149), (116, 57, 150), (116, 58, 151)]
def gs_rpt : List (Nat × Nat × Nat) := [(0, 0, 1), (0, 1, 5), (0, 2, 9), (0, 3, 13), (0, 4, 17), (0, 5, 21), (0, 6, 25), (0, 7, 26), (1, 0, 2), (1, 1, 3), (1, 2, 4), (5, 0, 6), (5, 1, 7), (5, 2, 8), (9, 0, 10), (9, 1, 11), (9, 2, 12), (13, 0, 14), (13, 1, 15), (13, 2, 16), (17, 0, 18), (17, 1, 19), (17, 2, 20), (21, 0, 22), (21, 1, 23), (21, 2, 24), (25, 0, 27), (25, 1, 28), (25, 2, 29), (25, 3, 30), (25, 4, 31), (25, 5, 32), (25, 6, 33), (25, 7, 34), (25, 8, 35), (25, 9, 36), (25, 10, 37), (25, 11, 38), (26, 0, 39), (26, 1, 40), (26, 2, 41), (26, 3, 42), (26, 4, 43), (26, 5, 44), (26, 6, 45), (26, 7, 46), (26, 8, 47), (26, 9, 48)]
/-- the tale told is at T, the other at 85 - T -/
def gs_Sh (m : gs_M) (T : Nat) : Prop := m.1.1 = 153 ∧ (T = 18 ∨ T = 67) ∧ m.2.2.2 0 3 = some T ∧ m.2.2.2 1 1 = some (85 - T) ∧ (∀ x ∈ gs_rpf, m.2.2.2 x.1 x.2.1 = some x.2.2) ∧ (∀ x ∈ gs_rpt, m.2.2.2 (18 + x.1) x.2.1 = some (18 + x.2.2) ∧ m.2.2.2 (67 + x.1) x.2.1 = some (67 + x.2.2))
theorem sh_n {m : gs_M} {T : Nat} (h : gs_Sh m T) : m.1.1 = 153 := h.1
theorem sh_told {m : gs_M} {T : Nat} (h : gs_Sh m T) : m.2.2.2 0 3 = some T := h.2.2.1
theorem sh_spare {m : gs_M} {T : Nat} (h : gs_Sh m T) : m.2.2.2 1 1 = some (85 - T) := h.2.2.2.1
theorem sh_0_0 {m : gs_M} {T : Nat} (h : gs_Sh m T) : m.2.2.2 0 0 = some 1 := h.2.2.2.2.1 (0, 0, 1) (List.mem_of_getElem? (i := 0) rfl)
theorem sh_0_1 {m : gs_M} {T : Nat} (h : gs_Sh m T) : m.2.2.2 0 1 = some 6 := h.2.2.2.2.1 (0, 1, 6) (List.mem_of_getElem? (i := 1) rfl)
theorem sh_0_2 {m : gs_M} {T : Nat} (h : gs_Sh m T) : m.2.2.2 0 2 = some 16 := h.2.2.2.2.1 (0, 2, 16) (List.mem_of_getElem? (i := 2) rfl)
theorem sh_1_0 {m : gs_M} {T : Nat} (h : gs_Sh m T) : m.2.2.2 1 0 = some 2 := h.2.2.2.2.1 (1, 0, 2) (List.mem_of_getElem? (i := 3) rfl)
theorem sh_1_8 {m : gs_M} {T : Nat} (h : gs_Sh m T) : m.2.2.2 1 8 = some 3 := h.2.2.2.2.1 (1, 8, 3) (List.mem_of_getElem? (i := 4) rfl)
theorem sh_3_0 {m : gs_M} {T : Nat} (h : gs_Sh m T) : m.2.2.2 3 0 = some 4 := h.2.2.2.2.1 (3, 0, 4) (List.mem_of_getElem? (i := 5) rfl)
theorem sh_3_1 {m : gs_M} {T : Nat} (h : gs_Sh m T) : m.2.2.2 3 1 = some 5 := h.2.2.2.2.1 (3, 1, 5) (List.mem_of_getElem? (i := 6) rfl)
theorem sh_6_0 {m : gs_M} {T : Nat} (h : gs_Sh m T) : m.2.2.2 6 0 = some 7 := h.2.2.2.2.1 (6, 0, 7) (List.mem_of_getElem? (i := 7) rfl)
theorem sh_6_1 {m : gs_M} {T : Nat} (h : gs_Sh m T) : m.2.2.2 6 1 = some 8 := h.2.2.2.2.1 (6, 1, 8) (List.mem_of_getElem? (i := 8) rfl)
theorem sh_6_2 {m : gs_M} {T : Nat} (h : gs_Sh m T) : m.2.2.2 6 2 = some 9 := h.2.2.2.2.1 (6, 2, 9) (List.mem_of_getElem? (i := 9) rfl)
theorem sh_6_3 {m : gs_M} {T : Nat} (h : gs_Sh m T) : m.2.2.2 6 3 = some 10 := h.2.2.2.2.1 (6, 3, 10) (List.mem_of_getElem? (i := 10) rfl)
theorem sh_6_4 {m : gs_M} {T : Nat} (h : gs_Sh m T) : m.2.2.2 6 4 = some 11 := h.2.2.2.2.1 (6, 4, 11) (List.mem_of_getElem? (i := 11) rfl)
theorem sh_6_5 {m : gs_M} {T : Nat} (h : gs_Sh m T) : m.2.2.2 6 5 = some 12 := h.2.2.2.2.1 (6, 5, 12) (List.mem_of_getElem? (i := 12) rfl)
theorem sh_6_6 {m : gs_M} {T : Nat} (h : gs_Sh m T) : m.2.2.2 6 6 = some 13 := h.2.2.2.2.1 (6, 6, 13) (List.mem_of_getElem? (i := 13) rfl)
theorem sh_6_11 {m : gs_M} {T : Nat} (h : gs_Sh m T) : m.2.2.2 6 11 = some 14 := h.2.2.2.2.1 (6, 11, 14) (List.mem_of_getElem? (i := 14) rfl)
theorem sh_6_12 {m : gs_M} {T : Nat} (h : gs_Sh m T) : m.2.2.2 6 12 = some 15 := h.2.2.2.2.1 (6, 12, 15) (List.mem_of_getElem? (i := 15) rfl)
theorem sh_16_0 {m : gs_M} {T : Nat} (h : gs_Sh m T) : m.2.2.2 16 0 = some 17 := h.2.2.2.2.1 (16, 0, 17) (List.mem_of_getElem? (i := 16) rfl)
theorem sh_116_0 {m : gs_M} {T : Nat} (h : gs_Sh m T) : m.2.2.2 116 0 = some 117 := h.2.2.2.2.1 (116, 0, 117) (List.mem_of_getElem? (i := 17) rfl)
theorem sh_116_3 {m : gs_M} {T : Nat} (h : gs_Sh m T) : m.2.2.2 116 3 = some 118 := h.2.2.2.2.1 (116, 3, 118) (List.mem_of_getElem? (i := 18) rfl)
theorem sh_116_12 {m : gs_M} {T : Nat} (h : gs_Sh m T) : m.2.2.2 116 12 = some 119 := h.2.2.2.2.1 (116, 12, 119) (List.mem_of_getElem? (i := 19) rfl)
theorem sh_116_13 {m : gs_M} {T : Nat} (h : gs_Sh m T) : m.2.2.2 116 13 = some 120 := h.2.2.2.2.1 (116, 13, 120) (List.mem_of_getElem? (i := 20) rfl)
theorem sh_116_14 {m : gs_M} {T : Nat} (h : gs_Sh m T) : m.2.2.2 116 14 = some 121 := h.2.2.2.2.1 (116, 14, 121) (List.mem_of_getElem? (i := 21) rfl)
theorem sh_116_15 {m : gs_M} {T : Nat} (h : gs_Sh m T) : m.2.2.2 116 15 = some 122 := h.2.2.2.2.1 (116, 15, 122) (List.mem_of_getElem? (i := 22) rfl)
theorem sh_116_16 {m : gs_M} {T : Nat} (h : gs_Sh m T) : m.2.2.2 116 16 = some 123 := h.2.2.2.2.1 (116, 16, 123) (List.mem_of_getElem? (i := 23) rfl)
theorem sh_116_18 {m : gs_M} {T : Nat} (h : gs_Sh m T) : m.2.2.2 116 18 = some 124 := h.2.2.2.2.1 (116, 18, 124) (List.mem_of_getElem? (i := 24) rfl)
theorem sh_116_19 {m : gs_M} {T : Nat} (h : gs_Sh m T) : m.2.2.2 116 19 = some 125 := h.2.2.2.2.1 (116, 19, 125) (List.mem_of_getElem? (i := 25) rfl)
theorem sh_116_20 {m : gs_M} {T : Nat} (h : gs_Sh m T) : m.2.2.2 116 20 = some 126 := h.2.2.2.2.1 (116, 20, 126) (List.mem_of_getElem? (i := 26) rfl)
theorem sh_116_21 {m : gs_M} {T : Nat} (h : gs_Sh m T) : m.2.2.2 116 21 = some 127 := h.2.2.2.2.1 (116, 21, 127) (List.mem_of_getElem? (i := 27) rfl)
theorem sh_116_22 {m : gs_M} {T : Nat} (h : gs_Sh m T) : m.2.2.2 116 22 = some 128 := h.2.2.2.2.1 (116, 22, 128) (List.mem_of_getElem? (i := 28) rfl)
theorem sh_116_23 {m : gs_M} {T : Nat} (h : gs_Sh m T) : m.2.2.2 116 23 = some 129 := h.2.2.2.2.1 (116, 23, 129) (List.mem_of_getElem? (i := 29) rfl)
theorem sh_116_24 {m : gs_M} {T : Nat} (h : gs_Sh m T) : m.2.2.2 116 24 = some 130 := h.2.2.2.2.1 (116, 24, 130) (List.mem_of_getElem? (i := 30) rfl)
theorem sh_116_25 {m : gs_M} {T : Nat} (h : gs_Sh m T) : m.2.2.2 116 25 = some 131 := h.2.2.2.2.1 (116, 25, 131) (List.mem_of_getElem? (i := 31) rfl)
theorem sh_116_26 {m : gs_M} {T : Nat} (h : gs_Sh m T) : m.2.2.2 116 26 = some 132 := h.2.2.2.2.1 (116, 26, 132) (List.mem_of_getElem? (i := 32) rfl)
theorem sh_116_27 {m : gs_M} {T : Nat} (h : gs_Sh m T) : m.2.2.2 116 27 = some 133 := h.2.2.2.2.1 (116, 27, 133) (List.mem_of_getElem? (i := 33) rfl)
theorem sh_116_28 {m : gs_M} {T : Nat} (h : gs_Sh m T) : m.2.2.2 116 28 = some 134 := h.2.2.2.2.1 (116, 28, 134) (List.mem_of_getElem? (i := 34) rfl)
theorem sh_116_29 {m : gs_M} {T : Nat} (h : gs_Sh m T) : m.2.2.2 116 29 = some 135 := h.2.2.2.2.1 (116, 29, 135) (List.mem_of_getElem? (i := 35) rfl)
theorem sh_116_30 {m : gs_M} {T : Nat} (h : gs_Sh m T) : m.2.2.2 116 30 = some 136 := h.2.2.2.2.1 (116, 30, 136) (List.mem_of_getElem? (i := 36) rfl)
theorem sh_116_31 {m : gs_M} {T : Nat} (h : gs_Sh m T) : m.2.2.2 116 31 = some 137 := h.2.2.2.2.1 (116, 31, 137) (List.mem_of_getElem? (i := 37) rfl)
theorem sh_116_32 {m : gs_M} {T : Nat} (h : gs_Sh m T) : m.2.2.2 116 32 = some 138 := h.2.2.2.2.1 (116, 32, 138) (List.mem_of_getElem? (i := 38) rfl)
theorem sh_116_33 {m : gs_M} {T : Nat} (h : gs_Sh m T) : m.2.2.2 116 33 = some 139 := h.2.2.2.2.1 (116, 33, 139) (List.mem_of_getElem? (i := 39) rfl)
theorem sh_116_34 {m : gs_M} {T : Nat} (h : gs_Sh m T) : m.2.2.2 116 34 = some 140 := h.2.2.2.2.1 (116, 34, 140) (List.mem_of_getElem? (i := 40) rfl)
theorem sh_116_35 {m : gs_M} {T : Nat} (h : gs_Sh m T) : m.2.2.2 116 35 = some 141 := h.2.2.2.2.1 (116, 35, 141) (List.mem_of_getElem? (i := 41) rfl)
theorem sh_116_38 {m : gs_M} {T : Nat} (h : gs_Sh m T) : m.2.2.2 116 38 = some 142 := h.2.2.2.2.1 (116, 38, 142) (List.mem_of_getElem? (i := 42) rfl)
theorem sh_116_39 {m : gs_M} {T : Nat} (h : gs_Sh m T) : m.2.2.2 116 39 = some 143 := h.2.2.2.2.1 (116, 39, 143) (List.mem_of_getElem? (i := 43) rfl)
theorem sh_116_46 {m : gs_M} {T : Nat} (h : gs_Sh m T) : m.2.2.2 116 46 = some 144 := h.2.2.2.2.1 (116, 46, 144) (List.mem_of_getElem? (i := 44) rfl)
theorem sh_116_47 {m : gs_M} {T : Nat} (h : gs_Sh m T) : m.2.2.2 116 47 = some 145 := h.2.2.2.2.1 (116, 47, 145) (List.mem_of_getElem? (i := 45) rfl)
theorem sh_116_52 {m : gs_M} {T : Nat} (h : gs_Sh m T) : m.2.2.2 116 52 = some 146 := h.2.2.2.2.1 (116, 52, 146) (List.mem_of_getElem? (i := 46) rfl)
theorem sh_116_53 {m : gs_M} {T : Nat} (h : gs_Sh m T) : m.2.2.2 116 53 = some 147 := h.2.2.2.2.1 (116, 53, 147) (List.mem_of_getElem? (i := 47) rfl)
theorem sh_116_55 {m : gs_M} {T : Nat} (h : gs_Sh m T) : m.2.2.2 116 55 = some 148 := h.2.2.2.2.1 (116, 55, 148) (List.mem_of_getElem? (i := 48) rfl)
theorem sh_116_56 {m : gs_M} {T : Nat} (h : gs_Sh m T) : m.2.2.2 116 56 = some 149 := h.2.2.2.2.1 (116, 56, 149) (List.mem_of_getElem? (i := 49) rfl)
theorem sh_116_57 {m : gs_M} {T : Nat} (h : gs_Sh m T) : m.2.2.2 116 57 = some 150 := h.2.2.2.2.1 (116, 57, 150) (List.mem_of_getElem? (i := 50) rfl)
theorem sh_116_58 {m : gs_M} {T : Nat} (h : gs_Sh m T) : m.2.2.2 116 58 = some 151 := h.2.2.2.2.1 (116, 58, 151) (List.mem_of_getElem? (i := 51) rfl)
theorem sh_t {m : gs_M} {T : Nat} (h : gs_Sh m T) {a j b : Nat} (hx : (a, j, b) ∈ gs_rpt) : m.2.2.2 (T + a) j = some (T + b) := by
  rcases h.2.1 with e | e
  · rw [e]; exact (h.2.2.2.2.2 _ hx).1
  · rw [e]; exact (h.2.2.2.2.2 _ hx).2
theorem sh_t0_0 {m : gs_M} {T : Nat} (h : gs_Sh m T) : m.2.2.2 T 0 = some (T + 1) := sh_t h (a := 0) (j := 0) (b := 1) (List.mem_of_getElem? (i := 0) rfl)
theorem sh_t0_1 {m : gs_M} {T : Nat} (h : gs_Sh m T) : m.2.2.2 T 1 = some (T + 5) := sh_t h (a := 0) (j := 1) (b := 5) (List.mem_of_getElem? (i := 1) rfl)
theorem sh_t0_2 {m : gs_M} {T : Nat} (h : gs_Sh m T) : m.2.2.2 T 2 = some (T + 9) := sh_t h (a := 0) (j := 2) (b := 9) (List.mem_of_getElem? (i := 2) rfl)
theorem sh_t0_3 {m : gs_M} {T : Nat} (h : gs_Sh m T) : m.2.2.2 T 3 = some (T + 13) := sh_t h (a := 0) (j := 3) (b := 13) (List.mem_of_getElem? (i := 3) rfl)
theorem sh_t0_4 {m : gs_M} {T : Nat} (h : gs_Sh m T) : m.2.2.2 T 4 = some (T + 17) := sh_t h (a := 0) (j := 4) (b := 17) (List.mem_of_getElem? (i := 4) rfl)
theorem sh_t0_5 {m : gs_M} {T : Nat} (h : gs_Sh m T) : m.2.2.2 T 5 = some (T + 21) := sh_t h (a := 0) (j := 5) (b := 21) (List.mem_of_getElem? (i := 5) rfl)
theorem sh_t0_6 {m : gs_M} {T : Nat} (h : gs_Sh m T) : m.2.2.2 T 6 = some (T + 25) := sh_t h (a := 0) (j := 6) (b := 25) (List.mem_of_getElem? (i := 6) rfl)
theorem sh_t0_7 {m : gs_M} {T : Nat} (h : gs_Sh m T) : m.2.2.2 T 7 = some (T + 26) := sh_t h (a := 0) (j := 7) (b := 26) (List.mem_of_getElem? (i := 7) rfl)
theorem sh_t1_0 {m : gs_M} {T : Nat} (h : gs_Sh m T) : m.2.2.2 (T + 1) 0 = some (T + 2) := sh_t h (a := 1) (j := 0) (b := 2) (List.mem_of_getElem? (i := 8) rfl)
theorem sh_t1_1 {m : gs_M} {T : Nat} (h : gs_Sh m T) : m.2.2.2 (T + 1) 1 = some (T + 3) := sh_t h (a := 1) (j := 1) (b := 3) (List.mem_of_getElem? (i := 9) rfl)
theorem sh_t1_2 {m : gs_M} {T : Nat} (h : gs_Sh m T) : m.2.2.2 (T + 1) 2 = some (T + 4) := sh_t h (a := 1) (j := 2) (b := 4) (List.mem_of_getElem? (i := 10) rfl)
theorem sh_t5_0 {m : gs_M} {T : Nat} (h : gs_Sh m T) : m.2.2.2 (T + 5) 0 = some (T + 6) := sh_t h (a := 5) (j := 0) (b := 6) (List.mem_of_getElem? (i := 11) rfl)
theorem sh_t5_1 {m : gs_M} {T : Nat} (h : gs_Sh m T) : m.2.2.2 (T + 5) 1 = some (T + 7) := sh_t h (a := 5) (j := 1) (b := 7) (List.mem_of_getElem? (i := 12) rfl)
theorem sh_t5_2 {m : gs_M} {T : Nat} (h : gs_Sh m T) : m.2.2.2 (T + 5) 2 = some (T + 8) := sh_t h (a := 5) (j := 2) (b := 8) (List.mem_of_getElem? (i := 13) rfl)
theorem sh_t9_0 {m : gs_M} {T : Nat} (h : gs_Sh m T) : m.2.2.2 (T + 9) 0 = some (T + 10) := sh_t h (a := 9) (j := 0) (b := 10) (List.mem_of_getElem? (i := 14) rfl)
theorem sh_t9_1 {m : gs_M} {T : Nat} (h : gs_Sh m T) : m.2.2.2 (T + 9) 1 = some (T + 11) := sh_t h (a := 9) (j := 1) (b := 11) (List.mem_of_getElem? (i := 15) rfl)
theorem sh_t9_2 {m : gs_M} {T : Nat} (h : gs_Sh m T) : m.2.2.2 (T + 9) 2 = some (T + 12) := sh_t h (a := 9) (j := 2) (b := 12) (List.mem_of_getElem? (i := 16) rfl)
theorem sh_t13_0 {m : gs_M} {T : Nat} (h : gs_Sh m T) : m.2.2.2 (T + 13) 0 = some (T + 14) := sh_t h (a := 13) (j := 0) (b := 14) (List.mem_of_getElem? (i := 17) rfl)
theorem sh_t13_1 {m : gs_M} {T : Nat} (h : gs_Sh m T) : m.2.2.2 (T + 13) 1 = some (T + 15) := sh_t h (a := 13) (j := 1) (b := 15) (List.mem_of_getElem? (i := 18) rfl)
theorem sh_t13_2 {m : gs_M} {T : Nat} (h : gs_Sh m T) : m.2.2.2 (T + 13) 2 = some (T + 16) := sh_t h (a := 13) (j := 2) (b := 16) (List.mem_of_getElem? (i := 19) rfl)
theorem sh_t17_0 {m : gs_M} {T : Nat} (h : gs_Sh m T) : m.2.2.2 (T + 17) 0 = some (T + 18) := sh_t h (a := 17) (j := 0) (b := 18) (List.mem_of_getElem? (i := 20) rfl)
theorem sh_t17_1 {m : gs_M} {T : Nat} (h : gs_Sh m T) : m.2.2.2 (T + 17) 1 = some (T + 19) := sh_t h (a := 17) (j := 1) (b := 19) (List.mem_of_getElem? (i := 21) rfl)
theorem sh_t17_2 {m : gs_M} {T : Nat} (h : gs_Sh m T) : m.2.2.2 (T + 17) 2 = some (T + 20) := sh_t h (a := 17) (j := 2) (b := 20) (List.mem_of_getElem? (i := 22) rfl)
theorem sh_t21_0 {m : gs_M} {T : Nat} (h : gs_Sh m T) : m.2.2.2 (T + 21) 0 = some (T + 22) := sh_t h (a := 21) (j := 0) (b := 22) (List.mem_of_getElem? (i := 23) rfl)
theorem sh_t21_1 {m : gs_M} {T : Nat} (h : gs_Sh m T) : m.2.2.2 (T + 21) 1 = some (T + 23) := sh_t h (a := 21) (j := 1) (b := 23) (List.mem_of_getElem? (i := 24) rfl)
theorem sh_t21_2 {m : gs_M} {T : Nat} (h : gs_Sh m T) : m.2.2.2 (T + 21) 2 = some (T + 24) := sh_t h (a := 21) (j := 2) (b := 24) (List.mem_of_getElem? (i := 25) rfl)
theorem sh_guest {m : gs_M} {T : Nat} (h : gs_Sh m T) {g : Nat} (hg : g < 12) : m.2.2.2 (T + 25) g = some (T + (27 + g)) := by
  have key : ∀ g, g < 12 → (25, g, 27 + g) ∈ gs_rpt := by decide
  exact sh_t h (key g hg)
theorem sh_cloud {m : gs_M} {T : Nat} (h : gs_Sh m T) {c : Nat} (hc : c < 10) : m.2.2.2 (T + 26) c = some (T + (39 + c)) := by
  have key : ∀ g, g < 10 → (26, g, 39 + g) ∈ gs_rpt := by decide
  exact sh_t h (key c hc)
theorem sh_fld {m : gs_M} {T : Nat} (h : gs_Sh m T) {a c : Nat} {k : gs_O} (hk : gs_ok a c 153 = true) : gs_fld m a c k = k := by
  unfold gs_fld
  rw [h.1, hk]
  rfl
theorem fl_0 {m : gs_M} {T : Nat} (h : gs_Sh m T) {k : gs_O} : gs_fld m 0 10 k = k := sh_fld h rfl
theorem fl_1 {m : gs_M} {T : Nat} (h : gs_Sh m T) {k : gs_O} : gs_fld m 1 5 k = k := sh_fld h rfl
theorem fl_3 {m : gs_M} {T : Nat} (h : gs_Sh m T) {k : gs_O} : gs_fld m 3 8 k = k := sh_fld h rfl
theorem fl_6 {m : gs_M} {T : Nat} (h : gs_Sh m T) {k : gs_O} : gs_fld m 6 4 k = k := sh_fld h rfl
theorem fl_16 {m : gs_M} {T : Nat} (h : gs_Sh m T) {k : gs_O} : gs_fld m 16 1 k = k := sh_fld h rfl
theorem fl_116 {m : gs_M} {T : Nat} (h : gs_Sh m T) {k : gs_O} : gs_fld m 116 11 k = k := sh_fld h rfl
theorem fl_t0 {m : gs_M} {T : Nat} (h : gs_Sh m T) {k : gs_O} : gs_fld m T 7 k = k := by
  rcases h.2.1 with e | e <;> (rw [e]; exact sh_fld h rfl)
theorem fl_t1 {m : gs_M} {T : Nat} (h : gs_Sh m T) {k : gs_O} : gs_fld m (T + 1) 3 k = k := by
  rcases h.2.1 with e | e <;> (rw [e]; exact sh_fld h rfl)
theorem fl_t5 {m : gs_M} {T : Nat} (h : gs_Sh m T) {k : gs_O} : gs_fld m (T + 5) 3 k = k := by
  rcases h.2.1 with e | e <;> (rw [e]; exact sh_fld h rfl)
theorem fl_t9 {m : gs_M} {T : Nat} (h : gs_Sh m T) {k : gs_O} : gs_fld m (T + 9) 3 k = k := by
  rcases h.2.1 with e | e <;> (rw [e]; exact sh_fld h rfl)
theorem fl_t13 {m : gs_M} {T : Nat} (h : gs_Sh m T) {k : gs_O} : gs_fld m (T + 13) 3 k = k := by
  rcases h.2.1 with e | e <;> (rw [e]; exact sh_fld h rfl)
theorem fl_t17 {m : gs_M} {T : Nat} (h : gs_Sh m T) {k : gs_O} : gs_fld m (T + 17) 6 k = k := by
  rcases h.2.1 with e | e <;> (rw [e]; exact sh_fld h rfl)
theorem fl_t21 {m : gs_M} {T : Nat} (h : gs_Sh m T) {k : gs_O} : gs_fld m (T + 21) 9 k = k := by
  rcases h.2.1 with e | e <;> (rw [e]; exact sh_fld h rfl)
theorem fl_tg {m : gs_M} {T : Nat} (h : gs_Sh m T) {g : Nat} (hg : g < 12) {k : gs_O} : gs_fld m (T + (27 + g)) 2 k = k := by
  have key : ∀ g, g < 12 → gs_ok (18 + (27 + g)) 2 153 = true ∧ gs_ok (67 + (27 + g)) 2 153 = true := by decide
  rcases h.2.1 with e | e <;> rw [e]
  · exact sh_fld h (key g hg).1
  · exact sh_fld h (key g hg).2
theorem fl_tc {m : gs_M} {T : Nat} (h : gs_Sh m T) {g : Nat} (hg : g < 10) {k : gs_O} : gs_fld m (T + (39 + g)) 0 k = k := by
  have key : ∀ g, g < 10 → gs_ok (18 + (39 + g)) 0 153 = true ∧ gs_ok (67 + (39 + g)) 0 153 = true := by decide
  rcases h.2.1 with e | e <;> rw [e]
  · exact sh_fld h (key g hg).1
  · exact sh_fld h (key g hg).2
/-! Reads behind writes. -/
theorem gs_sI1 (m : gs_M) (a j : Nat) (x : Int32) : (gs_sI m a j x).1 = m.1 := rfl
theorem gs_sI22 (m : gs_M) (a j : Nat) (x : Int32) : (gs_sI m a j x).2.2 = m.2.2 := rfl
theorem gs_sIg (m : gs_M) (a j : Nat) (x : Int32) (b i : Nat) : (gs_sI m a j x).2.1 b i = if b = a then (if i = j then x else m.2.1 b i) else m.2.1 b i := rfl
theorem gs_sIe (m : gs_M) (a j : Nat) (x : Int32) : (gs_sI m a j x).2.1 a j = x := by rw [gs_sIg, if_pos rfl, if_pos rfl]
theorem gs_sIn {m : gs_M} {a j : Nat} {x : Int32} {b i : Nat} (h : b ≠ a ∨ i ≠ j) : (gs_sI m a j x).2.1 b i = m.2.1 b i := by
  rw [gs_sIg]
  split
  · next e =>
    rw [if_neg (fun ej => h.elim (fun n => n e) (fun n => n ej))]
  · rfl
theorem gs_sJ1 (m : gs_M) (a j : Nat) (x : Int64) : (gs_sJ m a j x).1 = m.1 := rfl
theorem gs_sJ21 (m : gs_M) (a j : Nat) (x : Int64) : (gs_sJ m a j x).2.1 = m.2.1 := rfl
theorem gs_sJ222 (m : gs_M) (a j : Nat) (x : Int64) : (gs_sJ m a j x).2.2.2 = m.2.2.2 := rfl
theorem gs_sJg (m : gs_M) (a j : Nat) (x : Int64) (b i : Nat) : (gs_sJ m a j x).2.2.1 b i = if b = a then (if i = j then x else m.2.2.1 b i) else m.2.2.1 b i := rfl
theorem sh_sI {m : gs_M} {T a j : Nat} {x : Int32} (h : gs_Sh m T) : gs_Sh (gs_sI m a j x) T := h
theorem sh_sJ {m : gs_M} {T a j : Nat} {x : Int64} (h : gs_Sh m T) : gs_Sh (gs_sJ m a j x) T := h
/-! Small steps of the pure machine. -/
theorem gs_nn_s (a : Nat) (k : Nat → gs_O) : gs_nn (some a) k = k a := rfl
theorem gs_bI_s (x : Int32) (m : gs_M) (h : Nat → gs_M → gs_O) (k : Int32 → gs_M → gs_O) : gs_bI (gs_rI x m) h k = k x m := rfl
theorem gs_bJ_s (x : Int64) (m : gs_M) (h : Nat → gs_M → gs_O) (k : Int64 → gs_M → gs_O) : gs_bJ (gs_rJ x m) h k = k x m := rfl
theorem gs_bU_s (m : gs_M) (h : Nat → gs_M → gs_O) (k : gs_M → gs_O) : gs_bU (gs_rU m) h k = k m := rfl
theorem gs_bI_if (c : Prop) [Decidable c] (a b : gs_O) (h : Nat → gs_M → gs_O) (k : Int32 → gs_M → gs_O) : gs_bI (if c then a else b) h k = if c then gs_bI a h k else gs_bI b h k := by split <;> rfl
theorem gs_bJ_if (c : Prop) [Decidable c] (a b : gs_O) (h : Nat → gs_M → gs_O) (k : Int64 → gs_M → gs_O) : gs_bJ (if c then a else b) h k = if c then gs_bJ a h k else gs_bJ b h k := by split <;> rfl
theorem gs_bt1 (k : gs_O) : gs_bt 1 k = k := rfl
theorem gs_bt0 (k : gs_O) : gs_bt 0 k = k := rfl
theorem gs_nz_n {y : Int32} (h : y ≠ 0) (k : gs_O) : gs_nz y k = k := if_neg h
theorem gs_nzL_n {y : Int64} (h : y ≠ 0) (k : gs_O) : gs_nzL y k = k := if_neg h
theorem gs_ixe {m : gs_M} {a c : Nat} {j : Int32} {k : Nat → gs_O} (h : m.1.1 = 153) (hk : gs_ok a c 153 = true) (hj : gs_in j (gs_len a) = true) : gs_ix m a c j k = k j.toNatClampNeg := by
  unfold gs_ix
  rw [h, hk, hj]
  rfl
