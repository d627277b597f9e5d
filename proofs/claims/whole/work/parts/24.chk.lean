def gs_rbs : List Nat := [3, 0, 3, 0, 0, 0, 0, 0, 0, 0, 3, 3, 3, 0, 0, 2, 1, 3, 3, 1, 0, 0, 0, 3, 0, 3, 3, 0, 3, 3, 1, 2, 3, 0, 3, 3, 0, 0, 0, 0, 1, 3, 0, 3, 3, 0, 0, 0, 3, 3, 0, 0, 3, 3, 3, 3, 3, 3, 3, 0, 1, 0, 3, 3, 3, 1, 3, 3, 3, 1, 0, 3, 3, 2, 1, 2, 2, 2, 2, 0, 0, 0, 0, 1, 0, 2, 3, 3, 0, 0, 0, 0, 0, 0, 0, 0, 2, 2, 0, 0, 0, 0, 1, 1, 1, 3, 3, 3, 3, 3, 3, 3, 0, 3, 3, 0, 3, 0, 0, 0, 0, 0, 0, 0, 0, 0, 0, 0, 0, 2, 0, 0, 0, 0, 0, 0, 1, 0, 0, 0, 0, 2, 0, 2, 0, 0, 0, 2, 0, 0, 0, 0, 1, 0, 0, 0, 0, 1, 1, 1, 1, 1, 1, 1, 1, 1, 3, 0, 3, 3, 0, 3, 3, 0, 0, 1, 1, 0, 1, 0, 1, 1, 3, 3, 0, 1, 1, 1, 3, 3, 3, 0, 1, 1, 1, 1, 1, 0, 3, 1, 0, 1, 1, 1, 1, 1, 1, 1, 1, 1, 0, 0, 0, 0, 3, 0, 3, 1, 3, 1, 1, 1, 2, 1, 2, 2, 2, 0, 1, 1, 0, 2, 2, 2, 2, 0, 0, 1, 0, 1, 0, 0, 0, 0, 0, 0, 0, 0, 0, 0, 0, 1, 0, 0, 0, 0, 0, 0, 0, 0, 3, 3, 0, 0, 0, 0, 0, 0, 1, 3, 3, 0, 0, 0, 1, 0, 1, 3, 0, 0, 0, 0, 1, 0, 0, 0, 2, 0, 0, 0, 0, 0, 2, 0, 0, 2, 0, 0, 0, 0, 0, 0, 1, 0, 0, 0, 0, 0, 0, 0, 0, 2, 0, 2, 0, 2, 3, 3, 0, 1]
def gs_rb (k : Nat) : Nat := gs_rbs.getD k 3
def gs_ini (k : Nat) : Bool := decide ((gs_y k).1.name = "<init>")
/-- all that a body's run asks of the tables -/
def gs_mch (k : Nat) : Bool := (gs_tab k).1.isEmpty && Nat.beq (gs_tab k).2.2.2 (gs_y k).2.2.1 && decide ((gs_y k).1.cls = gs_own (gs_y k).2.2.2.2.1) && decide ((gs_y k).2.2.2.1 = gs_rt (gs_rb k)) && (gs_tab k).2.1.all (fun b => gs_cis (gs_y k).2.2.2.2.1 (gs_y k).2.2.1 (gs_y k).2.1 (gs_rb k) (gs_ini k) b.1 b.2)
set_option maxRecDepth 1000000 in
theorem gs_mch_0 : ([0, 1, 2, 3, 4, 5, 6, 7, 8, 9, 10, 11, 12, 13, 14, 15, 16, 17, 18, 19] : List Nat).all gs_mch = true := by decide +kernel
set_option maxRecDepth 1000000 in
theorem gs_mch_1 : ([20, 21, 22, 23, 24, 25, 26, 27, 28, 29, 30, 31, 32, 33] : List Nat).all gs_mch = true := by decide +kernel
set_option maxRecDepth 1000000 in
theorem gs_mch_2 : ([34, 35, 36, 37, 38, 39, 40, 41, 42, 43, 44, 45, 46, 47, 48, 49, 50, 51, 52, 53] : List Nat).all gs_mch = true := by decide +kernel
set_option maxRecDepth 1000000 in
theorem gs_mch_3 : ([54, 55, 56, 57, 58, 59, 60, 61, 62, 63] : List Nat).all gs_mch = true := by decide +kernel
set_option maxRecDepth 1000000 in
theorem gs_mch_4 : ([64, 65, 66, 67, 68, 69, 70, 71, 72, 73, 74, 75, 76, 77, 78, 79] : List Nat).all gs_mch = true := by decide +kernel
set_option maxRecDepth 1000000 in
theorem gs_mch_5 : ([80, 81, 82, 83, 84, 85, 86, 87, 88, 89, 90, 91, 92, 93, 94, 95, 96, 97, 98, 99, 100] : List Nat).all gs_mch = true := by decide +kernel
set_option maxRecDepth 1000000 in
theorem gs_mch_6 : ([101, 102, 103, 104, 105, 106, 107, 108, 109, 110, 111, 112] : List Nat).all gs_mch = true := by decide +kernel
set_option maxRecDepth 1000000 in
theorem gs_mch_7 : ([113, 114, 115, 116, 117, 119, 120, 121, 122, 123, 124, 125, 126, 127, 128, 129, 130, 131, 132, 133, 134, 135] : List Nat).all gs_mch = true := by decide +kernel
set_option maxRecDepth 1000000 in
theorem gs_mch_8 : ([136, 137, 138, 139, 140, 141, 142, 143, 144, 145, 146, 147, 148, 149, 150, 151, 152, 153, 154, 155] : List Nat).all gs_mch = true := by decide +kernel
set_option maxRecDepth 1000000 in
theorem gs_mch_9 : ([156, 157, 158, 159, 160, 161, 162, 163, 164, 165, 166, 167, 168, 169, 170, 171] : List Nat).all gs_mch = true := by decide +kernel
set_option maxRecDepth 1000000 in
theorem gs_mch_10 : ([172] : List Nat).all gs_mch = true := by decide +kernel
set_option maxRecDepth 1000000 in
theorem gs_mch_11 : ([173, 174, 175, 176, 177, 178, 179, 180, 181, 182, 183, 184, 185, 186, 187] : List Nat).all gs_mch = true := by decide +kernel
set_option maxRecDepth 1000000 in
theorem gs_mch_12 : ([188, 189, 190, 191, 192, 193, 194, 195, 196, 197, 198, 199] : List Nat).all gs_mch = true := by decide +kernel
set_option maxRecDepth 1000000 in
theorem gs_mch_13 : ([200, 201, 202, 203, 204, 205, 206, 207, 208] : List Nat).all gs_mch = true := by decide +kernel
set_option maxRecDepth 1000000 in
theorem gs_mch_14 : ([209, 210, 211, 212, 213, 214, 215, 216, 217, 218, 219] : List Nat).all gs_mch = true := by decide +kernel
set_option maxRecDepth 1000000 in
theorem gs_mch_15 : ([220, 221, 222, 223, 224, 225, 226, 227, 228, 229] : List Nat).all gs_mch = true := by decide +kernel
set_option maxRecDepth 1000000 in
theorem gs_mch_16 : ([230, 231, 232, 233, 234, 235, 236, 237, 238, 239, 240, 241, 242, 243, 244, 245, 246, 247, 248, 249] : List Nat).all gs_mch = true := by decide +kernel
set_option maxRecDepth 1000000 in
theorem gs_mch_17 : ([250, 251, 252, 253, 254, 255, 256, 257, 258, 259, 260, 261, 262] : List Nat).all gs_mch = true := by decide +kernel
set_option maxRecDepth 1000000 in
theorem gs_mch_18 : ([263, 264, 265, 266, 267, 268, 269, 270, 271, 272] : List Nat).all gs_mch = true := by decide +kernel
set_option maxRecDepth 1000000 in
theorem gs_mch_19 : ([273, 274, 275, 276, 277, 278, 279, 280, 281, 282, 283, 284, 285, 286] : List Nat).all gs_mch = true := by decide +kernel
set_option maxRecDepth 1000000 in
theorem gs_mch_20 : ([287, 288, 289, 290, 291, 292, 293, 294, 295, 296] : List Nat).all gs_mch = true := by decide +kernel
set_option maxRecDepth 1000000 in
theorem gs_mch_21 : ([297, 298, 299, 300, 301, 302, 303, 304, 305, 306, 307, 308, 309, 310, 311, 312, 313, 314, 315, 316, 317] : List Nat).all gs_mch = true := by decide +kernel
def gs_mcl : List Nat := [0, 1, 2, 3, 4, 5, 6, 7, 8, 9, 10, 11, 12, 13, 14, 15, 16, 17, 18, 19] ++ ([20, 21, 22, 23, 24, 25, 26, 27, 28, 29, 30, 31, 32, 33] ++ ([34, 35, 36, 37, 38, 39, 40, 41, 42, 43, 44, 45, 46, 47, 48, 49, 50, 51, 52, 53] ++ ([54, 55, 56, 57, 58, 59, 60, 61, 62, 63] ++ ([64, 65, 66, 67, 68, 69, 70, 71, 72, 73, 74, 75, 76, 77, 78, 79] ++ ([80, 81, 82, 83, 84, 85, 86, 87, 88, 89, 90, 91, 92, 93, 94, 95, 96, 97, 98, 99, 100] ++ ([101, 102, 103, 104, 105, 106, 107, 108, 109, 110, 111, 112] ++ ([113, 114, 115, 116, 117, 119, 120, 121, 122, 123, 124, 125, 126, 127, 128, 129, 130, 131, 132, 133, 134, 135] ++ ([136, 137, 138, 139, 140, 141, 142, 143, 144, 145, 146, 147, 148, 149, 150, 151, 152, 153, 154, 155] ++ ([156, 157, 158, 159, 160, 161, 162, 163, 164, 165, 166, 167, 168, 169, 170, 171] ++ ([172] ++ ([173, 174, 175, 176, 177, 178, 179, 180, 181, 182, 183, 184, 185, 186, 187] ++ ([188, 189, 190, 191, 192, 193, 194, 195, 196, 197, 198, 199] ++ ([200, 201, 202, 203, 204, 205, 206, 207, 208] ++ ([209, 210, 211, 212, 213, 214, 215, 216, 217, 218, 219] ++ ([220, 221, 222, 223, 224, 225, 226, 227, 228, 229] ++ ([230, 231, 232, 233, 234, 235, 236, 237, 238, 239, 240, 241, 242, 243, 244, 245, 246, 247, 248, 249] ++ ([250, 251, 252, 253, 254, 255, 256, 257, 258, 259, 260, 261, 262] ++ ([263, 264, 265, 266, 267, 268, 269, 270, 271, 272] ++ ([273, 274, 275, 276, 277, 278, 279, 280, 281, 282, 283, 284, 285, 286] ++ ([287, 288, 289, 290, 291, 292, 293, 294, 295, 296] ++ ([297, 298, 299, 300, 301, 302, 303, 304, 305, 306, 307, 308, 309, 310, 311, 312, 313, 314, 315, 316, 317])))))))))))))))))))))
theorem gs_mcl_ok {k : Nat} (h : k ∈ gs_mcl) : gs_mch k = true := by
  unfold gs_mcl at h
  rcases List.mem_append.mp h with h | h
  · exact List.all_eq_true.mp gs_mch_0 k h
  rcases List.mem_append.mp h with h | h
  · exact List.all_eq_true.mp gs_mch_1 k h
  rcases List.mem_append.mp h with h | h
  · exact List.all_eq_true.mp gs_mch_2 k h
  rcases List.mem_append.mp h with h | h
  · exact List.all_eq_true.mp gs_mch_3 k h
  rcases List.mem_append.mp h with h | h
  · exact List.all_eq_true.mp gs_mch_4 k h
  rcases List.mem_append.mp h with h | h
  · exact List.all_eq_true.mp gs_mch_5 k h
  rcases List.mem_append.mp h with h | h
  · exact List.all_eq_true.mp gs_mch_6 k h
  rcases List.mem_append.mp h with h | h
  · exact List.all_eq_true.mp gs_mch_7 k h
  rcases List.mem_append.mp h with h | h
  · exact List.all_eq_true.mp gs_mch_8 k h
  rcases List.mem_append.mp h with h | h
  · exact List.all_eq_true.mp gs_mch_9 k h
  rcases List.mem_append.mp h with h | h
  · exact List.all_eq_true.mp gs_mch_10 k h
  rcases List.mem_append.mp h with h | h
  · exact List.all_eq_true.mp gs_mch_11 k h
  rcases List.mem_append.mp h with h | h
  · exact List.all_eq_true.mp gs_mch_12 k h
  rcases List.mem_append.mp h with h | h
  · exact List.all_eq_true.mp gs_mch_13 k h
  rcases List.mem_append.mp h with h | h
  · exact List.all_eq_true.mp gs_mch_14 k h
  rcases List.mem_append.mp h with h | h
  · exact List.all_eq_true.mp gs_mch_15 k h
  rcases List.mem_append.mp h with h | h
  · exact List.all_eq_true.mp gs_mch_16 k h
  rcases List.mem_append.mp h with h | h
  · exact List.all_eq_true.mp gs_mch_17 k h
  rcases List.mem_append.mp h with h | h
  · exact List.all_eq_true.mp gs_mch_18 k h
  rcases List.mem_append.mp h with h | h
  · exact List.all_eq_true.mp gs_mch_19 k h
  rcases List.mem_append.mp h with h | h
  · exact List.all_eq_true.mp gs_mch_20 k h
  exact List.all_eq_true.mp gs_mch_21 k h
theorem gs_mch_ok {k : Nat} (h : gs_pl k = true) : gs_mch k = true := by
  have h1 : ∀ k, k < 320 → gs_pl k = true → k ∈ gs_mcl := by decide +kernel
  exact gs_mcl_ok (h1 k (gs_pl_lt h) h)
