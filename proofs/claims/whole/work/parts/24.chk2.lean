set_option maxRecDepth 1000000 in
theorem gs_mch_big : gs_mch 172 = true := by
  have e1 : (gs_tab 172).2.1 = [(0, gs_bigL)] := rfl
  have e2 : gs_bigL.length = 873 := by decide +kernel
  have e3 : ((gs_tab 172).1.isEmpty && Nat.beq (gs_tab 172).2.2.2 (gs_y 172).2.2.1 && decide ((gs_y 172).1.cls = gs_own (gs_y 172).2.2.2.2.1) && decide ((gs_y 172).2.2.2.1 = gs_rt (gs_rb 172))) = true := by decide +kernel
  unfold gs_mch
  rw [e3, e1, Bool.true_and, List.all_cons, List.all_nil, Bool.and_true]
  exact gs_ca_ok gs_bigL 0 (fun n hn => gs_big n (by rw [← e2]; exact hn))
def gs_mcl : List Nat := [172] ++ ([0, 1, 2, 3, 4, 5, 6, 7, 8, 9, 10, 11, 12, 13, 14] ++ ([15, 16, 17, 18, 19, 20, 21, 22, 23, 24, 25, 26, 27, 28] ++ ([29, 30, 31, 32, 33, 34, 35, 36] ++ ([37, 38, 39, 40, 41, 42, 43, 44, 45, 46, 47, 48, 49, 50, 51, 52] ++ ([53, 54, 55, 56, 57, 58, 59, 60, 61] ++ ([62, 63, 64, 65, 66, 67, 68] ++ ([69, 70, 71, 72, 73, 74, 75, 76, 77, 78, 79, 80, 81, 82, 83, 84] ++ ([85, 86, 87, 88, 89, 90, 91, 92, 93, 94, 95, 96, 97, 98] ++ ([99, 100, 101, 102, 103, 104, 105, 106, 107, 108] ++ ([109, 110, 111, 112, 113, 114, 115, 116, 117, 119, 120, 121, 122] ++ ([123, 124, 125, 126, 127, 128, 129, 130, 131, 132, 133, 134, 135, 136, 137, 138, 139] ++ ([140, 141, 142, 143, 144, 145, 146, 147, 148, 149, 150, 151, 152, 153] ++ ([154, 155, 156, 157, 158, 159, 160, 161, 162, 163, 164, 165, 166, 167, 168, 169, 170, 171, 173, 174, 175, 176] ++ ([177, 178, 179, 180, 181, 182, 183, 184, 185] ++ ([186, 187, 188, 189, 190, 191, 192, 193, 194, 195, 196, 197] ++ ([198, 199, 200, 201, 202, 203, 204] ++ ([205, 206, 207, 208] ++ ([209, 210, 211, 212, 213, 214, 215, 216, 217, 218] ++ ([219, 220, 221, 222, 223, 224] ++ ([225, 226, 227, 228, 229, 230, 231, 232, 233, 234, 235] ++ ([236, 237, 238, 239, 240, 241, 242, 243, 244, 245, 246, 247, 248, 249] ++ ([250, 251, 252, 253, 254, 255, 256, 257, 258, 259, 260, 261] ++ ([262, 263, 264, 265, 266, 267, 268, 269] ++ ([270, 271, 272, 273, 274, 275] ++ ([276, 277, 278, 279, 280, 281, 282, 283, 284, 285, 286] ++ ([287, 288, 289, 290, 291, 292, 293, 294, 295] ++ ([296, 297, 298, 299, 300, 301, 302, 303, 304, 305] ++ ([306, 307, 308, 309, 310, 311, 312, 313, 314, 315, 316, 317, 320]))))))))))))))))))))))))))))
theorem gs_mcl_ok {k : Nat} (h : k ∈ gs_mcl) : gs_mch k = true := by
  unfold gs_mcl at h
  rcases List.mem_append.mp h with h | h
  · rw [List.mem_singleton.mp h]
    exact gs_mch_big
  rcases List.mem_append.mp h with h | h
  · exact List.all_eq_true.mp gs_mch_0 k h
  rcases List.mem_append.mp h with h | h
  · exact List.all_eq_true.mp gs_mch_1 k h
  rcases List.mem_append.mp h with h | h
  · exact List.all_eq_true.mp gs_mch_2 k h
  rcases List.mem_append.mp h with h | h
  · exact List.all_eq_true.mp gs_mch_3 k h
  rcases List.mem_append.mp h with h | h
  · exact List.all_eq_true.mp gs_mch_4 k h
  rcases List.mem_append.mp h with h | h
  · exact List.all_eq_true.mp gs_mch_5 k h
  rcases List.mem_append.mp h with h | h
  · exact List.all_eq_true.mp gs_mch_6 k h
  rcases List.mem_append.mp h with h | h
  · exact List.all_eq_true.mp gs_mch_7 k h
  rcases List.mem_append.mp h with h | h
  · exact List.all_eq_true.mp gs_mch_8 k h
  rcases List.mem_append.mp h with h | h
  · exact List.all_eq_true.mp gs_mch_9 k h
  rcases List.mem_append.mp h with h | h
  · exact List.all_eq_true.mp gs_mch_10 k h
  rcases List.mem_append.mp h with h | h
  · exact List.all_eq_true.mp gs_mch_11 k h
  rcases List.mem_append.mp h with h | h
  · exact List.all_eq_true.mp gs_mch_12 k h
  rcases List.mem_append.mp h with h | h
  · exact List.all_eq_true.mp gs_mch_13 k h
  rcases List.mem_append.mp h with h | h
  · exact List.all_eq_true.mp gs_mch_14 k h
  rcases List.mem_append.mp h with h | h
  · exact List.all_eq_true.mp gs_mch_15 k h
  rcases List.mem_append.mp h with h | h
  · exact List.all_eq_true.mp gs_mch_16 k h
  rcases List.mem_append.mp h with h | h
  · exact List.all_eq_true.mp gs_mch_17 k h
  rcases List.mem_append.mp h with h | h
  · exact List.all_eq_true.mp gs_mch_18 k h
  rcases List.mem_append.mp h with h | h
  · exact List.all_eq_true.mp gs_mch_19 k h
  rcases List.mem_append.mp h with h | h
  · exact List.all_eq_true.mp gs_mch_20 k h
  rcases List.mem_append.mp h with h | h
  · exact List.all_eq_true.mp gs_mch_21 k h
  rcases List.mem_append.mp h with h | h
  · exact List.all_eq_true.mp gs_mch_22 k h
  rcases List.mem_append.mp h with h | h
  · exact List.all_eq_true.mp gs_mch_23 k h
  rcases List.mem_append.mp h with h | h
  · exact List.all_eq_true.mp gs_mch_24 k h
  rcases List.mem_append.mp h with h | h
  · exact List.all_eq_true.mp gs_mch_25 k h
  rcases List.mem_append.mp h with h | h
  · exact List.all_eq_true.mp gs_mch_26 k h
  exact List.all_eq_true.mp gs_mch_27 k h
theorem gs_mch_ok {k : Nat} (h : gs_pl k = true) : gs_mch k = true := by
  have h1 : ∀ k, k < 321 → gs_pl k = true → k ∈ gs_mcl := by decide +kernel
  exact gs_mcl_ok (h1 k (gs_pl_lt h) h)
/-- the three with tables or calls of such -/
def gs_mch2 (k : Nat) : Bool := Nat.beq (gs_tab k).2.2.2 (gs_y k).2.2.1 && decide ((gs_y k).1.cls = gs_own (gs_y k).2.2.2.2.1) && decide ((gs_y k).2.2.2.1 = gs_rt (gs_rb k)) && (gs_tab k).2.1.all (fun b => gs_cis true (gs_y k).2.2.2.2.1 (gs_y k).2.2.1 (gs_y k).2.1 (gs_rb k) (gs_ini k) b.1 b.2)
set_option maxRecDepth 1000000 in
theorem gs_mch2_118 : gs_mch2 118 = true := by decide +kernel
set_option maxRecDepth 1000000 in
theorem gs_mch2_318 : gs_mch2 318 = true := by decide +kernel
