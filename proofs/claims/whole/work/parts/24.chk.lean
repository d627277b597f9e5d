def gs_rbs : List Nat := [3, 0, 3, 0, 0, 0, 0, 0, 0, 0, 3, 3, 3, 0, 0, 2, 1, 3, 3, 1, 0, 0, 0, 3, 0, 3, 3, 0, 3, 3, 1, 2, 3, 0, 3, 3, 0, 0, 0, 0, 1, 3, 0, 3, 3, 0, 0, 0, 3, 3, 0, 0, 3, 3, 3, 3, 3, 3, 3, 0, 1, 0, 3, 3, 3, 1, 3, 3, 3, 1, 0, 3, 3, 2, 1, 2, 2, 2, 2, 0, 0, 0, 0, 1, 0, 2, 3, 3, 0, 0, 0, 0, 0, 0, 0, 0, 2, 2, 0, 0, 0, 0, 1, 1, 1, 3, 3, 3, 3, 3, 3, 3, 0, 3, 3, 0, 3, 0, 0, 0, 0, 0, 0, 0, 0, 0, 0, 0, 0, 2, 0, 0, 0, 0, 0, 0, 1, 0, 0, 0, 0, 2, 0, 2, 0, 0, 0, 2, 0, 0, 0, 0, 1, 0, 0, 0, 0, 1, 1, 1, 1, 1, 1, 1, 1, 1, 3, 0, 3, 3, 0, 3, 3, 0, 0, 1, 1, 0, 1, 0, 1, 1, 3, 3, 0, 1, 1, 1, 3, 3, 3, 0, 1, 1, 1, 1, 1, 0, 3, 1, 0, 1, 1, 1, 1, 1, 1, 1, 1, 1, 0, 0, 0, 0, 3, 0, 3, 1, 3, 1, 1, 1, 2, 1, 2, 2, 2, 0, 1, 1, 0, 2, 2, 2, 2, 0, 0, 1, 0, 1, 0, 0, 0, 0, 0, 0, 0, 0, 0, 0, 0, 1, 0, 0, 0, 0, 0, 0, 0, 0, 3, 3, 0, 0, 0, 0, 0, 0, 1, 3, 3, 0, 0, 0, 1, 0, 1, 3, 0, 0, 0, 0, 1, 0, 0, 0, 2, 0, 0, 0, 0, 0, 2, 0, 0, 2, 0, 0, 0, 0, 0, 0, 1, 0, 0, 0, 0, 0, 0, 0, 0, 2, 0, 2, 0, 2, 3, 3, 0, 1, 4]
def gs_rb (k : Nat) : Nat := gs_rbs.getD k 3
def gs_ini (k : Nat) : Bool := decide ((gs_y k).1.name = "<init>")
/-- all that a body's run asks of the tables -/
def gs_mch (k : Nat) : Bool := (gs_tab k).1.isEmpty && Nat.beq (gs_tab k).2.2.2 (gs_y k).2.2.1 && decide ((gs_y k).1.cls = gs_own (gs_y k).2.2.2.2.1) && decide ((gs_y k).2.2.2.1 = gs_rt (gs_rb k)) && (gs_tab k).2.1.all (fun b => gs_cis false (gs_y k).2.2.2.2.1 (gs_y k).2.2.1 (gs_y k).2.1 (gs_rb k) (gs_ini k) b.1 b.2)
set_option maxRecDepth 1000000 in
theorem gs_mch_0 : ([0, 1, 2, 3, 4, 5, 6, 7, 8, 9, 10, 11, 12, 13, 14] : List Nat).all gs_mch = true := by decide +kernel
set_option maxRecDepth 1000000 in
theorem gs_mch_1 : ([15, 16, 17, 18, 19, 20, 21, 22, 23, 24, 25, 26, 27, 28] : List Nat).all gs_mch = true := by decide +kernel
set_option maxRecDepth 1000000 in
theorem gs_mch_2 : ([29, 30, 31, 32, 33, 34, 35, 36] : List Nat).all gs_mch = true := by decide +kernel
set_option maxRecDepth 1000000 in
theorem gs_mch_3 : ([37, 38, 39, 40, 41, 42, 43, 44, 45, 46, 47, 48, 49, 50, 51, 52] : List Nat).all gs_mch = true := by decide +kernel
set_option maxRecDepth 1000000 in
theorem gs_mch_4 : ([53, 54, 55, 56, 57, 58, 59, 60, 61] : List Nat).all gs_mch = true := by decide +kernel
set_option maxRecDepth 1000000 in
theorem gs_mch_5 : ([62, 63, 64, 65, 66, 67, 68] : List Nat).all gs_mch = true := by decide +kernel
set_option maxRecDepth 1000000 in
theorem gs_mch_6 : ([69, 70, 71, 72, 73, 74, 75, 76, 77, 78, 79, 80, 81, 82, 83, 84] : List Nat).all gs_mch = true := by decide +kernel
set_option maxRecDepth 1000000 in
theorem gs_mch_7 : ([85, 86, 87, 88, 89, 90, 91, 92, 93, 94, 95, 96, 97, 98] : List Nat).all gs_mch = true := by decide +kernel
set_option maxRecDepth 1000000 in
theorem gs_mch_8 : ([99, 100, 101, 102, 103, 104, 105, 106, 107, 108] : List Nat).all gs_mch = true := by decide +kernel
set_option maxRecDepth 1000000 in
theorem gs_mch_9 : ([109, 110, 111, 112, 113, 114, 115, 116, 117, 119, 120, 121, 122] : List Nat).all gs_mch = true := by decide +kernel
set_option maxRecDepth 1000000 in
theorem gs_mch_10 : ([123, 124, 125, 126, 127, 128, 129, 130, 131, 132, 133, 134, 135, 136, 137, 138, 139] : List Nat).all gs_mch = true := by decide +kernel
set_option maxRecDepth 1000000 in
theorem gs_mch_11 : ([140, 141, 142, 143, 144, 145, 146, 147, 148, 149, 150, 151, 152, 153] : List Nat).all gs_mch = true := by decide +kernel
set_option maxRecDepth 1000000 in
theorem gs_mch_12 : ([154, 155, 156, 157, 158, 159, 160, 161, 162, 163, 164, 165, 166, 167, 168, 169, 170, 171, 173, 174, 175, 176] : List Nat).all gs_mch = true := by decide +kernel
set_option maxRecDepth 1000000 in
theorem gs_mch_13 : ([177, 178, 179, 180, 181, 182, 183, 184, 185] : List Nat).all gs_mch = true := by decide +kernel
set_option maxRecDepth 1000000 in
theorem gs_mch_14 : ([186, 187, 188, 189, 190, 191, 192, 193, 194, 195, 196, 197] : List Nat).all gs_mch = true := by decide +kernel
set_option maxRecDepth 1000000 in
theorem gs_mch_15 : ([198, 199, 200, 201, 202, 203, 204] : List Nat).all gs_mch = true := by decide +kernel
set_option maxRecDepth 1000000 in
theorem gs_mch_16 : ([205, 206, 207, 208] : List Nat).all gs_mch = true := by decide +kernel
set_option maxRecDepth 1000000 in
theorem gs_mch_17 : ([209, 210, 211, 212, 213, 214, 215, 216, 217, 218] : List Nat).all gs_mch = true := by decide +kernel
set_option maxRecDepth 1000000 in
theorem gs_mch_18 : ([219, 220, 221, 222, 223, 224] : List Nat).all gs_mch = true := by decide +kernel
set_option maxRecDepth 1000000 in
theorem gs_mch_19 : ([225, 226, 227, 228, 229, 230, 231, 232, 233, 234, 235] : List Nat).all gs_mch = true := by decide +kernel
set_option maxRecDepth 1000000 in
theorem gs_mch_20 : ([236, 237, 238, 239, 240, 241, 242, 243, 244, 245, 246, 247, 248, 249] : List Nat).all gs_mch = true := by decide +kernel
set_option maxRecDepth 1000000 in
theorem gs_mch_21 : ([250, 251, 252, 253, 254, 255, 256, 257, 258, 259, 260, 261] : List Nat).all gs_mch = true := by decide +kernel
set_option maxRecDepth 1000000 in
theorem gs_mch_22 : ([262, 263, 264, 265, 266, 267, 268, 269] : List Nat).all gs_mch = true := by decide +kernel
set_option maxRecDepth 1000000 in
theorem gs_mch_23 : ([270, 271, 272, 273, 274, 275] : List Nat).all gs_mch = true := by decide +kernel
set_option maxRecDepth 1000000 in
theorem gs_mch_24 : ([276, 277, 278, 279, 280, 281, 282, 283, 284, 285, 286] : List Nat).all gs_mch = true := by decide +kernel
set_option maxRecDepth 1000000 in
theorem gs_mch_25 : ([287, 288, 289, 290, 291, 292, 293, 294, 295] : List Nat).all gs_mch = true := by decide +kernel
set_option maxRecDepth 1000000 in
theorem gs_mch_26 : ([296, 297, 298, 299, 300, 301, 302, 303, 304, 305] : List Nat).all gs_mch = true := by decide +kernel
set_option maxRecDepth 1000000 in
theorem gs_mch_27 : ([306, 307, 308, 309, 310, 311, 312, 313, 314, 315, 316, 317, 320] : List Nat).all gs_mch = true := by decide +kernel
/-- one instruction of a row, by its place -/
def gs_ca (o nL : Nat) (cc : ByteArray) (rb : Nat) (ini : Bool) : Nat → Nat → List gs_N → Bool
  | _, _, [] => true
  | 0, pc, i :: _ => gs_ci o nL cc rb ini pc i && gs_ch false o cc pc i && gs_ck3 o cc pc i
  | n + 1, _, i :: is => gs_ca o nL cc rb ini n i.2.1 is
theorem gs_ca_ok {o nL : Nat} {cc : ByteArray} {rb : Nat} {ini : Bool} : ∀ (L : List gs_N) (pc : Nat), (∀ n, n < L.length → gs_ca o nL cc rb ini n pc L = true) → gs_cis false o nL cc rb ini pc L = true
  | [], _, _ => rfl
  | i :: is, pc, h => by
    have h0 := h 0 (by simp)
    have h1 := gs_ca_ok is i.2.1 (fun n hn => h (n + 1) (by simp; omega))
    unfold gs_cis
    rw [h1, Bool.and_true]
    exact h0
def gs_bigL : List gs_N := ((gB_X12_init).getD 0 (0, [])).2
def gs_bigC (n : Nat) : Bool := gs_ca (gs_y 172).2.2.2.2.1 (gs_y 172).2.2.1 (gs_y 172).2.1 (gs_rb 172) (gs_ini 172) n 0 gs_bigL
set_option maxRecDepth 1000000 in
theorem gs_big_0 : (List.range 50).all (fun j => gs_bigC (0 + j)) = true := by decide +kernel
set_option maxRecDepth 1000000 in
theorem gs_big_1 : (List.range 50).all (fun j => gs_bigC (50 + j)) = true := by decide +kernel
set_option maxRecDepth 1000000 in
theorem gs_big_2 : (List.range 50).all (fun j => gs_bigC (100 + j)) = true := by decide +kernel
set_option maxRecDepth 1000000 in
theorem gs_big_3 : (List.range 50).all (fun j => gs_bigC (150 + j)) = true := by decide +kernel
set_option maxRecDepth 1000000 in
theorem gs_big_4 : (List.range 50).all (fun j => gs_bigC (200 + j)) = true := by decide +kernel
set_option maxRecDepth 1000000 in
theorem gs_big_5 : (List.range 50).all (fun j => gs_bigC (250 + j)) = true := by decide +kernel
set_option maxRecDepth 1000000 in
theorem gs_big_6 : (List.range 50).all (fun j => gs_bigC (300 + j)) = true := by decide +kernel
set_option maxRecDepth 1000000 in
theorem gs_big_7 : (List.range 50).all (fun j => gs_bigC (350 + j)) = true := by decide +kernel
set_option maxRecDepth 1000000 in
theorem gs_big_8 : (List.range 50).all (fun j => gs_bigC (400 + j)) = true := by decide +kernel
set_option maxRecDepth 1000000 in
theorem gs_big_9 : (List.range 50).all (fun j => gs_bigC (450 + j)) = true := by decide +kernel
set_option maxRecDepth 1000000 in
theorem gs_big_10 : (List.range 50).all (fun j => gs_bigC (500 + j)) = true := by decide +kernel
set_option maxRecDepth 1000000 in
theorem gs_big_11 : (List.range 50).all (fun j => gs_bigC (550 + j)) = true := by decide +kernel
set_option maxRecDepth 1000000 in
theorem gs_big_12 : (List.range 50).all (fun j => gs_bigC (600 + j)) = true := by decide +kernel
set_option maxRecDepth 1000000 in
theorem gs_big_13 : (List.range 50).all (fun j => gs_bigC (650 + j)) = true := by decide +kernel
set_option maxRecDepth 1000000 in
theorem gs_big_14 : (List.range 50).all (fun j => gs_bigC (700 + j)) = true := by decide +kernel
set_option maxRecDepth 1000000 in
theorem gs_big_15 : (List.range 50).all (fun j => gs_bigC (750 + j)) = true := by decide +kernel
set_option maxRecDepth 1000000 in
theorem gs_big_16 : (List.range 50).all (fun j => gs_bigC (800 + j)) = true := by decide +kernel
set_option maxRecDepth 1000000 in
theorem gs_big_17 : (List.range 23).all (fun j => gs_bigC (850 + j)) = true := by decide +kernel
theorem gs_big : ∀ n, n < 873 → gs_bigC n = true := by
  intro n hn
  rcases Nat.lt_or_ge n 50 with h | h
  · have h9 := List.all_eq_true.mp gs_big_0 (n - 0) (List.mem_range.mpr (by omega))
    rw [show 0 + (n - 0) = n by omega] at h9
    exact h9
  rcases Nat.lt_or_ge n 100 with h | h
  · have h9 := List.all_eq_true.mp gs_big_1 (n - 50) (List.mem_range.mpr (by omega))
    rw [show 50 + (n - 50) = n by omega] at h9
    exact h9
  rcases Nat.lt_or_ge n 150 with h | h
  · have h9 := List.all_eq_true.mp gs_big_2 (n - 100) (List.mem_range.mpr (by omega))
    rw [show 100 + (n - 100) = n by omega] at h9
    exact h9
  rcases Nat.lt_or_ge n 200 with h | h
  · have h9 := List.all_eq_true.mp gs_big_3 (n - 150) (List.mem_range.mpr (by omega))
    rw [show 150 + (n - 150) = n by omega] at h9
    exact h9
  rcases Nat.lt_or_ge n 250 with h | h
  · have h9 := List.all_eq_true.mp gs_big_4 (n - 200) (List.mem_range.mpr (by omega))
    rw [show 200 + (n - 200) = n by omega] at h9
    exact h9
  rcases Nat.lt_or_ge n 300 with h | h
  · have h9 := List.all_eq_true.mp gs_big_5 (n - 250) (List.mem_range.mpr (by omega))
    rw [show 250 + (n - 250) = n by omega] at h9
    exact h9
  rcases Nat.lt_or_ge n 350 with h | h
  · have h9 := List.all_eq_true.mp gs_big_6 (n - 300) (List.mem_range.mpr (by omega))
    rw [show 300 + (n - 300) = n by omega] at h9
    exact h9
  rcases Nat.lt_or_ge n 400 with h | h
  · have h9 := List.all_eq_true.mp gs_big_7 (n - 350) (List.mem_range.mpr (by omega))
    rw [show 350 + (n - 350) = n by omega] at h9
    exact h9
  rcases Nat.lt_or_ge n 450 with h | h
  · have h9 := List.all_eq_true.mp gs_big_8 (n - 400) (List.mem_range.mpr (by omega))
    rw [show 400 + (n - 400) = n by omega] at h9
    exact h9
  rcases Nat.lt_or_ge n 500 with h | h
  · have h9 := List.all_eq_true.mp gs_big_9 (n - 450) (List.mem_range.mpr (by omega))
    rw [show 450 + (n - 450) = n by omega] at h9
    exact h9
  rcases Nat.lt_or_ge n 550 with h | h
  · have h9 := List.all_eq_true.mp gs_big_10 (n - 500) (List.mem_range.mpr (by omega))
    rw [show 500 + (n - 500) = n by omega] at h9
    exact h9
  rcases Nat.lt_or_ge n 600 with h | h
  · have h9 := List.all_eq_true.mp gs_big_11 (n - 550) (List.mem_range.mpr (by omega))
    rw [show 550 + (n - 550) = n by omega] at h9
    exact h9
  rcases Nat.lt_or_ge n 650 with h | h
  · have h9 := List.all_eq_true.mp gs_big_12 (n - 600) (List.mem_range.mpr (by omega))
    rw [show 600 + (n - 600) = n by omega] at h9
    exact h9
  rcases Nat.lt_or_ge n 700 with h | h
  · have h9 := List.all_eq_true.mp gs_big_13 (n - 650) (List.mem_range.mpr (by omega))
    rw [show 650 + (n - 650) = n by omega] at h9
    exact h9
  rcases Nat.lt_or_ge n 750 with h | h
  · have h9 := List.all_eq_true.mp gs_big_14 (n - 700) (List.mem_range.mpr (by omega))
    rw [show 700 + (n - 700) = n by omega] at h9
    exact h9
  rcases Nat.lt_or_ge n 800 with h | h
  · have h9 := List.all_eq_true.mp gs_big_15 (n - 750) (List.mem_range.mpr (by omega))
    rw [show 750 + (n - 750) = n by omega] at h9
    exact h9
  rcases Nat.lt_or_ge n 850 with h | h
  · have h9 := List.all_eq_true.mp gs_big_16 (n - 800) (List.mem_range.mpr (by omega))
    rw [show 800 + (n - 800) = n by omega] at h9
    exact h9
  rcases Nat.lt_or_ge n 873 with h | h
  · have h9 := List.all_eq_true.mp gs_big_17 (n - 850) (List.mem_range.mpr (by omega))
    rw [show 850 + (n - 850) = n by omega] at h9
    exact h9
  omega
