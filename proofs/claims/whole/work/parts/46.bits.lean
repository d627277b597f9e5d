/-! Bits counted; years; mend. -/
def f_bc (a0 : Int32) : Int32 := ((((((((a0 - (((a0.toUInt32 >>> ((1 : Int32).toUInt32 &&& Int32.toUInt32 31)).toInt32) &&& (1431655765 : Int32))) &&& (858993459 : Int32)) + ((((a0 - (((a0.toUInt32 >>> ((1 : Int32).toUInt32 &&& Int32.toUInt32 31)).toInt32) &&& (1431655765 : Int32))).toUInt32 >>> ((2 : Int32).toUInt32 &&& Int32.toUInt32 31)).toInt32) &&& (858993459 : Int32))) + (((((a0 - (((a0.toUInt32 >>> ((1 : Int32).toUInt32 &&& Int32.toUInt32 31)).toInt32) &&& (1431655765 : Int32))) &&& (858993459 : Int32)) + ((((a0 - (((a0.toUInt32 >>> ((1 : Int32).toUInt32 &&& Int32.toUInt32 31)).toInt32) &&& (1431655765 : Int32))).toUInt32 >>> ((2 : Int32).toUInt32 &&& Int32.toUInt32 31)).toInt32) &&& (858993459 : Int32))).toUInt32 >>> ((4 : Int32).toUInt32 &&& Int32.toUInt32 31)).toInt32)) &&& (252645135 : Int32)) + (((((((a0 - (((a0.toUInt32 >>> ((1 : Int32).toUInt32 &&& Int32.toUInt32 31)).toInt32) &&& (1431655765 : Int32))) &&& (858993459 : Int32)) + ((((a0 - (((a0.toUInt32 >>> ((1 : Int32).toUInt32 &&& Int32.toUInt32 31)).toInt32) &&& (1431655765 : Int32))).toUInt32 >>> ((2 : Int32).toUInt32 &&& Int32.toUInt32 31)).toInt32) &&& (858993459 : Int32))) + (((((a0 - (((a0.toUInt32 >>> ((1 : Int32).toUInt32 &&& Int32.toUInt32 31)).toInt32) &&& (1431655765 : Int32))) &&& (858993459 : Int32)) + ((((a0 - (((a0.toUInt32 >>> ((1 : Int32).toUInt32 &&& Int32.toUInt32 31)).toInt32) &&& (1431655765 : Int32))).toUInt32 >>> ((2 : Int32).toUInt32 &&& Int32.toUInt32 31)).toInt32) &&& (858993459 : Int32))).toUInt32 >>> ((4 : Int32).toUInt32 &&& Int32.toUInt32 31)).toInt32)) &&& (252645135 : Int32)).toUInt32 >>> ((8 : Int32).toUInt32 &&& Int32.toUInt32 31)).toInt32)) + ((((((((a0 - (((a0.toUInt32 >>> ((1 : Int32).toUInt32 &&& Int32.toUInt32 31)).toInt32) &&& (1431655765 : Int32))) &&& (858993459 : Int32)) + ((((a0 - (((a0.toUInt32 >>> ((1 : Int32).toUInt32 &&& Int32.toUInt32 31)).toInt32) &&& (1431655765 : Int32))).toUInt32 >>> ((2 : Int32).toUInt32 &&& Int32.toUInt32 31)).toInt32) &&& (858993459 : Int32))) + (((((a0 - (((a0.toUInt32 >>> ((1 : Int32).toUInt32 &&& Int32.toUInt32 31)).toInt32) &&& (1431655765 : Int32))) &&& (858993459 : Int32)) + ((((a0 - (((a0.toUInt32 >>> ((1 : Int32).toUInt32 &&& Int32.toUInt32 31)).toInt32) &&& (1431655765 : Int32))).toUInt32 >>> ((2 : Int32).toUInt32 &&& Int32.toUInt32 31)).toInt32) &&& (858993459 : Int32))).toUInt32 >>> ((4 : Int32).toUInt32 &&& Int32.toUInt32 31)).toInt32)) &&& (252645135 : Int32)) + (((((((a0 - (((a0.toUInt32 >>> ((1 : Int32).toUInt32 &&& Int32.toUInt32 31)).toInt32) &&& (1431655765 : Int32))) &&& (858993459 : Int32)) + ((((a0 - (((a0.toUInt32 >>> ((1 : Int32).toUInt32 &&& Int32.toUInt32 31)).toInt32) &&& (1431655765 : Int32))).toUInt32 >>> ((2 : Int32).toUInt32 &&& Int32.toUInt32 31)).toInt32) &&& (858993459 : Int32))) + (((((a0 - (((a0.toUInt32 >>> ((1 : Int32).toUInt32 &&& Int32.toUInt32 31)).toInt32) &&& (1431655765 : Int32))) &&& (858993459 : Int32)) + ((((a0 - (((a0.toUInt32 >>> ((1 : Int32).toUInt32 &&& Int32.toUInt32 31)).toInt32) &&& (1431655765 : Int32))).toUInt32 >>> ((2 : Int32).toUInt32 &&& Int32.toUInt32 31)).toInt32) &&& (858993459 : Int32))).toUInt32 >>> ((4 : Int32).toUInt32 &&& Int32.toUInt32 31)).toInt32)) &&& (252645135 : Int32)).toUInt32 >>> ((8 : Int32).toUInt32 &&& Int32.toUInt32 31)).toInt32)).toUInt32 >>> ((16 : Int32).toUInt32 &&& Int32.toUInt32 31)).toInt32)) &&& (63 : Int32))
theorem x_bitCount {X : gs_E} {d : Nat} {m : gs_M} {x : Int32} : gs_exec X (d + 1) 308 [.inl x] m = gs_rI (f_bc x) m := by rw [eq_J6_bitCount_0f7a4]; rfl
def f_mo (x : Int32) : Nat → Nat → Int32 → Int32
  | 0, _, v => v
  | q + 1, k, v => f_mo x q (k + 1) (v + ((x >>> (Int32.ofNat k &&& 31)) &&& 1))
theorem r_many_loop {X : gs_E} {d : Nat} {m : gs_M} {x : Int32} : ∀ (q k F : Nat) (v : Int32), k + q = 16 → q < F → gs_iter X (gs_exec X d) gT_X12_manyOf F 4 [(0, .inl x), (1, .inl v), (2, .inl (Int32.ofNat k))] [] m = gs_rI (f_mo x q k v) m
  | 0, k, F, v, hk, hF => by
    obtain ⟨F, rfl⟩ : ∃ z, F = z + 1 := ⟨F - 1, by omega⟩
    rw [eq_X12_manyOf_4, if_neg (by show ¬ _ < Int32.ofNat 16; rw [gs_nlt (by omega) (by omega)]; omega)]
    rfl
  | q + 1, k, F, v, hk, hF => by
    obtain ⟨F, rfl⟩ : ∃ z, F = z + 1 := ⟨F - 1, by omega⟩
    rw [eq_X12_manyOf_4, if_pos (by show _ < Int32.ofNat 16; rw [gs_nlt (by omega) (by omega)]; omega), gs_ns, r_many_loop q (k + 1) F _ (by omega) (by omega)]
    rfl
theorem r_manyOf {X : gs_E} {d : Nat} {m : gs_M} {x : Int32} (hX : gs_Fu X) : gs_exec X (d + 1) 249 [.inl x] m = gs_rI (f_mo x 16 0 0) m := by
  rw [eq_X12_manyOf]
  exact r_many_loop 16 0 X.1 0 rfl (by unfold gs_Fu at hX; omega)
set_option maxRecDepth 1000000 in
theorem f_bc_0 : (List.range 256).all (fun j => decide (f_bc (Int32.ofNat (0 + j)) = f_mo (Int32.ofNat (0 + j)) 16 0 0)) = true := by decide +kernel
set_option maxRecDepth 1000000 in
theorem f_bc_1 : (List.range 256).all (fun j => decide (f_bc (Int32.ofNat (256 + j)) = f_mo (Int32.ofNat (256 + j)) 16 0 0)) = true := by decide +kernel
set_option maxRecDepth 1000000 in
theorem f_bc_2 : (List.range 256).all (fun j => decide (f_bc (Int32.ofNat (512 + j)) = f_mo (Int32.ofNat (512 + j)) 16 0 0)) = true := by decide +kernel
set_option maxRecDepth 1000000 in
theorem f_bc_3 : (List.range 256).all (fun j => decide (f_bc (Int32.ofNat (768 + j)) = f_mo (Int32.ofNat (768 + j)) 16 0 0)) = true := by decide +kernel
set_option maxRecDepth 1000000 in
theorem f_bc_4 : (List.range 256).all (fun j => decide (f_bc (Int32.ofNat (1024 + j)) = f_mo (Int32.ofNat (1024 + j)) 16 0 0)) = true := by decide +kernel
set_option maxRecDepth 1000000 in
theorem f_bc_5 : (List.range 256).all (fun j => decide (f_bc (Int32.ofNat (1280 + j)) = f_mo (Int32.ofNat (1280 + j)) 16 0 0)) = true := by decide +kernel
set_option maxRecDepth 1000000 in
theorem f_bc_6 : (List.range 256).all (fun j => decide (f_bc (Int32.ofNat (1536 + j)) = f_mo (Int32.ofNat (1536 + j)) 16 0 0)) = true := by decide +kernel
set_option maxRecDepth 1000000 in
theorem f_bc_7 : (List.range 256).all (fun j => decide (f_bc (Int32.ofNat (1792 + j)) = f_mo (Int32.ofNat (1792 + j)) 16 0 0)) = true := by decide +kernel
set_option maxRecDepth 1000000 in
theorem f_bc_8 : (List.range 256).all (fun j => decide (f_bc (Int32.ofNat (2048 + j)) = f_mo (Int32.ofNat (2048 + j)) 16 0 0)) = true := by decide +kernel
set_option maxRecDepth 1000000 in
theorem f_bc_9 : (List.range 256).all (fun j => decide (f_bc (Int32.ofNat (2304 + j)) = f_mo (Int32.ofNat (2304 + j)) 16 0 0)) = true := by decide +kernel
set_option maxRecDepth 1000000 in
theorem f_bc_10 : (List.range 256).all (fun j => decide (f_bc (Int32.ofNat (2560 + j)) = f_mo (Int32.ofNat (2560 + j)) 16 0 0)) = true := by decide +kernel
set_option maxRecDepth 1000000 in
theorem f_bc_11 : (List.range 256).all (fun j => decide (f_bc (Int32.ofNat (2816 + j)) = f_mo (Int32.ofNat (2816 + j)) 16 0 0)) = true := by decide +kernel
set_option maxRecDepth 1000000 in
theorem f_bc_12 : (List.range 256).all (fun j => decide (f_bc (Int32.ofNat (3072 + j)) = f_mo (Int32.ofNat (3072 + j)) 16 0 0)) = true := by decide +kernel
set_option maxRecDepth 1000000 in
theorem f_bc_13 : (List.range 256).all (fun j => decide (f_bc (Int32.ofNat (3328 + j)) = f_mo (Int32.ofNat (3328 + j)) 16 0 0)) = true := by decide +kernel
set_option maxRecDepth 1000000 in
theorem f_bc_14 : (List.range 256).all (fun j => decide (f_bc (Int32.ofNat (3584 + j)) = f_mo (Int32.ofNat (3584 + j)) 16 0 0)) = true := by decide +kernel
set_option maxRecDepth 1000000 in
theorem f_bc_15 : (List.range 256).all (fun j => decide (f_bc (Int32.ofNat (3840 + j)) = f_mo (Int32.ofNat (3840 + j)) 16 0 0)) = true := by decide +kernel
theorem f_bc_mo : ∀ n, n < 4096 → f_bc (Int32.ofNat n) = f_mo (Int32.ofNat n) 16 0 0 := by
  intro n hn
  rcases Nat.lt_or_ge n 256 with h | h
  · have h9 := of_decide_eq_true (List.all_eq_true.mp f_bc_0 (n - 0) (List.mem_range.mpr (by omega)))
    rw [show 0 + (n - 0) = n by omega] at h9
    exact h9
  rcases Nat.lt_or_ge n 512 with h | h
  · have h9 := of_decide_eq_true (List.all_eq_true.mp f_bc_1 (n - 256) (List.mem_range.mpr (by omega)))
    rw [show 256 + (n - 256) = n by omega] at h9
    exact h9
  rcases Nat.lt_or_ge n 768 with h | h
  · have h9 := of_decide_eq_true (List.all_eq_true.mp f_bc_2 (n - 512) (List.mem_range.mpr (by omega)))
    rw [show 512 + (n - 512) = n by omega] at h9
    exact h9
  rcases Nat.lt_or_ge n 1024 with h | h
  · have h9 := of_decide_eq_true (List.all_eq_true.mp f_bc_3 (n - 768) (List.mem_range.mpr (by omega)))
    rw [show 768 + (n - 768) = n by omega] at h9
    exact h9
  rcases Nat.lt_or_ge n 1280 with h | h
  · have h9 := of_decide_eq_true (List.all_eq_true.mp f_bc_4 (n - 1024) (List.mem_range.mpr (by omega)))
    rw [show 1024 + (n - 1024) = n by omega] at h9
    exact h9
  rcases Nat.lt_or_ge n 1536 with h | h
  · have h9 := of_decide_eq_true (List.all_eq_true.mp f_bc_5 (n - 1280) (List.mem_range.mpr (by omega)))
    rw [show 1280 + (n - 1280) = n by omega] at h9
    exact h9
  rcases Nat.lt_or_ge n 1792 with h | h
  · have h9 := of_decide_eq_true (List.all_eq_true.mp f_bc_6 (n - 1536) (List.mem_range.mpr (by omega)))
    rw [show 1536 + (n - 1536) = n by omega] at h9
    exact h9
  rcases Nat.lt_or_ge n 2048 with h | h
  · have h9 := of_decide_eq_true (List.all_eq_true.mp f_bc_7 (n - 1792) (List.mem_range.mpr (by omega)))
    rw [show 1792 + (n - 1792) = n by omega] at h9
    exact h9
  rcases Nat.lt_or_ge n 2304 with h | h
  · have h9 := of_decide_eq_true (List.all_eq_true.mp f_bc_8 (n - 2048) (List.mem_range.mpr (by omega)))
    rw [show 2048 + (n - 2048) = n by omega] at h9
    exact h9
  rcases Nat.lt_or_ge n 2560 with h | h
  · have h9 := of_decide_eq_true (List.all_eq_true.mp f_bc_9 (n - 2304) (List.mem_range.mpr (by omega)))
    rw [show 2304 + (n - 2304) = n by omega] at h9
    exact h9
  rcases Nat.lt_or_ge n 2816 with h | h
  · have h9 := of_decide_eq_true (List.all_eq_true.mp f_bc_10 (n - 2560) (List.mem_range.mpr (by omega)))
    rw [show 2560 + (n - 2560) = n by omega] at h9
    exact h9
  rcases Nat.lt_or_ge n 3072 with h | h
  · have h9 := of_decide_eq_true (List.all_eq_true.mp f_bc_11 (n - 2816) (List.mem_range.mpr (by omega)))
    rw [show 2816 + (n - 2816) = n by omega] at h9
    exact h9
  rcases Nat.lt_or_ge n 3328 with h | h
  · have h9 := of_decide_eq_true (List.all_eq_true.mp f_bc_12 (n - 3072) (List.mem_range.mpr (by omega)))
    rw [show 3072 + (n - 3072) = n by omega] at h9
    exact h9
  rcases Nat.lt_or_ge n 3584 with h | h
  · have h9 := of_decide_eq_true (List.all_eq_true.mp f_bc_13 (n - 3328) (List.mem_range.mpr (by omega)))
    rw [show 3328 + (n - 3328) = n by omega] at h9
    exact h9
  rcases Nat.lt_or_ge n 3840 with h | h
  · have h9 := of_decide_eq_true (List.all_eq_true.mp f_bc_14 (n - 3584) (List.mem_range.mpr (by omega)))
    rw [show 3584 + (n - 3584) = n by omega] at h9
    exact h9
  rcases Nat.lt_or_ge n 4096 with h | h
  · have h9 := of_decide_eq_true (List.all_eq_true.mp f_bc_15 (n - 3840) (List.mem_range.mpr (by omega)))
    rw [show 3840 + (n - 3840) = n by omega] at h9
    exact h9
  omega
