/-! text: both sides, from the call on. -/
/-- where the class writes in text, where the reference does -/
def rsPx (S x i : Nat) : Prop := x = 1 ∨ x = 2 ∨ x = 3 ∨ (S ≤ x ∧ x < S + 49)
def rsQx (x i : Nat) : Prop := (x = 116 ∧ i ≠ 36 ∧ i ≠ 37 ∧ i ≠ 51) ∨ x = 120 ∨ x = 123 ∨ upr x i ∨ x = 142 ∨ x = 143
section TX
variable {X : gs_E} {d d' T S TR n z : Nat} {m mr : gs_M} {a : Int32}
theorem sx_of (h : gs_Sh m T) (hS : S = 85 - T) : gs_Sx m T S := ⟨h, hS, by rw [sh_spare h, hS]⟩
abbrev clM (m : gs_M) (S : Nat) : gs_M := gs_sI (gs_sI (gs_sI (gs_sI (gs_sI (gs_sI (gs_sI (gs_sI (gs_sI (gs_sI (gs_sI (gs_sI m (S + 1) 3 0) (S + 5) 3 0) (S + 9) 3 0) (S + 13) 3 0) (S + 17) 3 0) (S + 21) 3 0) S 8 0) S 9 0) S 10 0) S 11 5) S 12 20) S 13 0
theorem x_clearT (h : gs_Sx m T S) : gs_exec X (d + 1) 87 [.inr (.inr S)] m = gs_rU (clM m S) := by
  rw [eq_X8_clear]
  simp only [gs_fld_sI, gs_sI22, yt0 h, y0_0 h, y0_1 h, y0_2 h, y0_3 h, y0_4 h, y0_5 h, yt1 h, yt5 h, yt9 h, yt13 h, yt17 h, yt21 h, gs_nn_s]
/-- the class, ready to read -/
abbrev xP (m : gs_M) (S n : Nat) : gs_M := gs_sI (gs_sI (gs_sI (gs_sI (gs_sI (gs_sI (clM (gs_sI m 3 4 0) S) 1 4 0) 1 7 0) 1 9 0) 1 10 (-1)) 3 2 (Int32.ofNat n)) 3 3 0
/-- what the class does once a text is read without a fault -/
abbrev tK (X : gs_E) (d : Nat) : Int32 → gs_M → gs_O := fun x9 m8 => gs_fld m8 0 10 (gs_nn (m8.2.2.2 0 0) (fun q10 => gs_fld m8 0 10 (gs_nn (m8.2.2.2 0 3) (fun q11 => gs_fld m8 q10 5 (gs_bA (gs_exec X (d + 8) 320 [.inr (.inr q10), .inr (.inr q11)] m8) gs_nt (fun x13 m12 => gs_fld m12 0 10 (cond (Nat.blt (gs_rk x13) m12.1.1) (let m14 : gs_M := gs_sR m12 0 3 x13; gs_fld m14 0 10 (gs_nn (m14.2.2.2 0 3) (fun q15 => gs_fld m14 q15 7 (gs_fld m14 0 10 (let m16 : gs_M := gs_sI m14 0 5 (m14.2.1 q15 8); gs_fld m16 0 10 (let m17 : gs_M := gs_sI m16 0 6 (0 : Int32); gs_fld m17 0 10 (gs_bU (gs_exec X (d + 8) 166 [.inr (.inr 0)] m17) gs_nt (fun m18 => gs_rI x9 m18)))))))) none)))))))
theorem x_pre (h : gs_Sh m T) (hS : S = 85 - T) (ea : a = Int32.ofNat n) (hn : n ≤ z) (hz : z ≤ 800) (e4 : m.2.1 3 4 = Int32.ofNat z) : gs_exec X (d + 9) 118 [.inr (.inr 0), .inl a] m = gs_bI (gs_bU (gs_exec X (d + 6) 108 [.inr (.inr 3)] (xP m S n)) gs_th (fun m9 => gs_iter X (gs_exec X (d + 7)) gT_X5_readLines X.1 37 [(0, .inr (.inr 1)), (2, .inl (Int32.ofNat 0))] [] m9)) (fun e m8 => cond (Nat.beq e 0) (gs_rI (-1 : Int32) m8) (none)) (tK X d) := by
  have h5 : gs_Sh (gs_sI m 3 4 0) T := h
  have s0 : gs_Sx m T S := sx_of h hS
  have s1 : gs_Sx (gs_sI m 3 4 0) T S := sx_of h5 hS
  have hSv := sx_S s1
  have na : ¬ a < 0 := by rw [ea]; exact gs_nneg (by omega)
  have nz : ¬ Int32.ofNat z < a := by rw [ea, gs_nlt (by omega) (by omega)]; omega
  have l8 : (if (800 : Int32) < a then (800 : Int32) else a) = Int32.ofNat n := by
    rw [ea, if_neg (fun y => by have := (gs_nlt (a := 800) (by decide) (by omega)).mp y; omega)]
  have lm : (if (0 : Int32) < Int32.ofNat n then Int32.ofNat n else 0) = Int32.ofNat n := by
    by_cases y : 0 < n
    · have lz : (0 : Int32) < Int32.ofNat n := (gs_nlt (a := 0) (by decide) (by omega)).mpr y
      rw [if_pos lz]
    · have y0 : n = 0 := by omega
      rw [y0]
      decide
  rw [eq_X11_text, if_neg na]
  simp only [fl_0 h, sh_0_0 h, gs_nn_s, fl_1 h, sh_1_8 h, fl_3 h, e4, if_neg nz, gs_fld_sI, gs_sI22]
  rw [eq_X5_readLines]
  have r11 : (gs_sI m 3 4 0).2.2.2 1 1 = some S := s1.2.2
  simp only [fl_1 h5, yf1 s1, r11, gs_nn_s, yt0 s1, x_clearT (X := X) s1, gs_bU_s]
  simp only [gs_fld_sI, yf1 s0, gs_sI22, y_18 s0, gs_nn_s, yf3 s0]
  rw [eq_X9_start, x_min, gs_bI_s, l8, x_max, gs_bI_s, lm]
  simp only [gs_fld_sI, yf3 s0, bU_bU, gs_bU_s]
  rfl
end TX
