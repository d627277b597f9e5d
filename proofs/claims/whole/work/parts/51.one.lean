/-! one, from. -/
section ONE
variable {X : gs_E} {d : Nat} {m : gs_M} {T n n0 n1 n2 turn g k : Nat} {x y w : Int32}
def f_nearI (m : gs_M) (turn a b : Nat) : Int32 := if f_dayG m turn a = -1 then b2 (gd m a 2 = gd m b 2) else if f_dayG m turn b = -1 then b2 (gd m a 2 = gd m b 2) else if 5 < f_abs (f_dayG m turn a - f_dayG m turn b) then 0 else 1
def f_gates (m : gs_M) (a b : Nat) (s : Int32) : Int32 := if s = 0 then 0 else if gd m a 4 = -1 then 1 else if gd m b 4 = -1 then 1 else if 3 < f_apart (f_px m a 0) (f_py m a 0) (f_px m b 0) (f_py m b 0) then 0 else 1
def f_oneA (m : gs_M) (turn a b : Nat) : Int32 := if gd m a 0 = -1 then 0 else if gd m b 0 = -1 then 0 else if gd m a 1 = gd m b 1 then f_gates m a b (f_nearI m turn a b) else 0
theorem x_one86 {a b F : Nat} {s : Int32} (h : gs_Sh m T) (hR : gs_RG m T n) (hV : ∀ g, g < n → gs_GV m n0 n1 n2 g) (hP : gs_RP m T n n1) (ha : a < n) (hb : b < n) (hn : n ≤ 12) (h1 : n1 ≤ 10) (hs : s = 0 ∨ s = 1) :
    gs_iter X (gs_exec X (d + 2)) gT_X8_areOne (F + 1) 86 [(0, .inr (.inr T)), (1, .inr (.inr (T + (27 + a)))), (2, .inr (.inr (T + (27 + b))))] [.inl s] m = gs_rI (f_gates m a b s) m := by
  have ha12 : a < 12 := by omega
  have hb12 : b < 12 := by omega
  have ra : m.2.1 (T + (27 + a)) 5 = gd m a 4 := hR a ha (5, 4) (by decide)
  have rb : m.2.1 (T + (27 + b)) 5 = gd m b 4 := hR b hb (5, 4) (by decide)
  unfold f_gates
  rw [eq_X8_areOne_86]
  rcases hs with rfl | rfl
  · rw [if_pos rfl, if_pos rfl]; rfl
  · rw [if_neg (show ¬ (1 : Int32) = 0 by decide), if_neg (show ¬ (1 : Int32) = 0 by decide), fl_tg h ha12, ra]
    by_cases ka : gd m a 4 = -1
    · rw [if_pos ka, if_pos ka]; rfl
    · rw [if_neg ka, if_neg ka, fl_tg h hb12, rb]
      by_cases kb : gd m b 4 = -1
      · rw [if_pos kb, if_pos kb]; rfl
      · rw [if_neg kb, if_neg kb]
        have p1 := x_placeX (X := X) (d := d) h hR (hV a ha) hP ha hn h1 (show 0 < 4 by decide)
        have p2 := x_placeY (X := X) (d := d) h hR (hV a ha) hP ha hn h1 (show 0 < 4 by decide)
        have p3 := x_placeX (X := X) (d := d) h hR (hV b hb) hP hb hn h1 (show 0 < 4 by decide)
        have p4 := x_placeY (X := X) (d := d) h hR (hV b hb) hP hb hn h1 (show 0 < 4 by decide)
        rw [if_neg ka] at p1 p2
        rw [if_neg kb] at p3 p4
        have z : (Int32.ofNat 0) = (0 : Int32) := rfl
        rw [z] at p1 p2 p3 p4
        rw [fl_t0 h, p1, gs_bI_s, fl_t0 h, p2, gs_bI_s, fl_t0 h, p3, gs_bI_s, fl_t0 h, p4, gs_bI_s, x_apart (f_px_in (hV a ha) hP ka (by decide) h1) (f_px_in (hV b hb) hP kb (by decide) h1), gs_bI_s]
        split <;> rfl
theorem r_one114 {a b F : Nat} {s : Int32} (h : gs_Sh m T) (hV : ∀ g, g < n → gs_GV m n0 n1 n2 g) (ha : a < n) (hb : b < n) (hn : n ≤ 12) (h1 : n1 ≤ 10) (hs : s = 0 ∨ s = 1) :
    gs_iter X (gs_exec X (d + 3)) gT_X12_isOne (F + 1) 114 [(0, .inr (.inr 116)), (1, .inl (Int32.ofNat a)), (2, .inl (Int32.ofNat b))] [.inl s] m = gs_rI (f_gates m a b s) m := by
  have ha12 : a < 12 := by omega
  have hb12 : b < 12 := by omega
  have ea := f_gate (hV a ha) h1
  have eb := f_gate (hV b hb) h1
  unfold f_gates
  rw [eq_X12_isOne_114]
  rcases hs with rfl | rfl
  · rw [if_pos rfl, if_pos rfl]; rfl
  · rw [if_neg (show ¬ (1 : Int32) = 0 by decide), if_neg (show ¬ (1 : Int32) = 0 by decide), fl_116 h, r_hasGate h ha12, gs_bI_s, b2_if]
    by_cases ka : gd m a 4 = -1
    · rw [if_neg (fun q => q (ea.mpr ka)), if_pos ka]; rfl
    · rw [if_pos (fun q => ka (ea.mp q)), if_neg ka, fl_116 h, r_hasGate h hb12, gs_bI_s, b2_if]
      by_cases kb : gd m b 4 = -1
      · rw [if_neg (fun q => q (eb.mpr kb)), if_pos kb]; rfl
      · rw [if_pos (fun q => kb (eb.mp q)), if_neg kb]
        have p1 := r_placeX (X := X) (d := d) (r := 0) h (hV a ha) ha12 h1 ka
        have p2 := r_placeY (X := X) (d := d) (r := 0) h (hV a ha) ha12 h1 ka
        have p3 := r_placeX (X := X) (d := d) (r := 0) h (hV b hb) hb12 h1 kb
        have p4 := r_placeY (X := X) (d := d) (r := 0) h (hV b hb) hb12 h1 kb
        have z : (Int32.ofNat 0) = (0 : Int32) := rfl
        rw [z] at p1 p2 p3 p4
        rw [fl_116 h, p1, gs_bI_s, fl_116 h, p2, gs_bI_s, fl_116 h, p3, gs_bI_s, fl_116 h, p4, gs_bI_s, r_apart, gs_bI_s]
        split <;> rfl
theorem x_areOne {a b : Nat} (hX : gs_Fu X) (hG : gs_Ga m T n n0 n1 n2 turn) (hP : gs_RP m T n n1) (ha : a < n) (hb : b < n) :
    gs_exec X (d + 4) 103 [.inr (.inr T), .inr (.inr (T + (27 + a))), .inr (.inr (T + (27 + b)))] m = gs_rI (f_oneA m turn a b) m := by
  obtain ⟨h, hn3, -, hn, h0, h1, h2, ht, -, bt, hR, hRR, hV⟩ := hG
  have ha12 : a < 12 := by omega
  have hb12 : b < 12 := by omega
  have a0 : m.2.1 (T + (27 + a)) 0 = gd m a 0 := hR a ha (0, 0) (by decide)
  have b0 : m.2.1 (T + (27 + b)) 0 = gd m b 0 := hR b hb (0, 0) (by decide)
  have a1 : m.2.1 (T + (27 + a)) 1 = gd m a 1 := hR a ha (1, 1) (by decide)
  have b1 : m.2.1 (T + (27 + b)) 1 = gd m b 1 := hR b hb (1, 1) (by decide)
  have a3 : m.2.1 (T + (27 + a)) 3 = gd m a 2 := hR a ha (3, 2) (by decide)
  have b3 : m.2.1 (T + (27 + b)) 3 = gd m b 2 := hR b hb (3, 2) (by decide)
  obtain ⟨F, hF⟩ : ∃ z, X.1 = z + 1 := ⟨X.1 - 1, by unfold gs_Fu at hX; omega⟩
  unfold f_oneA
  rw [eq_X8_areOne, fl_tg h ha12, x_isRock h ha12, gs_bI_s, b2_if, a0]
  by_cases ka : gd m a 0 = -1
  · rw [if_pos ka, if_pos ka]; rfl
  · rw [if_neg ka, if_neg ka, fl_tg h hb12, x_isRock h hb12, gs_bI_s, b2_if, b0]
    by_cases kb : gd m b 0 = -1
    · rw [if_pos kb, if_pos kb]; rfl
    · rw [if_neg kb, if_neg kb, fl_tg h ha12, fl_tg h hb12, a1, b1]
      by_cases ky : gd m a 1 = gd m b 1
      · rw [if_pos ky, if_pos ky, fl_t0 h, x_dayOf (d := d) h hR (hV a ha) ha hn h0 ht bt, gs_bI_s, fl_t0 h, x_dayOf (d := d) h hR (hV b hb) hb hn h0 ht bt, gs_bI_s]
        have o0 := x_one86 (X := X) (d := d + 1) (F := F) (s := 0) h hR hV hP ha hb hn h1 (Or.inl rfl)
        have o1 := x_one86 (X := X) (d := d + 1) (F := F) (s := 1) h hR hV hP ha hb hn h1 (Or.inr rfl)
        simp only [fl_tg h ha12, fl_tg h hb12, a3, b3, hF, x_abs, gs_bI_s]
        rw [o0, o1]
        unfold f_nearI b2
        by_cases da : f_dayG m turn a = -1
        · rw [if_pos da, if_pos da, gs_if_rI]
          split <;> rfl
        · rw [if_neg da, if_neg da]
          by_cases db : f_dayG m turn b = -1
          · rw [if_pos db, if_pos db, gs_if_rI]
            split <;> rfl
          · rw [if_neg db, if_neg db, gs_if_rI]
            split <;> rfl
      · rw [if_neg ky, if_neg ky]; rfl
theorem f_rock (hV : gs_GV m n0 n1 n2 g) (h0 : n0 ≤ 8) : (gd m g 0 < 0) ↔ gd m g 0 = -1 := by
  rcases hV.1 with v | ⟨k, hk, ek⟩
  · rw [v]; decide
  · rw [ek]
    exact ⟨fun q => absurd q (gs_nneg (by omega)), fun q => absurd q (gs_neg1 (by omega))⟩
theorem f_dneg (hV : gs_GV m n0 n1 n2 g) : (f_dayG m turn g < 0) ↔ f_dayG m turn g = -1 := by
  by_cases hd : f_dayG m turn g = -1
  · rw [hd]; decide
  · obtain ⟨k, hk2, ek⟩ := f_dayG_k (yy := 0) (mo := 0) (rr := 0) hV hd
    rw [ek]
    exact ⟨fun q => absurd q (gs_nneg (by omega)), fun q => absurd q (gs_neg1 (by omega))⟩
theorem r_isOne {a b : Nat} (hX : gs_Fu X) (h : gs_Sh m T) (hV : ∀ g, g < n → gs_GV m n0 n1 n2 g) (hn : n ≤ 12) (h0 : n0 ≤ 8) (h1 : n1 ≤ 10) (ht : m.2.1 122 0 = Int32.ofNat turn) (bt : turn < 60) (ha : a < n) (hb : b < n) :
    gs_exec X (d + 4) 274 [.inr (.inr 116), .inl (Int32.ofNat a), .inl (Int32.ofNat b)] m = gs_rI (f_oneA m turn a b) m := by
  have ha12 : a < 12 := by omega
  have hb12 : b < 12 := by omega
  obtain ⟨F, hF⟩ : ∃ z, X.1 = z + 1 := ⟨X.1 - 1, by unfold gs_Fu at hX; omega⟩
  have ra := f_rock (hV a ha) h0
  have rb := f_rock (hV b hb) h0
  have da' := f_dneg (turn := turn) (hV a ha)
  have db' := f_dneg (turn := turn) (hV b hb)
  unfold f_oneA
  rw [eq_X12_isOne, fl_116 h, r_isRock h ha12, gs_bI_s, b2_if]
  by_cases ka : gd m a 0 = -1
  · rw [if_pos (ra.mpr ka), if_pos ka]; rfl
  · rw [if_neg (fun q => ka (ra.mp q)), if_neg ka, fl_116 h, r_isRock h hb12, gs_bI_s, b2_if]
    by_cases kb : gd m b 0 = -1
    · rw [if_pos (rb.mpr kb), if_pos kb]; rfl
    · rw [if_neg (fun q => kb (rb.mp q)), if_neg kb]
      have o0 := r_one114 (X := X) (d := d) (F := F) (s := 0) h hV ha hb hn h1 (Or.inl rfl)
      have o1 := r_one114 (X := X) (d := d) (F := F) (s := 1) h hV ha hb hn h1 (Or.inr rfl)
      simp only [fl_116 h, sh_116_26 h, gs_nn_s, r_gx h ha12 (c := 1) (cl := 1) rfl (by decide), r_gx h hb12 (c := 1) (cl := 1) rfl (by decide), r_gx h ha12 (c := 2) (cl := 2) rfl (by decide), r_gx h hb12 (c := 2) (cl := 2) rfl (by decide), r_dayOf hX h (hV a ha) ha12 h0 ht bt, r_dayOf hX h (hV b hb) hb12 h0 ht bt, gs_bI_s, hF, r_sizeOf, o0, o1]
      by_cases ky : gd m a 1 = gd m b 1
      · rw [if_pos ky, if_pos ky]
        unfold f_nearI b2
        by_cases da : f_dayG m turn a = -1
        · rw [if_pos (da'.mpr da), if_pos da, gs_if_rI]
          split <;> rfl
        · rw [if_neg (fun q => da (da'.mp q)), if_neg da]
          by_cases db : f_dayG m turn b = -1
          · rw [if_pos (db'.mpr db), if_pos db, gs_if_rI]
            split <;> rfl
          · rw [if_neg (fun q => db (db'.mp q)), if_neg db, gs_if_rI]
            split <;> rfl
      · rw [if_neg ky, if_neg ky]; rfl
end ONE
