/-! text, both sides together. -/
theorem rsVb_Q {x i : Nat} (h : rsVb x i) : rsQx x i := by
  unfold rsVb at h
  unfold rsQx
  rcases h with h | h | h | h | h | h
  · exact Or.inl ⟨h.1, by omega, by omega, by omega⟩
  · exact Or.inr (Or.inl h)
  · exact Or.inr (Or.inr (Or.inl h))
  · exact Or.inr (Or.inr (Or.inr (Or.inl h)))
  · exact Or.inr (Or.inr (Or.inr (Or.inr (Or.inl h))))
  · exact Or.inr (Or.inr (Or.inr (Or.inr (Or.inr h))))
theorem rsVf_Q {x i : Nat} (h : rsVf x i) : rsQx x i := by
  rcases h with h | h
  · exact Or.inl ⟨h.1, by omega, by omega, by omega⟩
  · exact rsVb_Q h
theorem rsAf_P {S x i : Nat} (h : rsAf S x i) : rsPx S x i := by
  unfold rsAf at h
  unfold rsPx
  omega
theorem rsA_34 {S : Nat} (hS : S = 18 ∨ S = 67) : ¬ rsAf S 3 4 := by
  unfold rsAf
  omega
theorem rsVb_n (i : Nat) (hi : i = 1 ∨ i = 4 ∨ i = 5) : ¬ rsVb 116 i := by
  unfold rsVb upr
  omega
theorem rsVf_1 : ¬ rsVf 116 1 := by
  unfold rsVf rsVb upr
  omega
theorem rsA_9 {S : Nat} (hS : S = 18 ∨ S = 67) (i : Nat) (hi : i = 9 ∨ i = 10) : ¬ rsA S 1 i := by
  unfold rsA
  omega
section TB
variable {X : gs_E} {d d' T S TR n z : Nat} {m mr : gs_M} {a : Int32}
theorem xP_n (hS : S = 18 ∨ S = 67) (x i : Nat) (hx : ¬ (x = 1 ∨ x = 3 ∨ (S ≤ x ∧ x < S + 49))) : (xP m S n).2.1 x i = m.2.1 x i := by
  unfold xP clM
  rw [gs_sIn (Or.inl (by omega)), gs_sIn (Or.inl (by omega)), gs_sIn (Or.inl (by omega)), gs_sIn (Or.inl (by omega)), gs_sIn (Or.inl (by omega)), gs_sIn (Or.inl (by omega)), gs_sIn (Or.inl (by omega)), gs_sIn (Or.inl (by omega)), gs_sIn (Or.inl (by omega)), gs_sIn (Or.inl (by omega)), gs_sIn (Or.inl (by omega)), gs_sIn (Or.inl (by omega)), gs_sIn (Or.inl (by omega)), gs_sIn (Or.inl (by omega)), gs_sIn (Or.inl (by omega)), gs_sIn (Or.inl (by omega)), gs_sIn (Or.inl (by omega)), gs_sIn (Or.inl (by omega))]
  show (gs_sI m 3 4 0).2.1 x i = _
  rw [gs_sIn (Or.inl (by omega))]
theorem xP_v (hS : S = 18 ∨ S = 67) : ((xP m S n).2.1 (S + 1) 3 = 0 ∧ (xP m S n).2.1 (S + 5) 3 = 0 ∧ (xP m S n).2.1 (S + 9) 3 = 0 ∧ (xP m S n).2.1 (S + 13) 3 = 0 ∧ (xP m S n).2.1 (S + 17) 3 = 0 ∧ (xP m S n).2.1 (S + 21) 3 = 0) ∧ ((xP m S n).2.1 (S + 0) 8 = 0 ∧ (xP m S n).2.1 (S + 0) 9 = 0 ∧ (xP m S n).2.1 (S + 0) 10 = 0 ∧ (xP m S n).2.1 (S + 0) 11 = 5 ∧ (xP m S n).2.1 (S + 0) 12 = 20 ∧ (xP m S n).2.1 (S + 0) 13 = 0) ∧ ((xP m S n).2.1 1 4 = 0 ∧ (xP m S n).2.1 1 7 = 0 ∧ (xP m S n).2.1 1 9 = 0 ∧ (xP m S n).2.1 1 10 = -1) ∧ ((xP m S n).2.1 3 2 = Int32.ofNat n ∧ (xP m S n).2.1 3 3 = 0 ∧ (xP m S n).2.1 3 4 = 0) := by
  rcases hS with e | e <;> subst e <;> exact ⟨⟨rfl, rfl, rfl, rfl, rfl, rfl⟩, ⟨rfl, rfl, rfl, rfl, rfl, rfl⟩, ⟨rfl, rfl, rfl, rfl⟩, rfl, rfl, rfl⟩
theorem xP_1 : (xP m S n).1 = m.1 := by
  unfold xP clM
  simp only [gs_sI1]
theorem xP_222 : (xP m S n).2.2.2 = m.2.2.2 := by
  unfold xP clM
  simp only [gs_sI22]
theorem x_preE (h : gs_Sh m T) (hS : S = 85 - T) (ea : a = Int32.ofNat n) (hn : n ≤ z) (hz : z ≤ 800) (e4 : m.2.1 3 4 = Int32.ofNat z) : ∃ m0, gs_exec X (d + 9) 118 [.inr (.inr 0), .inl a] m = gs_bI (gs_bU (gs_exec X (d + 6) 108 [.inr (.inr 3)] m0) gs_th (fun m9 => gs_iter X (gs_exec X (d + 7)) gT_X5_readLines X.1 37 [(0, .inr (.inr 1)), (2, .inl (Int32.ofNat 0))] [] m9)) (fun e m8 => cond (Nat.beq e 0) (gs_rI (-1 : Int32) m8) (none)) (tK X d) ∧ gs_Sx m0 T S ∧ (m0.1 = m.1 ∧ m0.2.2.2 = m.2.2.2 ∧ ∀ x i, ¬ (x = 1 ∨ x = 3 ∨ (S ≤ x ∧ x < S + 49)) → m0.2.1 x i = m.2.1 x i) ∧ (m0.2.1 (S + 1) 3 = 0 ∧ m0.2.1 (S + 5) 3 = 0 ∧ m0.2.1 (S + 9) 3 = 0 ∧ m0.2.1 (S + 13) 3 = 0 ∧ m0.2.1 (S + 17) 3 = 0 ∧ m0.2.1 (S + 21) 3 = 0) ∧ (m0.2.1 (S + 0) 8 = 0 ∧ m0.2.1 (S + 0) 9 = 0 ∧ m0.2.1 (S + 0) 10 = 0 ∧ m0.2.1 (S + 0) 11 = 5 ∧ m0.2.1 (S + 0) 12 = 20 ∧ m0.2.1 (S + 0) 13 = 0) ∧ (m0.2.1 1 4 = 0 ∧ m0.2.1 1 7 = 0 ∧ m0.2.1 1 9 = 0 ∧ m0.2.1 1 10 = -1) ∧ (m0.2.1 3 2 = Int32.ofNat n ∧ m0.2.1 3 3 = 0 ∧ m0.2.1 3 4 = 0) := by
  have sm : gs_Sx m T S := sx_of h hS
  have hSv := sx_S sm
  refine ⟨xP m S n, x_pre h hS ea hn hz e4, ?_, ⟨xP_1, xP_222, fun x i hx => xP_n hSv x i hx⟩, xP_v hSv⟩
  obtain ⟨⟨g1, g2, g3, g4, g5, g6⟩, g7, g8⟩ := sm
  have e2 : (xP m S n).2.2.2 = m.2.2.2 := xP_222
  have e1 : (xP m S n).1 = m.1 := xP_1
  generalize xP m S n = m0 at e1 e2
  refine ⟨⟨?_, g2, ?_, ?_, ?_, ?_⟩, g7, ?_⟩
  · rw [e1]; exact g1
  · rw [e2]; exact g3
  · rw [e2]; exact g4
  · rw [e2]; exact g5
  · rw [e2]; exact g6
  · rw [e2]; exact g8
/-- the reference, ready to read -/
theorem r_pre (hX : gs_Fu X) (h : gs_Sh mr TR) (ea : a = Int32.ofNat n) (hn : n ≤ z) (hz : z ≤ 800) (e1 : mr.2.1 116 1 = Int32.ofNat z) : ∃ r0, gs_exec X (d' + 10) 210 [.inr (.inr 116), .inl a] mr = gs_bU (gs_exec X (d' + 9) 182 [.inr (.inr 116)] r0) gs_th (fun m8 => gs_iter X (gs_exec X (d' + 9)) gT_X12_text X.1 55 [(0, .inr (.inr 116)), (2, .inl (Int32.ofNat 0))] [] m8) ∧ gs_Wx (fun x i => x = 120 ∨ x = 123 ∨ (x = 116 ∧ (i = 17 ∨ i = 43 ∨ i = 2 ∨ i = 6 ∨ i = 1 ∨ i = 4 ∨ i = 5 ∨ i = 7))) mr r0 ∧ ((∀ i, i < 9 → r0.2.1 120 i = 0) ∧ r0.2.1 123 0 = 0 ∧ r0.2.1 123 1 = 5 ∧ r0.2.1 123 2 = 20 ∧ r0.2.1 123 3 = 0 ∧ r0.2.1 116 17 = 0 ∧ r0.2.1 116 43 = 0) ∧ r0.2.1 116 6 = Int32.ofNat n ∧ r0.2.1 116 1 = 0 ∧ r0.2.1 116 4 = 0 ∧ r0.2.1 116 5 = -1 ∧ r0.2.1 116 7 = 0 := by
  have na : ¬ a < 0 := by rw [ea]; exact gs_nneg (by omega)
  have nz : ¬ Int32.ofNat z < a := by rw [ea, gs_nlt (by omega) (by omega)]; omega
  have h6 : gs_Sh (gs_sI (gs_sI (gs_sI (gs_sI (gs_sI (gs_sI mr 116 2 0) 116 6 a) 116 1 0) 116 4 0) 116 5 (-1)) 116 7 0) TR := h
  obtain ⟨r0, e, w, v⟩ := r_plain (X := X) (d := d' + 8) hX h6
  have e1' : (gs_sI mr 116 2 0).2.1 116 1 = Int32.ofNat z := by rw [gs_sIn (Or.inr (by decide))]; exact e1
  have fr : ∀ i, ¬ (i = 17 ∨ i = 43) → r0.2.1 116 i = (gs_sI (gs_sI (gs_sI (gs_sI (gs_sI (gs_sI mr 116 2 0) 116 6 a) 116 1 0) 116 4 0) 116 5 (-1)) 116 7 0).2.1 116 i := fun i hi => w.2.2 116 i (fun y => by omega)
  refine ⟨r0, ?_, ?_, v, ?_, ?_, ?_, ?_, ?_⟩
  · rw [eq_X12_text, fl_116 h]
    have hr0 := wc_sh h6 w
    simp only [if_neg na, gs_fld_sI, fl_116 h, e1', if_neg nz, e, gs_bU_s, fl_116 hr0]
    rfl
  · refine wx_trans (m' := gs_sI (gs_sI (gs_sI (gs_sI (gs_sI (gs_sI mr 116 2 0) 116 6 a) 116 1 0) 116 4 0) 116 5 (-1)) 116 7 0) ?_ (wx_mono w (fun x i hx => by omega))
    exact wx_sI (wx_sI (wx_sI (wx_sI (wx_sI (wx_sI (wx_refl mr) (Or.inr (Or.inr ⟨rfl, by omega⟩))) (Or.inr (Or.inr ⟨rfl, by omega⟩))) (Or.inr (Or.inr ⟨rfl, by omega⟩))) (Or.inr (Or.inr ⟨rfl, by omega⟩))) (Or.inr (Or.inr ⟨rfl, by omega⟩))) (Or.inr (Or.inr ⟨rfl, by omega⟩))
  · rw [fr 6 (by decide)]
    exact ea
  · rw [fr 1 (by decide)]
    rfl
  · rw [fr 4 (by decide)]
    rfl
  · rw [fr 5 (by decide)]
    rfl
  · rw [fr 7 (by decide)]
    rfl
/-- what the class's memory is after its reading -/
def gs_Xf (S : Nat) (m mx : gs_M) : Prop := mx.1 = m.1 ∧ mx.2.2.2 = m.2.2.2 ∧ (∀ x i, ¬ rsPx S x i → mx.2.1 x i = m.2.1 x i) ∧ mx.2.1 3 4 = 0
theorem xf_of {R : Nat → Nat → Prop} {m0 mx : gs_M} (h0 : m0.1 = m.1 ∧ m0.2.2.2 = m.2.2.2 ∧ ∀ x i, ¬ (x = 1 ∨ x = 3 ∨ (S ≤ x ∧ x < S + 49)) → m0.2.1 x i = m.2.1 x i) (h4 : m0.2.1 3 4 = 0) (hR : ∀ x i, R x i → rsPx S x i) (h34 : ¬ R 3 4) (hW : gs_Wx R m0 mx) : gs_Xf S m mx := by
  refine ⟨hW.1.trans h0.1, hW.2.1.trans h0.2.1, fun x i hx => ?_, ?_⟩
  · rw [hW.2.2 x i (fun y => hx (hR x i y))]
    exact h0.2.2 x i (fun y => hx (by unfold rsPx; omega))
  · rw [hW.2.2 3 4 h34]
    exact h4
theorem j_text (hX : gs_Fu X) (h : gs_Sh m T) (hS : S = 85 - T) (hr : gs_Sh mr TR) (ea : a = Int32.ofNat n) (hn : n ≤ z) (hT : gs_Tp m z) (e1 : mr.2.1 116 1 = Int32.ofNat z) (e117 : ∀ j, j < z → mr.2.1 117 j = m.2.1 117 j) (hG : gs_Lg m) (hD : gs_Dc mr) (hM : ∀ k, k < 9 → mr.2.1 121 k = Int32.ofNat (mst k)) :
    (∃ mx' mr', gs_exec X (d + 9) 118 [.inr (.inr 0), .inl a] m = gs_rI (-1) (gs_gb mx') ∧ gs_exec X (d' + 10) 210 [.inr (.inr 116), .inl a] mr = gs_rI (-1) mr' ∧ gs_Xf S m mx' ∧ gs_Wx rsQx mr mr' ∧ mr'.2.1 116 1 = 0 ∧ mx'.2.1 1 9 = mr'.2.1 116 4 ∧ mx'.2.1 1 10 = mr'.2.1 116 5) ∨
    (∃ (k : Nat) (mx' mr' M : gs_M) (A A0 B : Nat → Nat → Int32) (c1 E : Nat → Int32) (n0 n1 n2 n3 n5 n6 n7 n8 blur : Nat), gs_exec X (d + 9) 118 [.inr (.inr 0), .inl a] m = gs_rI (Int32.ofNat k) (gs_sI (gs_sI (gs_sI (gs_sI (gs_sR (gs_sR mx' 1 1 T) 0 3 S) 0 5 (Int32.ofNat n3)) 0 6 0) 0 7 1) 0 8 1) ∧ gs_exec X (d' + 10) 210 [.inr (.inr 116), .inl a] mr = gs_rI (Int32.ofNat k) M ∧ gs_Kept mr' M ∧ gs_Xf S m mx' ∧ gs_Wx rsQx mr mr' ∧ mr'.2.1 116 1 = 0 ∧ (mx'.2.1 1 9 = 0 ∧ mx'.2.1 1 10 = -1 ∧ mr'.2.1 116 4 = 0 ∧ mr'.2.1 116 5 = -1) ∧ (∀ a i, mx'.2.1 (S + a) i = A a i) ∧ (∀ a i, mr'.2.1 (119 + a) i = B a i) ∧ gs_Rl A0 B c1 E n0 n1 n2 n3 n5 n6 n7 n8 ∧ (B 4 3 = Int32.ofNat blur ∧ blur < 100) ∧ gs_BP A A0 B blur n5) := by
  obtain ⟨t1, t2, t3, t4⟩ := hT
  have hz : z ≤ 800 := t3
  obtain ⟨r0, er, wr, vr, g6, g1, g4, g5, g7⟩ := r_pre (X := X) (d' := d') hX hr ea hn hz e1
  obtain ⟨m0, ex, sm, h0, ⟨x1, x5, x9, x13, x17, x21⟩, ⟨y8, y9, y10, y11, y12, y13⟩, ⟨c4, c7, c9, c10⟩, x32, x33, x34⟩ := x_preE (X := X) (d := d) h hS ea hn hz t1
  have hSv := sx_S sm
  have hr0 := wc_sh hr wr
  have by_k : ∀ j, j < n → ∃ k, k < 256 ∧ m.2.1 117 j = Int32.ofNat k := fun j hj => (t4 j (by omega)).2
  have cx : gs_Cn X T S TR n (fun j => (m.2.1 117 j).toInt.toNat) m0 r0 := by
    refine ⟨hX, sm, hr0, ⟨by omega, fun j hj => ⟨?_, trivial, ?_⟩, x32, trivial⟩, ⟨by omega, fun j hj => ⟨trivial, ?_, ?_⟩, trivial, g6⟩, fun j hj => ?_, fun j hj => ?_, fun k hk => ?_⟩
    · obtain ⟨k, hk, ek⟩ := by_k j hj
      rw [h0.2.2 4 j (by omega), (t4 j (by omega)).1]
      show _ = sgn ((m.2.1 117 j).toInt.toNat)
      rw [ek, f_nat (k := k) rfl (by omega)]
    · obtain ⟨k, hk, ek⟩ := by_k j hj
      show (m.2.1 117 j).toInt.toNat < 256
      rw [ek, f_nat (k := k) rfl (by omega)]
      exact hk
    · obtain ⟨k, hk, ek⟩ := by_k j hj
      rw [wr.2.2 117 j (by omega), e117 j (by omega)]
      show _ = Int32.ofNat ((m.2.1 117 j).toInt.toNat)
      rw [ek, f_nat (k := k) rfl (by omega)]
    · obtain ⟨k, hk, ek⟩ := by_k j hj
      show (m.2.1 117 j).toInt.toNat < 256
      rw [ek, f_nat (k := k) rfl (by omega)]
      exact hk
    · rw [h0.2.2 5 j (by omega)]
      exact hG j hj
    · rw [wr.2.2 118 j (by omega)]
      exact hD j hj
    · rw [wr.2.2 121 k (by omega)]
      exact hM k hk
  obtain ⟨mx1, mr1, c, v, p', q', f1, f2, w1, w2, le, tk⟩ := j_adv (X := X) (d := d + 3) (d' := d' + 7) (q := 0) hX sm.1 hr0 cx.2.2.2.1 cx.2.2.2.2.1 cx.2.2.2.2.2.1 cx.2.2.2.2.2.2.1 (Nat.zero_le _) x33 g7
  have st : gs_Sg S n m0 r0 (fun a i => mx1.2.1 (S + a) i) (fun a i => mr1.2.1 (119 + a) i) (fun i => mx1.2.1 1 i) (fun i => mx1.2.1 2 i) (fun i => mr1.2.1 116 i) mx1 mr1 c v p' q' := by
    refine ⟨wx_mono w1 (fun x i hx => Or.inr (Or.inr (Or.inl hx))), wx_mono w2 (fun x i hx => ?_), fun _ _ => rfl, fun _ _ => rfl, fun _ => rfl, fun _ => rfl, fun _ _ => rfl, tk⟩
    unfold rsY at hx
    exact Or.inl ⟨hx.1, by omega⟩
  have fx : ∀ a i, mx1.2.1 (S + a) i = m0.2.1 (S + a) i := fun a i => w1.2.2 (S + a) i (fun y => by unfold rsX at y; omega)
  have f1' : ∀ i, mx1.2.1 1 i = m0.2.1 1 i := fun i => w1.2.2 1 i (fun y => by unfold rsX at y; omega)
  have fr : ∀ a i, mr1.2.1 (119 + a) i = r0.2.1 (119 + a) i := fun a i => w2.2.2 (119 + a) i (fun y => by unfold rsY at y; omega)
  have fe : ∀ i, ¬ (7 ≤ i ∧ i ≤ 10) → mr1.2.1 116 i = r0.2.1 116 i := fun i hi => w2.2.2 116 i (fun y => by unfold rsY at y; omega)
  have z0 : (0 : Int32) = Int32.ofNat 0 := rfl
  have rl : gs_Rl (fun a i => mx1.2.1 (S + a) i) (fun a i => mr1.2.1 (119 + a) i) (fun i => mx1.2.1 1 i) (fun i => mr1.2.1 116 i) 0 0 0 0 0 0 0 0 := by
    obtain ⟨v1, v2, v3, v4, v5, v6, v7⟩ := vr
    refine ⟨⟨⟨(fx 1 3).trans x1, (fx 5 3).trans x5, (fx 9 3).trans x9, (fx 0 8).trans y8, (fx 0 9).trans y9, (fx 13 3).trans x13, (fx 21 3).trans x21, (fx 17 3).trans x17⟩, ⟨(fr 1 0).trans (v1 0 (by decide)), (fr 1 1).trans (v1 1 (by decide)), (fr 1 2).trans (v1 2 (by decide)), (fr 1 3).trans (v1 3 (by decide)), (fr 1 5).trans (v1 5 (by decide)), (fr 1 6).trans (v1 6 (by decide)), (fr 1 7).trans (v1 7 (by decide)), (fr 1 8).trans (v1 8 (by decide))⟩, by decide, by decide, by decide, by decide, by decide, by decide, by decide, by decide⟩, fun k hk => by omega, fun k hk => by omega, fun k hk => by omega, fun k hk => by omega, fun k hk => by omega, fun k hk => by omega, fun k hk => by omega, ⟨fun k hk => by omega, fun _ => rfl, fun t ht => by omega⟩, ⟨⟨?_, 0, by decide, (fr 4 0).trans v2⟩, ⟨?_, 5, by decide, (fr 4 1).trans v3⟩, ⟨?_, 20, by decide, (fr 4 2).trans v4⟩, ⟨?_, 0, by decide, (fr 4 3).trans v5⟩, 0, by decide, (f1' 7).trans c7, (fe 17 (by decide)).trans v6⟩, (f1' 4).trans c4, (fe 43 (by decide)).trans v7⟩
    · exact ((fx 0 10).trans y10).trans ((fr 4 0).trans v2).symm
    · exact ((fx 0 11).trans y11).trans ((fr 4 1).trans v3).symm
    · exact ((fx 0 12).trans y12).trans ((fr 4 2).trans v4).symm
    · exact ((fx 0 13).trans y13).trans ((fr 4 3).trans v5).symm
  have jl := j_lines (X := X) (d := d) (d' := d') cx 900 X.1 X.1 0 _ _ _ _ _ 0 0 0 0 0 0 0 0 mx1 mr1 c v p' q' (by omega) (by unfold gs_Fu at hX; omega) (by unfold gs_Fu at hX; omega) (Nat.zero_le _) st rl
  have qr : ∀ {R : Nat → Nat → Prop} {M : gs_M}, (∀ x i, R x i → rsQx x i) → gs_Wx R r0 M → gs_Wx rsQx mr M := fun hR hW => wx_trans (wx_mono wr (fun x i hx => by unfold rsQx; omega)) (wx_mono hW hR)
  rw [ex, er, f1, f2, gs_bU_s, gs_bU_s]
  rcases jl with ⟨mx', mr', j1, j2, j3, j4, j5, j6⟩ | ⟨kk, mx', mr', A', A0, B', c1', c2', E', n0, n1, n2, n3, n5, n6, n7, n8, blur, c', v', p'', q'', j1, j2, s', rl', j3, j4⟩
  · refine Or.inl ⟨mx', mr', ?_, j2, xf_of h0 x34 (fun x i hx => rsAf_P hx) (rsA_34 hSv) j3, qr (fun x i hx => rsVf_Q hx) j4, ?_, j5, j6⟩
    · rw [j1]
      rfl
    · rw [j4.2.2 116 1 rsVf_1]
      exact g1
  · have sx' := st_sx cx s'
    have sr' := st_sr cx s'
    obtain ⟨M, ek, hk⟩ := r_keep (X := X) (d := d' + 7) hX sr'
    have n3e : mx'.2.1 S 8 = Int32.ofNat n3 := (s'.2.2.1 0 8).trans ((j4.1 0 8 (by omega)).trans rl'.1.1.2.2.2.1)
    refine Or.inr ⟨kk, mx', mr', M, A', A0, B', c1', E', n0, n1, n2, n3, n5, n6, n7, n8, blur, ?_, ?_, hk, xf_of h0 x34 (fun x i hx => rsAf_P (rsA_f hx)) (fun y => rsA_34 hSv (rsA_f y)) s'.1, qr (fun x i hx => rsVb_Q hx) s'.2.1, ?_, ⟨?_, ?_, ?_, ?_⟩, s'.2.2.1, s'.2.2.2.1, rl', j3, j4⟩
    · rw [j1]
      have hT1 := sx'.1
      have told : mx'.2.2.2 0 3 = some T := sh_told hT1
      have spare : mx'.2.2.2 1 1 = some S := y_11 sx'
      have bS : Nat.blt (gs_rk S) (gs_sR mx' 1 1 T).1.1 = true := by
        show Nat.blt (gs_rk S) mx'.1.1 = true
        rw [hT1.1]
        rcases hSv with e | e <;> rw [e] <;> rfl
      have bT : Nat.blt (gs_rk T) mx'.1.1 = true := by
        rw [hT1.1]
        rcases hT1.2.1 with e | e <;> rw [e] <;> rfl
      have f0 : ∀ (M : gs_M) (k : gs_O), M.1.1 = 153 → gs_fld M 0 10 k = k := fun M k hM => gs_fld0 hM
      have q3 : (gs_sR (gs_sR mx' 1 1 T) 0 3 S).2.2.2 0 3 = some S := rfl
      have fS : ∀ k : gs_O, gs_fld (gs_sR (gs_sR mx' 1 1 T) 0 3 S) S 7 k = k := fun k => yt0 sx'
      have n3' : (gs_sR (gs_sR mx' 1 1 T) 0 3 S).2.1 S 8 = Int32.ofNat n3 := n3e
      show gs_fld mx' 0 10 _ = _
      rw [f0 mx' _ hT1.1, sh_0_0 hT1, gs_nn_s, f0 mx' _ hT1.1, told, gs_nn_s, yf1 sx', eq_X5_giveFor, yf1 sx', spare, gs_nn_s, yf1 sx', bT, cond_true]
      show gs_fld (gs_sR mx' 1 1 T) 0 10 _ = _
      rw [f0 (gs_sR mx' 1 1 T) _ hT1.1, bS, cond_true]
      show gs_fld (gs_sR (gs_sR mx' 1 1 T) 0 3 S) 0 10 _ = _
      rw [f0 (gs_sR (gs_sR mx' 1 1 T) 0 3 S) _ hT1.1, q3, gs_nn_s, fS, n3', f0 (gs_sR (gs_sR mx' 1 1 T) 0 3 S) _ hT1.1]
      simp only [gs_fld_sI, f0 (gs_sR (gs_sR mx' 1 1 T) 0 3 S) _ hT1.1]
      rw [eq_X11_forgetReckoned]
      simp only [gs_fld_sI, f0 (gs_sR (gs_sR mx' 1 1 T) 0 3 S) _ hT1.1, gs_bt1, gs_bU_s]
    · rw [j2, ek, gs_bU_s]
    · rw [s'.2.1.2.2 116 1 (rsVb_n 1 (Or.inl rfl))]
      exact g1
    · rw [s'.1.2.2 1 9 (rsA_9 hSv 9 (Or.inl rfl))]
      exact c9
    · rw [s'.1.2.2 1 10 (rsA_9 hSv 10 (Or.inr rfl))]
      exact c10
    · rw [s'.2.1.2.2 116 4 (rsVb_n 4 (Or.inr (Or.inl rfl)))]
      exact g4
    · rw [s'.2.1.2.2 116 5 (rsVb_n 5 (Or.inr (Or.inr rfl)))]
      exact g5
end TB
