/-! The lines of guests and rocks. -/
section GU
variable {X : gs_E} {d d' T S TR L : Nat} {by_ : Nat → Nat} {m0 r0 mx mr : gs_M} {A B : Nat → Nat → Int32} {c1 c2 E : Nat → Int32} {c v p q n0 n1 n2 n3 n5 n6 n7 n8 : Nat} {Q : gs_M → gs_M → Prop}
theorem gRl_guest {ga gb : Nat → Int32} {i y mo ro : Nat} (hga : ∀ i, i < 16 → ga i = clr i) (hgb : ∀ i, i < 16 → gb i = pln i) (h0 : i < n0) (h1 : y < 2000) (h2 : 1 ≤ mo) (h3 : mo ≤ 12) (h4 : ro < 60) : gRl (upf (upf (upf (upf (upf ga 0 (Int32.ofNat i)) 1 (Int32.ofNat y)) 2 (Int32.ofNat y)) 3 (Int32.ofNat mo)) 4 (Int32.ofNat ro)) (upf (upf (upf (upf (upf gb 0 (Int32.ofNat i)) 1 (Int32.ofNat y)) 13 (Int32.ofNat y)) 2 (Int32.ofNat mo)) 3 (Int32.ofNat ro)) n0 n1 n2 := by
  refine ⟨fun x hx => ?_, ⟨?_, ?_⟩, Or.inr ⟨i, h0, rfl⟩, ⟨y, h1, rfl⟩, ⟨y, h1, rfl⟩, ⟨mo, h3, rfl, fun _ => h2⟩, ⟨ro, h4, rfl⟩, Or.inl (hgb 4 (by decide)), ⟨0, by decide, hgb 5 (by decide)⟩, ⟨0, by decide, hgb 6 (by decide)⟩, ⟨0, by decide, hgb 7 (by decide)⟩, ⟨0, by decide, hgb 8 (by decide)⟩, ⟨0, by decide, hgb 9 (by decide)⟩, ⟨0, by decide, hgb 10 (by decide)⟩, ⟨9, by decide, by decide, hgb 11 (by decide)⟩, Or.inl (hgb 12 (by decide))⟩
  · simp only [gs_cm, List.mem_cons, List.not_mem_nil, or_false] at hx
    rcases hx with h | h | h | h | h | h | h | h | h | h | h | h | h | h <;> subst h
    · rfl
    · rfl
    · rfl
    · rfl
    · rfl
    · exact (hga 5 (by decide)).trans (hgb 4 (by decide)).symm
    · exact (hga 6 (by decide)).trans (hgb 5 (by decide)).symm
    · exact (hga 7 (by decide)).trans (hgb 6 (by decide)).symm
    · exact (hga 10 (by decide)).trans (hgb 7 (by decide)).symm
    · exact (hga 11 (by decide)).trans (hgb 8 (by decide)).symm
    · exact (hga 12 (by decide)).trans (hgb 9 (by decide)).symm
    · exact (hga 13 (by decide)).trans (hgb 10 (by decide)).symm
    · exact (hga 14 (by decide)).trans (hgb 11 (by decide)).symm
    · exact (hga 15 (by decide)).trans (hgb 12 (by decide)).symm
  · show ga 8 = f_east (gb 6)
    rw [hga 8 (by decide), hgb 6 (by decide)]
    decide
  · show ga 9 = f_north (gb 6)
    rw [hga 9 (by decide), hgb 6 (by decide)]
    decide
theorem gRl_rock {ga gb : Nat → Int32} {y z : Nat} (hga : ∀ i, i < 16 → ga i = clr i) (hgb : ∀ i, i < 16 → gb i = pln i) (h1 : y < 2000) (h2 : z < 2000) : gRl (upf (upf ga 1 (Int32.ofNat y)) 2 (Int32.ofNat z)) (upf (upf gb 1 (Int32.ofNat y)) 13 (Int32.ofNat z)) n0 n1 n2 := by
  refine ⟨fun x hx => ?_, ⟨?_, ?_⟩, Or.inl (hgb 0 (by decide)), ⟨y, h1, rfl⟩, ⟨z, h2, rfl⟩, ⟨0, by decide, hgb 2 (by decide), fun a => absurd (hgb 0 (by decide)) a⟩, ⟨0, by decide, hgb 3 (by decide)⟩, Or.inl (hgb 4 (by decide)), ⟨0, by decide, hgb 5 (by decide)⟩, ⟨0, by decide, hgb 6 (by decide)⟩, ⟨0, by decide, hgb 7 (by decide)⟩, ⟨0, by decide, hgb 8 (by decide)⟩, ⟨0, by decide, hgb 9 (by decide)⟩, ⟨0, by decide, hgb 10 (by decide)⟩, ⟨9, by decide, by decide, hgb 11 (by decide)⟩, Or.inl (hgb 12 (by decide))⟩
  · simp only [gs_cm, List.mem_cons, List.not_mem_nil, or_false] at hx
    rcases hx with h | h | h | h | h | h | h | h | h | h | h | h | h | h <;> subst h
    · exact (hga 0 (by decide)).trans (hgb 0 (by decide)).symm
    · rfl
    · rfl
    · exact (hga 3 (by decide)).trans (hgb 2 (by decide)).symm
    · exact (hga 4 (by decide)).trans (hgb 3 (by decide)).symm
    · exact (hga 5 (by decide)).trans (hgb 4 (by decide)).symm
    · exact (hga 6 (by decide)).trans (hgb 5 (by decide)).symm
    · exact (hga 7 (by decide)).trans (hgb 6 (by decide)).symm
    · exact (hga 10 (by decide)).trans (hgb 7 (by decide)).symm
    · exact (hga 11 (by decide)).trans (hgb 8 (by decide)).symm
    · exact (hga 12 (by decide)).trans (hgb 9 (by decide)).symm
    · exact (hga 13 (by decide)).trans (hgb 10 (by decide)).symm
    · exact (hga 14 (by decide)).trans (hgb 11 (by decide)).symm
    · exact (hga 15 (by decide)).trans (hgb 12 (by decide)).symm
  · show ga 8 = f_east (gb 6)
    rw [hga 8 (by decide), hgb 6 (by decide)]
    decide
  · show ga 9 = f_north (gb 6)
    rw [hga 9 (by decide), hgb 6 (by decide)]
    decide

theorem j_guest (cx : gs_Cn X T S TR L by_ m0 r0) (st : gs_Sg S L m0 r0 A B c1 c2 E mx mr c v p q) (rl : gs_Rl A B c1 E n0 n1 n2 n3 n5 n6 n7 n8) (hc : c ≠ 34) (hn : n3 < 12) : gs_jQ S m0 r0 (gs_Le S L m0 r0 p (inc 3)) (gs_bU (gs_exec X (d + 5) 56 [.inr (.inr 1)] mx) gs_th (fun m5 => gs_fld m5 1 5 (gs_bU (gs_exec X (d + 5) 58 [.inr (.inr 1)] m5) gs_th (fun m6 => gs_rU m6)))) (gs_bU (gs_exec X (d' + 7) 182 [.inr (.inr 116)] mr) gs_th (fun m => gs_exec X (d' + 7) 199 [.inr (.inr 116), .inl (0 : Int32)] m)) := by
  have sx := st_sx cx st
  have pq := st_pq st hc
  have rl0 := rl
  obtain ⟨⟨⟨a0, a1, a2, a3, a5, a6, a7, a8⟩, ⟨b0, b1', b2', b3, b5, b6, b7, b8⟩, bd⟩, rR, rP, rB, rG, rC, rW, rK, rS, rU, u4, u43⟩ := rl
  have lb : Int32.ofNat n3 < (12 : Int32) ↔ n3 < 12 := gs_nlt (b := 12) (by omega) (by decide)
  have ax : mx.2.1 S 8 = Int32.ofNat n3 := (st.2.2.1 0 8).trans a3
  rw [eq_X5_startGuest]
  simp only [yf1 sx, y_11 sx, gs_nn_s, yt0 sx, ax]
  rw [eq_X5_begin, if_pos (lb.mpr hn)]
  simp only [yf1 sx, y_18 sx, gs_nn_s, yf3 sx, bU_bU]
  refine jadv cx st (fun mx1 mr1 k1 v1 p1 q1 le1 st1 => ?_)
  have sx1 := st_sx cx st1
  have sr1 := st_sr cx st1
  have ax1 : mx1.2.1 S 8 = Int32.ofNat n3 := (st1.2.2.1 0 8).trans a3
  have bx1 : mr1.2.1 120 3 = Int32.ofNat n3 := (st1.2.2.2.1 1 3).trans b3
  have eG : (192 : Int32) + (16 : Int32) * Int32.ofNat n3 = Int32.ofNat (192 + 16 * n3) := by
    show Int32.ofNat 192 + Int32.ofNat 16 * Int32.ofNat n3 = _
    rw [n_mul, n_add]
  obtain ⟨mr2, gb, ep, st2, hgb⟩ := r_plainG (d := d' + 5) cx hn (st_sB st1 13 (192 + 16 * n3) 16)
  obtain ⟨mx2, ga, ec, st3, hga⟩ := st_clear (d := d + 3) cx (st_sA st2 (27 + n3)) hn
  have sx3 := st_sx cx st3
  have sr3 := st_sr cx st3
  have G : ∀ i, i < 16 → ∀ (M : gs_M), gs_Sh M TR → ∀ K : Nat → gs_O, gs_ix M 132 13 (Int32.ofNat (192 + 16 * n3 + i)) K = K (192 + 16 * n3 + i) := fun i hi M hM K => gs_ixn hM.1 rfl (show 192 + 16 * n3 + i < 384 by omega)
  have G0 : ∀ (M : gs_M), gs_Sh M TR → ∀ K : Nat → gs_O, gs_ix M 132 13 (Int32.ofNat (192 + 16 * n3)) K = K (192 + 16 * n3) := fun M hM K => G 0 (by decide) M hM K
  have rs : ∀ i, rsVb (119 + 13) (192 + 16 * n3 + i) := fun i => by unfold rsVb upr; omega
  have hA' : ∀ a, a ≠ 27 + n3 → ∀ f, owA A (27 + n3) f a = A a := fun a h f => sA_n h
  have hB' : ∀ b, b ≠ 13 → ∀ f, owB B 13 (192 + 16 * n3) 16 f b = B b := fun b h f => sB_n h
  have hr49 : 27 + n3 < 49 := by omega
  have e1 : Int32.ofNat (192 + 16 * n3) + (1 : Int32) = Int32.ofNat (192 + 16 * n3 + 1) := n_add _ 1
  have e2 : Int32.ofNat (192 + 16 * n3) + (2 : Int32) = Int32.ofNat (192 + 16 * n3 + 2) := n_add _ 2
  have e3 : Int32.ofNat (192 + 16 * n3) + (3 : Int32) = Int32.ofNat (192 + 16 * n3 + 3) := n_add _ 3
  have e13 : Int32.ofNat (192 + 16 * n3) + (13 : Int32) = Int32.ofNat (192 + 16 * n3 + 13) := n_add _ 13
  have hX := cx.1
  rw [eq_X12_guestLine, fl_116 sr1, eq_X12_newGuest]
  simp only [gs_bU_s, yf1 sx1, y_11 sx1, gs_nn_s, yt0 sx1, y0_6 sx1, ax1, ygx sx1 hn, yg sx1 hn, ytg sx1 hn, ec, fl_116 sr1, sh_116_13 sr1, r_ix sr1 (a := 120) (k := 3) (len := 9) (j := (3 : Int32)) rfl rfl rfl (by decide), bx1, eG, gs_bI_s, ep]

  have bx3 : mr2.2.1 120 0 = Int32.ofNat n0 := (st3.2.2.2.1 1 0).trans ((congrFun (hB' 1 (by decide) gb) 0).trans b0)
  simp only [if_pos (show (0 : Int32) = 0 from rfl), yf1 sx3, y_11 sx3, gs_nn_s, yt0 sx3, y0_0 sx3, fl_116 sr3, sh_116_13 sr3, sh_116_18 sr3, r_ix sr3 (a := 120) (k := 0) (len := 9) (j := (0 : Int32)) rfl rfl rfl (by decide), bx3, ite_true, bU_bI]
  refine j_oldName (o := 1) (o' := 2) (b := 5) (off := 8) (n := n0) cx st3 (fun k => yt1 sx3) (y1_0 sx3) (fun k hk K => yar sx3 2 13 8 (by decide) (by omega)) ((congrFun (hA' 1 (by omega) ga) 3).trans a0) (by omega) (by decide) (fun k hk K => gs_ixn sr3.1 rfl (show 8 + k < 16 by omega)) (fun k hk => ?_) rfl rfl (fun m => kr0) (fun i mx4 mr4 k4 v4 p4 q4 li le4 st4 => ?_)
  · rw [hA' 2 (by omega), hB' 5 (by decide)]
    exact (rR k hk).1
  obtain ⟨-, f1, f2, ⟨fi, bfi, efi⟩, ⟨mi, bmi, emi⟩⟩ := rR i li
  have sx4 := st_sx cx st4
  have sr4 := st_sr cx st4
  have g4 := st_got st4
  have st5 : gs_Sg S L m0 r0 (owA A (27 + n3) (upf ga 0 (Int32.ofNat i))) (owB B 13 (192 + 16 * n3) 16 (upf gb 0 (Int32.ofNat i))) c1 c2 (upf E 11 (Int32.ofNat i)) (gs_sI mx4 (S + (27 + n3)) 0 (Int32.ofNat i)) (gs_sI mr4 132 (192 + 16 * n3) (Int32.ofNat i)) k4 v4 p4 q4 := st_wb (st_wg cx st4 hr49 0 (Int32.ofNat i)) 0 (Int32.ofNat i) (by decide) (rs 0)
  have x3 : (gs_sI mx4 (S + (27 + n3)) 0 (Int32.ofNat i)).2.1 (S + 3) i = Int32.ofNat fi := by
    rw [st5.2.2.1 3 i, hA' 3 (by omega), f1, efi]
  have x4 : (gs_sI mx4 (S + (27 + n3)) 0 (Int32.ofNat i)).2.1 (S + 4) i = Int32.ofNat mi := by
    rw [st5.2.2.1 4 i, hA' 4 (by omega), f2, emi]
  have x5 : (gs_sI mr4 132 (192 + 16 * n3) (Int32.ofNat i)).2.1 126 (8 + i) = Int32.ofNat mi := (st5.2.2.2.1 7 (8 + i)).trans (by rw [hB' 7 (by decide), emi])
  have e8 : (8 : Int32) + Int32.ofNat i = Int32.ofNat (8 + i) := n_add 8 i
  simp only [if_neg i10, ytg sx4 hn, gs_fld_sI, gs_sI22, gs_ix_sI, yf1 sx4, y_11 sx4, gs_nn_s, yt0 sx4, y0_0 sx4, yt1 sx4, y1_1 sx4, y1_2 sx4, gs_sIe, yar sx4 3 13 8 (by decide) (show i < 8 by omega), yar sx4 4 13 8 (by decide) (show i < 8 by omega), x3, x4, fl_116 sr4, sh_116_26 sr4, g4, G0 mr4 sr4, sh_116_20 sr4, e8, gs_ixn sr4.1 (show gs_ok 126 13 153 = true from rfl) (show 8 + i < 16 by omega), x5, bU_bI]
  refine j_number (lo := 1) (hi := mi) cx st5 rfl rfl (by decide) (by omega) (fun m => kr0) (fun w6 mx6 mr6 k6 v6 p6 q6 l6 h6 le6 st6 => ?_)
  have sx6 := st_sx cx st6
  have sr6 := st_sr cx st6
  have g6 := st_got st6
  have ey : Int32.ofNat fi + Int32.ofNat w6 - (1 : Int32) = Int32.ofNat (fi + w6 - 1) := by
    rw [n_add]
    exact n_sb (a := 1) (by omega)
  have x6 : mr6.2.1 125 (8 + i) = Int32.ofNat fi := (st6.2.2.2.1 6 (8 + i)).trans (by rw [hB' 6 (by decide), efi])
  have st7 := st_wb (st_wb (st_wg cx (st_wg cx st6 hr49 1 (Int32.ofNat (fi + w6 - 1))) hr49 2 (Int32.ofNat (fi + w6 - 1))) 1 (Int32.ofNat (fi + w6 - 1)) (by decide) (rs 1)) 13 (Int32.ofNat (fi + w6 - 1)) (by decide) (rs 13)
  simp only [if_neg i10, ytg sx6 hn, gs_fld_sI, gs_sI22, gs_ix_sI, yf1 sx6, gs_nn_s, gs_sIe, fl_116 sr6, sh_116_26 sr6, sh_116_19 sr6, e1, e13, gs_ixn sr6.1 (show gs_ok 125 13 153 = true from rfl) (show 8 + i < 16 by omega), x6, g6, ey, G 1 (by decide) mr6 sr6, G 13 (by decide) mr6 sr6, bU_bI]
  refine j_number (lo := 1) (hi := 12) cx st7 rfl rfl (by decide) (by decide) (fun m => kr0) (fun w8 mx8 mr8 k8 v8 p8 q8 l8 h8 le8 st8 => ?_)
  have sx8 := st_sx cx st8
  have sr8 := st_sr cx st8
  have g8 := st_got st8
  have st9 := st_wb (st_wg cx st8 hr49 3 (Int32.ofNat w8)) 2 (Int32.ofNat w8) (by decide) (rs 2)
  simp only [if_neg i10, ytg sx8 hn, gs_fld_sI, yf1 sx8, gs_nn_s, fl_116 sr8, sh_116_26 sr8, e2, g8, G 2 (by decide) mr8 sr8, bU_bI]
  refine j_number (lo := 0) (hi := 59) cx st9 rfl rfl (by decide) (by decide) (fun m => kr0) (fun wa mxa mra ka va pa qa la ha lea sta => ?_)
  have sxa := st_sx cx sta
  have sra := st_sr cx sta
  have ga' := st_got sta
  have stb := st_wb (st_wg cx sta hr49 4 (Int32.ofNat wa)) 3 (Int32.ofNat wa) (by decide) (rs 3)
  have srb := st_sr cx stb
  have sxb := st_sx cx stb
  have axb : (gs_sI mxa (S + (27 + n3)) 4 (Int32.ofNat wa)).2.1 S 8 = Int32.ofNat n3 := (stb.2.2.1 0 8).trans ((congrFun (sA_n (by omega)) 8).trans a3)
  have gw : gs_exec X (d' + 6) 200 [.inr (.inr 116)] (gs_sI mra 132 (192 + 16 * n3 + 3) (Int32.ofNat wa)) = gs_rI (gwd ka) (gs_sI mra 132 (192 + 16 * n3 + 3) (Int32.ofNat wa)) := r_guestWord srb stb.2.2.2.2.2.2.2
  simp only [if_neg i10, ytg sxa hn, gs_bU_s, gs_fld_sI, gs_sI22, yf1 sxa, gs_nn_s, fl_116 sra, sh_116_26 sra, e3, ga', G 3 (by decide) mra sra, gw, gs_bI_s]
  rw [eq_X5_readDetails]
  simp only [gs_fld_sI, gs_sI22, gs_ix_sI, yf1 sxa, y_11 sxa, yt0 sxa, y0_6 sxa, gs_nn_s, axb, ygx sxa hn, yg sxa hn]
  exact jQ_U (j_det cx rl0 hn 8 0 X.1 X.1 _ _ _ _ _ _ _ _ _ (by decide) (by decide) (by unfold gs_Fu at hX; omega) (by unfold gs_Fu at hX; omega) (by omega) (fun j hj => (upf_n hj).trans ((upf_n hj).trans ((upf_n hj).trans (upf_n hj)))) stb (gRl_guest hga hgb li (by omega) (by omega) (by omega) (by omega)))
theorem j_rock (cx : gs_Cn X T S TR L by_ m0 r0) (st : gs_Sg S L m0 r0 A B c1 c2 E mx mr c v p q) (rl : gs_Rl A B c1 E n0 n1 n2 n3 n5 n6 n7 n8) (hc : c ≠ 34) (hn : n3 < 12) : gs_jQ S m0 r0 (gs_Le S L m0 r0 p (inc 3)) (gs_bU (gs_exec X (d + 5) 57 [.inr (.inr 1)] mx) gs_th (fun m5 => gs_fld m5 1 5 (gs_bU (gs_exec X (d + 5) 58 [.inr (.inr 1)] m5) gs_th (fun m6 => gs_rU m6)))) (gs_bU (gs_exec X (d' + 7) 182 [.inr (.inr 116)] mr) gs_th (fun m => gs_exec X (d' + 7) 199 [.inr (.inr 116), .inl (1 : Int32)] m)) := by
  have sx := st_sx cx st
  have pq := st_pq st hc
  have rl0 := rl
  obtain ⟨⟨⟨a0, a1, a2, a3, a5, a6, a7, a8⟩, ⟨b0, b1', b2', b3, b5, b6, b7, b8⟩, bd⟩, rR, rP, rB, rG, rC, rW, rK, rS, rU, u4, u43⟩ := rl
  have lb : Int32.ofNat n3 < (12 : Int32) ↔ n3 < 12 := gs_nlt (b := 12) (by omega) (by decide)
  have ax : mx.2.1 S 8 = Int32.ofNat n3 := (st.2.2.1 0 8).trans a3
  rw [eq_X5_startRock]
  simp only [yf1 sx, y_11 sx, gs_nn_s, yt0 sx, ax]
  rw [eq_X5_begin, if_pos (lb.mpr hn)]
  simp only [yf1 sx, y_18 sx, gs_nn_s, yf3 sx, bU_bU]
  refine jadv cx st (fun mx1 mr1 k1 v1 p1 q1 le1 st1 => ?_)
  have sx1 := st_sx cx st1
  have sr1 := st_sr cx st1
  have ax1 : mx1.2.1 S 8 = Int32.ofNat n3 := (st1.2.2.1 0 8).trans a3
  have bx1 : mr1.2.1 120 3 = Int32.ofNat n3 := (st1.2.2.2.1 1 3).trans b3
  have eG : (192 : Int32) + (16 : Int32) * Int32.ofNat n3 = Int32.ofNat (192 + 16 * n3) := by
    show Int32.ofNat 192 + Int32.ofNat 16 * Int32.ofNat n3 = _
    rw [n_mul, n_add]
  obtain ⟨mr2, gb, ep, st2, hgb⟩ := r_plainG (d := d' + 5) cx hn (st_sB st1 13 (192 + 16 * n3) 16)
  obtain ⟨mx2, ga, ec, st3, hga⟩ := st_clear (d := d + 3) cx (st_sA st2 (27 + n3)) hn
  have sx3 := st_sx cx st3
  have sr3 := st_sr cx st3
  have G : ∀ i, i < 16 → ∀ (M : gs_M), gs_Sh M TR → ∀ K : Nat → gs_O, gs_ix M 132 13 (Int32.ofNat (192 + 16 * n3 + i)) K = K (192 + 16 * n3 + i) := fun i hi M hM K => gs_ixn hM.1 rfl (show 192 + 16 * n3 + i < 384 by omega)
  have G0 : ∀ (M : gs_M), gs_Sh M TR → ∀ K : Nat → gs_O, gs_ix M 132 13 (Int32.ofNat (192 + 16 * n3)) K = K (192 + 16 * n3) := fun M hM K => G 0 (by decide) M hM K
  have rs : ∀ i, rsVb (119 + 13) (192 + 16 * n3 + i) := fun i => by unfold rsVb upr; omega
  have hA' : ∀ a, a ≠ 27 + n3 → ∀ f, owA A (27 + n3) f a = A a := fun a h f => sA_n h
  have hB' : ∀ b, b ≠ 13 → ∀ f, owB B 13 (192 + 16 * n3) 16 f b = B b := fun b h f => sB_n h
  have hr49 : 27 + n3 < 49 := by omega
  have e1 : Int32.ofNat (192 + 16 * n3) + (1 : Int32) = Int32.ofNat (192 + 16 * n3 + 1) := n_add _ 1
  have e2 : Int32.ofNat (192 + 16 * n3) + (2 : Int32) = Int32.ofNat (192 + 16 * n3 + 2) := n_add _ 2
  have e3 : Int32.ofNat (192 + 16 * n3) + (3 : Int32) = Int32.ofNat (192 + 16 * n3 + 3) := n_add _ 3
  have e13 : Int32.ofNat (192 + 16 * n3) + (13 : Int32) = Int32.ofNat (192 + 16 * n3 + 13) := n_add _ 13
  have hX := cx.1
  rw [eq_X12_guestLine, fl_116 sr1, eq_X12_newGuest]
  simp only [gs_bU_s, yf1 sx1, y_11 sx1, gs_nn_s, yt0 sx1, y0_6 sx1, ax1, ygx sx1 hn, yg sx1 hn, ytg sx1 hn, ec, fl_116 sr1, sh_116_13 sr1, r_ix sr1 (a := 120) (k := 3) (len := 9) (j := (3 : Int32)) rfl rfl rfl (by decide), bx1, eG, gs_bI_s, ep]

  simp only [if_neg i10, yf1 sx3, fl_116 sr3, bU_bI]
  refine j_number (lo := 0) (hi := 1999) cx st3 rfl rfl (by decide) (by decide) (fun m => kr0) (fun w4 mx4 mr4 k4 v4 p4 q4 l4 h4 le4 st4 => ?_)
  have sx4 := st_sx cx st4
  have sr4 := st_sr cx st4
  have g4 := st_got st4
  have st5 := st_wb (st_wg cx st4 hr49 1 (Int32.ofNat w4)) 1 (Int32.ofNat w4) (by decide) (rs 1)
  have g5 : (gs_sI mr4 132 (192 + 16 * n3 + 1) (Int32.ofNat w4)).2.1 116 11 = Int32.ofNat w4 := st_got st5
  simp only [if_neg i10, ytg sx4 hn, gs_fld_sI, yf1 sx4, gs_sIe, gs_nn_s, fl_116 sr4, sh_116_26 sr4, e1, g4, G 1 (by decide) mr4 sr4, g5, bU_bI]
  refine j_number (lo := w4) (hi := 1999) cx st5 rfl rfl (by omega) (by decide) (fun m => kr0) (fun wa mxa mra ka va pa qa la ha lea sta => ?_)
  have sxa := st_sx cx sta
  have sra := st_sr cx sta
  have ga' := st_got sta
  have stb := st_wb (st_wg cx sta hr49 2 (Int32.ofNat wa)) 13 (Int32.ofNat wa) (by decide) (rs 13)
  have srb := st_sr cx stb
  have axb : (gs_sI mxa (S + (27 + n3)) 2 (Int32.ofNat wa)).2.1 S 8 = Int32.ofNat n3 := (stb.2.2.1 0 8).trans ((congrFun (sA_n (by omega)) 8).trans a3)
  have gw : gs_exec X (d' + 6) 200 [.inr (.inr 116)] (gs_sI mra 132 (192 + 16 * n3 + 13) (Int32.ofNat wa)) = gs_rI (gwd ka) (gs_sI mra 132 (192 + 16 * n3 + 13) (Int32.ofNat wa)) := r_guestWord srb stb.2.2.2.2.2.2.2
  simp only [if_neg i10, ytg sxa hn, gs_bU_s, gs_fld_sI, gs_sI22, yf1 sxa, gs_nn_s, fl_116 sra, sh_116_26 sra, e13, ga', G 13 (by decide) mra sra, gw, gs_bI_s]
  rw [eq_X5_readDetails]
  simp only [gs_fld_sI, gs_sI22, gs_ix_sI, yf1 sxa, y_11 sxa, yt0 sxa, y0_6 sxa, gs_nn_s, axb, ygx sxa hn, yg sxa hn]
  exact jQ_U (j_det cx rl0 hn 8 0 X.1 X.1 _ _ _ _ _ _ _ _ _ (by decide) (by decide) (by unfold gs_Fu at hX; omega) (by unfold gs_Fu at hX; omega) (by omega) (fun j hj => (upf_n hj).trans (upf_n hj)) stb (gRl_rock hga hgb (by omega) (by omega)))
end GU
