/-! The line of a cloud, from its begin. -/
section CL2
variable {X : gs_E} {d d' T S TR L : Nat} {by_ : Nat → Nat} {m0 r0 mx mr : gs_M} {A B : Nat → Nat → Int32} {c1 c2 E : Nat → Int32} {c v p q n0 n1 n2 n3 n5 n6 n7 n8 : Nat} {Q : gs_M → gs_M → Prop}
theorem j_cloud (cx : gs_Cn X T S TR L by_ m0 r0) (st : gs_Sg S L m0 r0 A B c1 c2 E mx mr c v p q) (rl : gs_Rl A B c1 E n0 n1 n2 n3 n5 n6 n7 n8) (hc : c ≠ 34) (hn : n5 < 10) : gs_jQ S m0 r0 (gs_Le S L m0 r0 p (inc 5)) (gs_exec X (d + 5) 62 [.inr (.inr 1)] mx) (gs_bU (gs_exec X (d' + 4) 182 [.inr (.inr 116)] mr) gs_th (fun m => gs_exec X (d' + 4) 205 [.inr (.inr 116)] m)) := by
  have sx := st_sx cx st
  have pq := st_pq st hc
  have rl0 := rl
  obtain ⟨⟨⟨a0, a1, a2, a3, a5, a6, a7, a8⟩, ⟨b0, b1', b2', b3, b5, b6, b7, b8⟩, bd⟩, rR, rP, rB, rG, rC, rW, rK, rS, rU, u4, u43⟩ := rl
  have lb : Int32.ofNat n5 < (10 : Int32) ↔ n5 < 10 := gs_nlt (b := 10) (by omega) (by decide)
  have ax : mx.2.1 S 9 = Int32.ofNat n5 := (st.2.2.1 0 9).trans a5
  have hX := cx.1
  obtain ⟨F, hF⟩ : ∃ F, X.1 = (F + 100 + 1) + 9 := ⟨X.1 - 110, by unfold gs_Fu at hX; omega⟩
  rw [eq_X5_readCloud]
  simp only [yf1 sx, y_11 sx, gs_nn_s, yt0 sx, ax]
  rw [eq_X5_begin, if_pos (lb.mpr hn)]
  simp only [yf1 sx, y_18 sx, gs_nn_s, yf3 sx, bU_bU]
  refine jadv cx st (fun mx1 mr1 k1 v1 p1 q1 le1 st1 => ?_)
  have sx1 := st_sx cx st1
  have sr1 := st_sr cx st1
  have ax1 : mx1.2.1 S 9 = Int32.ofNat n5 := (st1.2.2.1 0 9).trans a5
  have bx1 : mr1.2.1 120 5 = Int32.ofNat n5 := (st1.2.2.2.1 1 5).trans b5
  have eC : (90 : Int32) + (9 : Int32) * Int32.ofNat n5 = Int32.ofNat (90 + 9 * n5) := by
    show Int32.ofNat 90 + Int32.ofNat 9 * Int32.ofNat n5 = _
    rw [n_mul, n_add]
  obtain ⟨mr2, cb, ep, st2, hcb⟩ := r_cl15z (X := X) (d := d' + 3) cx hn 9 0 (F + 100 + 1) mr1 _ (by omega) (st_sB st1 14 (90 + 9 * n5) 9) (fun i hi => by omega)
  have st3 := st_sA st2 (39 + n5)
  have sr2 := st_sr cx st3
  have hr49 : 39 + n5 < 49 := by omega
  have C : ∀ i, i < 9 → ∀ (M : gs_M), gs_Sh M TR → ∀ K : Nat → gs_O, gs_ix M 133 13 (Int32.ofNat (90 + 9 * n5 + i)) K = K (90 + 9 * n5 + i) := fun i hi M hM K => gs_ixn hM.1 rfl (show 90 + 9 * n5 + i < 180 by omega)
  have C0 : ∀ (M : gs_M), gs_Sh M TR → ∀ K : Nat → gs_O, gs_ix M 133 13 (Int32.ofNat (90 + 9 * n5)) K = K (90 + 9 * n5) := fun M hM K => C 0 (by decide) M hM K
  have rs : ∀ i, rsVb (119 + 14) (90 + 9 * n5 + i) := fun i => by unfold rsVb upr; omega
  have e1 : Int32.ofNat (90 + 9 * n5) + (1 : Int32) = Int32.ofNat (90 + 9 * n5 + 1) := n_add _ 1
  have e2 : Int32.ofNat (90 + 9 * n5) + (2 : Int32) = Int32.ofNat (90 + 9 * n5 + 2) := n_add _ 2
  have e3 : Int32.ofNat (90 + 9 * n5) + (3 : Int32) = Int32.ofNat (90 + 9 * n5 + 3) := n_add _ 3
  have e4 : Int32.ofNat (90 + 9 * n5) + (4 : Int32) = Int32.ofNat (90 + 9 * n5 + 4) := n_add _ 4
  have e6 : Int32.ofNat (90 + 9 * n5) + (6 : Int32) = Int32.ofNat (90 + 9 * n5 + 6) := n_add _ 6
  have e21 : Int32.ofNat (90 + 9 * n5 + 2) + (1 : Int32) = Int32.ofNat (90 + 9 * n5 + 3) := n_add _ 1
  have e41 : Int32.ofNat (90 + 9 * n5 + 4) + (1 : Int32) = Int32.ofNat (90 + 9 * n5 + 5) := n_add _ 1
  rw [eq_X12_cloudLine]
  simp only [gs_bU_s, yf1 sx1, y_11 sx1, gs_nn_s, yt0 sx1, y0_7 sx1, ax1, ycx sx1 hn, yc sx1 hn, fl_116 sr1, sh_116_13 sr1, r_ix sr1 (a := 120) (k := 5) (len := 9) (j := (5 : Int32)) rfl rfl rfl (by decide), bx1, eC]
  have ep' : gs_iter X (gs_exec X (d' + 3)) gT_X12_cloudLine X.1 15 [(0, .inr (.inr 116)), (1, .inl (Int32.ofNat (90 + 9 * n5))), (2, .inl (0 : Int32))] [] mr1 = gs_iter X (gs_exec X (d' + 3)) gT_X12_cloudLine (F + 100 + 1) 15 [(0, .inr (.inr 116)), (1, .inl (Int32.ofNat (90 + 9 * n5))), (2, .inl (Int32.ofNat 9))] [] mr2 := by
    rw [hF]
    exact ep
  rw [ep', eq_X12_cloudLine_15, if_neg (by decide)]
  have st4 := st_wb st3 6 10 (by decide) (rs 6)
  simp only [gs_fld_sI, fl_116 sr2, sh_116_27 sr2, gs_nn_s, e6, C 6 (by decide) mr2 sr2]
  refine j_number (lo := 0) (hi := 119) cx st4 rfl rfl (by decide) (by decide) (fun m => kr0) (fun w5 mx5 mr5 k5 v5 p5 q5 l5 h5 le5 st5 => ?_)
  have sx5 := st_sx cx st5
  have sr5 := st_sr cx st5
  have g5 := st_got st5
  have st6 : gs_Sg S L m0 r0 (owA A (39 + n5) (upf (A (39 + n5)) 0 (Int32.ofNat w5))) (owB B 14 (90 + 9 * n5) 9 (upf (upf cb 6 10) 0 (Int32.ofNat w5))) c1 c2 (upf E 11 (Int32.ofNat w5)) (gs_sI mx5 (S + (39 + n5)) 0 (Int32.ofNat w5)) (gs_sI mr5 133 (90 + 9 * n5) (Int32.ofNat w5)) k5 v5 p5 q5 := st_wb (st_wg cx st5 hr49 0 (Int32.ofNat w5)) 0 (Int32.ofNat w5) (by decide) (rs 0)
  simp only [if_neg i10, ytc sx5 hn, gs_fld_sI, yf1 sx5, fl_116 sr5, sh_116_27 sr5, gs_nn_s, C0 mr5 sr5, g5]
  refine j_number (lo := 0) (hi := 59) cx st6 rfl rfl (by decide) (by decide) (fun m => kr0) (fun w7 mx7 mr7 k7 v7 p7 q7 l7 h7 le7 st7 => ?_)
  have sx7 := st_sx cx st7
  have sr7 := st_sr cx st7
  have g7 := st_got st7
  have st8 := st_wb (st_wg cx st7 hr49 1 (Int32.ofNat w7)) 1 (Int32.ofNat w7) (by decide) (rs 1)
  have sr8 := st_sr cx st8
  simp only [if_neg i10, ytc sx7 hn, gs_fld_sI, yf1 sx7, fl_116 sr7, sh_116_27 sr7, gs_nn_s, e1, C 1 (by decide) mr7 sr7, g7]
  rw [show F + 100 = (F + 99) + 1 from rfl, eq_X12_cloudLine_95, if_pos (by decide), gs_fld_sI, fl_116 sr7]
  refine j_takeK (k := 14) cx st8 (by decide) rfl rfl (fun mx9 mr9 k9 v9 p9 q9 le9 st9 => ?_)
  have sx9 := st_sx cx st9
  have sr9 := st_sr cx st9
  rw [if_pos rfl, show F + 99 = (F + 98) + 1 from rfl, eq_X12_cloudLine_140, fl_116 sr9, yf1 sx9]
  refine j_number (lo := 0) (hi := 2999) cx st9 rfl rfl (by decide) (by decide) (fun m => kr0) (fun wa mxa mra ka va pa qa la ha lea sta => ?_)
  have sxa := st_sx cx sta
  have sra := st_sr cx sta
  have ga := st_got sta
  have stb := st_wb (st_wg cx sta hr49 2 (Int32.ofNat wa)) 2 (Int32.ofNat wa) (by decide) (rs 2)
  simp only [if_neg i10, ytc sxa hn, gs_fld_sI, yf1 sxa, fl_116 sra, sh_116_27 sra, gs_nn_s, e2, e21, C 2 (by decide) mra sra, ga, if_pos (show (2 : Int32) = 2 from rfl), ite_true]
  refine j_number (lo := 1) (hi := 9999) cx stb rfl rfl (by decide) (by decide) (fun m => kr0) (fun wc mxc mrc kc vc pc qc lc hc' lec stc => ?_)
  have sxc := st_sx cx stc
  have src := st_sr cx stc
  have gc := st_got stc
  have std := st_wb (st_wg cx stc hr49 3 (Int32.ofNat wc)) 3 (Int32.ofNat wc) (by decide) (rs 3)
  simp only [if_neg i10, ytc sxc hn, gs_fld_sI, yf1 sxc, fl_116 src, sh_116_27 src, gs_nn_s, C 3 (by decide) mrc src, gc, show (2 : Int32) + 2 = 4 from rfl]
  rw [show F + 98 = (F + 97) + 1 from rfl, eq_X12_cloudLine_95, if_pos (by decide), gs_fld_sI, fl_116 src]
  refine j_takeK (k := 14) cx std (by decide) rfl rfl (fun mxe mre ke ve pe qe lee ste => ?_)
  have sxe := st_sx cx ste
  have sre := st_sr cx ste
  have xe2 : mxe.2.1 (S + (39 + n5)) 2 = Int32.ofNat wa := (ste.2.2.1 (39 + n5) 2).trans (sA_e.trans rfl)
  have re2 : mre.2.1 133 (90 + 9 * n5 + 2) = Int32.ofNat wa := (ste.2.2.2.1 14 (90 + 9 * n5 + 2)).trans ((sB_e (by decide)).trans rfl)
  simp only [if_neg (show ¬ (4 : Int32) = 2 by decide), fl_116 sre, sh_116_27 sre, gs_nn_s, e2, C 2 (by decide) mre sre, re2, ytc sxe hn, yf1 sxe, xe2, gs_ns]
  rw [show F + 97 = (F + 96) + 1 from rfl, eq_X12_cloudLine_140, fl_116 sre]
  refine j_number (lo := wa + 1) (hi := 2999) cx ste rfl rfl (by omega) (by decide) (fun m => kr0) (fun wf mxf mrf kf vf pf qf lf hf lef stf => ?_)
  have sxf := st_sx cx stf
  have srf := st_sr cx stf
  have gf := st_got stf
  have stg := st_wb (st_wg cx stf hr49 4 (Int32.ofNat wf)) 4 (Int32.ofNat wf) (by decide) (rs 4)
  have xf3 : (gs_sI mxf (S + (39 + n5)) 4 (Int32.ofNat wf)).2.1 (S + (39 + n5)) 3 = Int32.ofNat wc := (stg.2.2.1 (39 + n5) 3).trans (sA_e.trans rfl)
  have rf3 : (gs_sI mrf 133 (90 + 9 * n5 + 4) (Int32.ofNat wf)).2.1 133 (90 + 9 * n5 + 3) = Int32.ofNat wc := (stg.2.2.2.1 14 (90 + 9 * n5 + 3)).trans ((sB_e (by decide)).trans rfl)
  simp only [if_neg i10, if_neg (show ¬ (4 : Int32) = 2 by decide), ytc sxf hn, gs_fld_sI, gs_ix_sI, gs_sI22, yf1 sxf, fl_116 srf, sh_116_27 srf, gs_nn_s, e4, e41, e3, C 4 (by decide) mrf srf, C 3 (by decide) mrf srf, gf, xf3, rf3, gs_ns]
  refine j_number (lo := wc + 1) (hi := 9999) cx stg rfl rfl (by omega) (by decide) (fun m => kr0) (fun wh mxh mrh kh vh ph qh lh hh leh sth => ?_)
  have sxh := st_sx cx sth
  have srh := st_sr cx sth
  have gh := st_got sth
  have sti := st_wg cx (st_wg cx (st_wg cx (st_wb (st_wg cx sth hr49 5 (Int32.ofNat wh)) 5 (Int32.ofNat wh) (by decide) (rs 5)) hr49 6 10) hr49 7 0) hr49 8 0
  simp only [if_neg i10, ytc sxh hn, gs_fld_sI, fl_116 srh, sh_116_27 srh, gs_nn_s, C 5 (by decide) mrh srh, gh, show (4 : Int32) + 2 = 6 from rfl]
  rw [show F + 96 = (F + 95) + 1 from rfl, eq_X12_cloudLine_95, if_neg (by decide)]
  exact j_cll cx rl0 hn 2 0 0 X.1 (F + 95) _ _ _ _ _ _ _ _ _ (by decide) (by decide) (by decide) (by unfold gs_Fu at hX; omega) (by omega) (by omega) (fun j hj => (upf_n hj).trans ((upf_n hj).trans ((upf_n hj).trans ((upf_n hj).trans ((upf_n hj).trans (upf_n hj)))))) sti (cRl_start hcb (by omega) (by omega) (by omega) (by omega) (by omega) (by omega) (by omega))
end CL2
