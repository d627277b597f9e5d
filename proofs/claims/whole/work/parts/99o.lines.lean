/-! Lines of reigns, gates, watches, books. -/
theorem i10 : ¬ (1 : Int32) = 0 := by decide
theorem kr0 {m : gs_M} {k : gs_O} : (if (0 : Int32) = 0 then gs_bt 0 (gs_rI 0 m) else k) = gs_rI 0 m := by rw [if_pos rfl, gs_bt0]
section LN
variable {X : gs_E} {d d' T S TR L : Nat} {by_ : Nat → Nat} {m0 r0 mx mr : gs_M} {A B : Nat → Nat → Int32} {c1 c2 E : Nat → Int32} {c v p q n0 n1 n2 n3 n5 n6 n7 n8 : Nat}
theorem st_pq (st : gs_Sg S L m0 r0 A B c1 c2 E mx mr c v p q) (hc : c ≠ 34) : p < q := st.2.2.2.2.2.2.2.2.2.2.2.2.2.2.2.2.2.2.2.2 hc
theorem st_got {f : Nat → Int32} {x : Int32} (st : gs_Sg S L m0 r0 A B c1 c2 (upf f 11 x) mx mr c v p q) : mr.2.1 116 11 = x := (st.2.2.2.2.2.2.1 11 (by decide)).trans (upf_e _ _ _)
theorem j_reign (cx : gs_Cn X T S TR L by_ m0 r0) (st : gs_Sg S L m0 r0 A B c1 c2 E mx mr c v p q) (rl : gs_Rl A B c1 E n0 n1 n2 n3 n5 n6 n7 n8) (hc : c ≠ 34) (hn : n0 < 8) : gs_jQ S m0 r0 (gs_Le S L m0 r0 p (inc 0)) (gs_exec X (d + 5) 52 [.inr (.inr 1)] mx) (gs_bU (gs_exec X (d' + 4) 182 [.inr (.inr 116)] mr) gs_th (fun m => gs_exec X (d' + 4) 194 [.inr (.inr 116)] m)) := by
  have sx := st_sx cx st
  have pq := st_pq st hc
  obtain ⟨⟨⟨a0, a1, a2, a3, a5, a6, a7, a8⟩, ⟨b0, b1, b2, b3, b5, b6, b7, b8⟩, bd⟩, rR, rP, rB, rG, rC, rW, rK, rS, rU, u4, u43⟩ := rl
  have lb : Int32.ofNat n0 < (8 : Int32) ↔ n0 < 8 := gs_nlt (b := 8) (by omega) (by decide)
  have ax : mx.2.1 (S + 1) 3 = Int32.ofNat n0 := (st.2.2.1 1 3).trans a0
  rw [eq_X5_readReign]
  simp only [yf1 sx, y_11 sx, gs_nn_s, yt0 sx, y0_0 sx, yt1 sx, ax]
  rw [eq_X5_begin, if_pos (lb.mpr hn)]
  simp only [yf1 sx, y_18 sx, gs_nn_s, yf3 sx, bU_bU]
  refine jadv cx st (fun mx1 mr1 k1 v1 p1 q1 le1 st1 => ?_)
  have sx1 := st_sx cx st1
  have sr1 := st_sr cx st1
  have bx1 : mr1.2.1 120 0 = Int32.ofNat n0 := (st1.2.2.2.1 1 0).trans b0
  have eo : (8 : Int32) + Int32.ofNat n0 = Int32.ofNat (8 + n0) := n_add 8 n0
  rw [eq_X12_reignLine]
  simp only [gs_bU_s, yf1 sx1, y_11 sx1, gs_nn_s, yt0 sx1, y0_0 sx1, fl_116 sr1, sh_116_13 sr1, sh_116_18 sr1, r_ix sr1 (a := 120) (k := 0) (len := 9) (j := (0 : Int32)) rfl rfl rfl (by decide), bx1, eo]
  refine j_newName (o := 1) (o' := 2) (b := 5) (off := 8) (n := n0) cx st1 (fun k => yt1 sx1) (y1_0 sx1) (fun k hk K => yar sx1 2 13 8 (by decide) (by omega)) a0 (by omega) (by decide) (fun k hk K => gs_ixn sr1.1 rfl (show 8 + k < 16 by omega)) (by unfold rsVb upr; omega) (fun k hk => (rR k hk).1) rfl rfl (fun m => kr0) (fun mx2 mr2 k2 v2 p2 q2 le2 st2 => ?_)
  have sx2 := st_sx cx st2
  have sr2 := st_sr cx st2
  simp only [if_neg i10, yf1 sx2, fl_116 sr2]
  refine j_number (lo := 0) (hi := 1900) cx st2 rfl rfl (by decide) (by decide) (fun m => kr0) (fun w3 mx3 mr3 k3 v3 p3 q3 l3 h3 le3 st3 => ?_)
  have sx3 := st_sx cx st3
  have sr3 := st_sr cx st3
  have g3 := st_got st3
  have st4 := st_wr (a := 6) (i := 8 + n0) (x := Int32.ofNat w3) st3 (by unfold rsVb upr; omega)
  simp only [if_neg i10, yf1 sx3, fl_116 sr3, sh_116_19 sr3, gs_nn_s, gs_ixn sr3.1 (show gs_ok 125 13 153 = true from rfl) (show 8 + n0 < 16 by omega), g3, gs_fld_sI]
  refine j_number (lo := 1) (hi := 60) cx st4 rfl rfl (by decide) (by decide) (fun m => kr0) (fun w5 mx5 mr5 k5 v5 p5 q5 l5 h5 le5 st5 => ?_)
  have sx5 := st_sx cx st5
  have sr5 := st_sr cx st5
  have g5 := st_got st5
  have ax5 : mx5.2.1 (S + 1) 3 = Int32.ofNat n0 := (st5.2.2.1 1 3).trans a0
  have st6 := st_wx (a := 1) (i := 3) (x := Int32.ofNat (n0 + 1)) cx (st_wx (a := 4) (i := n0) (x := Int32.ofNat w5) cx (st_wx (a := 3) (i := n0) (x := Int32.ofNat w3) cx (st_wx (a := 2) (i := n0) (x := Int32.ofNat v1) cx (st_wr (a := 7) (i := 8 + n0) (x := Int32.ofNat w5) st5 (by unfold rsVb upr; omega)) (by decide)) (by decide)) (by decide)) (by decide)
  simp only [if_neg i10, yf1 sx5, y_11 sx5, yt0 sx5, y0_0 sx5, yt1 sx5, fl_116 sr5, sh_116_20 sr5, gs_nn_s, gs_ixn sr5.1 (show gs_ok 126 13 153 = true from rfl) (show 8 + n0 < 16 by omega), g5, gs_bt1, x_add1 sx5 ax5 hn, gs_bU_s]
  refine Or.inr ⟨_, _, rfl, rfl, _, _, _, _, _, _, _, _, _, n0 + 1, n1, n2, n3, n5, n6, n7, n8, ?_, st6, ⟨⟨up2_e _ _ _ _, a1, a2, a3, a5, a6, a7, a8⟩, ⟨(up2_e _ _ _ _).trans (n_s1 b0), b1, b2, b3, b5, b6, b7, b8⟩, ⟨by omega, bd.2⟩⟩, ?_, rP, rB, rRG_c rG (fun g hg => ?_) (fun g i hg hi => rfl) (Nat.le_succ _) (Nat.le_refl _) (Nat.le_refl _), rRC_c rC (fun g hg => ?_) (fun g i hg hi => rfl), rW, rK, rS, rU, u4, u43⟩
  · omega
  · intro k hk
    by_cases e : k = n0
    · subst e
      refine ⟨by simp [gs_up2], by simp [gs_up2], by simp [gs_up2], ⟨w3, by omega, by simp [gs_up2]⟩, ⟨w5, by omega, by simp [gs_up2]⟩⟩
    · have h := rR k (by omega)
      simpa [gs_up2, e] using h
  · rw [up2_row (by omega), up2_row (by omega), up2_row (by omega), up2_row (by omega)]
  · rw [up2_row (by omega), up2_row (by omega), up2_row (by omega), up2_row (by omega)]
theorem j_gate (cx : gs_Cn X T S TR L by_ m0 r0) (st : gs_Sg S L m0 r0 A B c1 c2 E mx mr c v p q) (rl : gs_Rl A B c1 E n0 n1 n2 n3 n5 n6 n7 n8) (hc : c ≠ 34) (hn : n1 < 10) : gs_jQ S m0 r0 (gs_Le S L m0 r0 p (inc 1)) (gs_exec X (d + 5) 53 [.inr (.inr 1)] mx) (gs_bU (gs_exec X (d' + 4) 182 [.inr (.inr 116)] mr) gs_th (fun m => gs_exec X (d' + 4) 195 [.inr (.inr 116)] m)) := by
  have sx := st_sx cx st
  have pq := st_pq st hc
  obtain ⟨⟨⟨a0, a1, a2, a3, a5, a6, a7, a8⟩, ⟨b0, b1, b2, b3, b5, b6, b7, b8⟩, bd⟩, rR, rP, rB, rG, rC, rW, rK, rS, rU, u4, u43⟩ := rl
  have lb : Int32.ofNat n1 < (10 : Int32) ↔ n1 < 10 := gs_nlt (b := 10) (by omega) (by decide)
  have ax : mx.2.1 (S + 5) 3 = Int32.ofNat n1 := (st.2.2.1 5 3).trans a1
  rw [eq_X5_readGate]
  simp only [yf1 sx, y_11 sx, gs_nn_s, yt0 sx, y0_1 sx, yt5 sx, ax]
  rw [eq_X5_begin, if_pos (lb.mpr hn)]
  simp only [yf1 sx, y_18 sx, gs_nn_s, yf3 sx, bU_bU]
  refine jadv cx st (fun mx1 mr1 k1 v1 p1 q1 le1 st1 => ?_)
  have sx1 := st_sx cx st1
  have sr1 := st_sr cx st1
  have bx1 : mr1.2.1 120 1 = Int32.ofNat n1 := (st1.2.2.2.1 1 1).trans b1
  have eo : (10 : Int32) + Int32.ofNat n1 = Int32.ofNat (10 + n1) := n_add 10 n1
  rw [eq_X12_gateLine]
  simp only [gs_bU_s, yf1 sx1, y_11 sx1, gs_nn_s, yt0 sx1, y0_1 sx1, fl_116 sr1, sh_116_13 sr1, sh_116_21 sr1, r_ix sr1 (a := 120) (k := 1) (len := 9) (j := (1 : Int32)) rfl rfl rfl (by decide), bx1, eo]
  refine j_newName (o := 5) (o' := 6) (b := 8) (off := 10) (n := n1) cx st1 (fun k => yt5 sx1) (y5_0 sx1) (fun k hk K => yar sx1 6 13 10 (by decide) (by omega)) a1 (by omega) (by decide) (fun k hk K => gs_ixn sr1.1 rfl (show 10 + k < 20 by omega)) (by unfold rsVb upr; omega) (fun k hk => (rP k hk).1) rfl rfl (fun m => kr0) (fun mx2 mr2 k2 v2 p2 q2 le2 st2 => ?_)
  have sx2 := st_sx cx st2
  have sr2 := st_sr cx st2
  simp only [if_neg i10, yf1 sx2, fl_116 sr2]
  refine j_number (lo := 0) (hi := 119) cx st2 rfl rfl (by decide) (by decide) (fun m => kr0) (fun w3 mx3 mr3 k3 v3 p3 q3 l3 h3 le3 st3 => ?_)
  have sx3 := st_sx cx st3
  have sr3 := st_sr cx st3
  have g3 := st_got st3
  have st4 := st_wr (a := 9) (i := 10 + n1) (x := Int32.ofNat w3) st3 (by unfold rsVb upr; omega)
  simp only [if_neg i10, yf1 sx3, fl_116 sr3, sh_116_22 sr3, gs_nn_s, gs_ixn sr3.1 (show gs_ok 128 13 153 = true from rfl) (show 10 + n1 < 20 by omega), g3, gs_fld_sI]
  refine j_number (lo := 0) (hi := 59) cx st4 rfl rfl (by decide) (by decide) (fun m => kr0) (fun w5 mx5 mr5 k5 v5 p5 q5 l5 h5 le5 st5 => ?_)
  have sx5 := st_sx cx st5
  have sr5 := st_sr cx st5
  have g5 := st_got st5
  have ax5 : mx5.2.1 (S + 5) 3 = Int32.ofNat n1 := (st5.2.2.1 5 3).trans a1
  have st6 := st_wx (a := 5) (i := 3) (x := Int32.ofNat (n1 + 1)) cx (st_wx (a := 8) (i := n1) (x := Int32.ofNat w5) cx (st_wx (a := 7) (i := n1) (x := Int32.ofNat w3) cx (st_wx (a := 6) (i := n1) (x := Int32.ofNat v1) cx (st_wr (a := 10) (i := 10 + n1) (x := Int32.ofNat w5) st5 (by unfold rsVb upr; omega)) (by decide)) (by decide)) (by decide)) (by decide)
  simp only [if_neg i10, yf1 sx5, y_11 sx5, yt0 sx5, y0_1 sx5, yt5 sx5, fl_116 sr5, sh_116_23 sr5, gs_nn_s, gs_ixn sr5.1 (show gs_ok 129 13 153 = true from rfl) (show 10 + n1 < 20 by omega), g5, gs_bt1, x_add5 sx5 ax5 hn, gs_bU_s]
  refine Or.inr ⟨_, _, rfl, rfl, _, _, _, _, _, _, _, _, _, n0, n1 + 1, n2, n3, n5, n6, n7, n8, ?_, st6, ⟨⟨a0, up2_e _ _ _ _, a2, a3, a5, a6, a7, a8⟩, ⟨b0, (up2_e _ _ _ _).trans (n_s1 b1), b2, b3, b5, b6, b7, b8⟩, ⟨bd.1, by omega, bd.2.2⟩⟩, rR, ?_, rB, rRG_c rG (fun g hg => ?_) (fun g i hg hi => rfl) (Nat.le_refl _) (Nat.le_succ _) (Nat.le_refl _), rRC_c rC (fun g hg => ?_) (fun g i hg hi => rfl), rW, rK, rS, rU, u4, u43⟩
  · omega
  · intro k hk
    by_cases e : k = n1
    · subst e
      refine ⟨by simp [gs_up2], by simp [gs_up2], by simp [gs_up2], ⟨w3, by omega, by simp [gs_up2]⟩, ⟨w5, by omega, by simp [gs_up2]⟩⟩
    · have h := rP k (by omega)
      simpa [gs_up2, e] using h
  · rw [up2_row (by omega), up2_row (by omega), up2_row (by omega), up2_row (by omega)]
  · rw [up2_row (by omega), up2_row (by omega), up2_row (by omega), up2_row (by omega)]
end LN
