/-! A line, of whatever kind. -/
theorem set1 : ∀ i, i < 4 → ∀ s, s < 16 → ((Int32.ofNat (s * 524288) &&& ((1 : Int32) <<< (Int32.ofNat (19 + i) &&& 31)) = 0) ↔ b1 s i = 0) := by decide +kernel
theorem set2 : ∀ i, i < 4 → ∀ s, s < 16 → (((Int32.ofNat (s * 256) >>> (Int32.ofNat (8 + i) &&& 31)) &&& (1 : Int32) = (1 : Int32)) ↔ ¬ b1 s i = 0) := by decide +kernel
theorem set3 : ∀ i, i < 4 → ∀ s, s < 16 → b1 s i = 0 → (Int32.ofNat (s * 524288) ||| ((1 : Int32) <<< (Int32.ofNat (19 + i) &&& 31)) = Int32.ofNat ((s + 2 ^ i) * 524288) ∧ Int32.ofNat (s * 256) ||| ((1 : Int32) <<< (Int32.ofNat (8 + i) &&& 31)) = Int32.ofNat ((s + 2 ^ i) * 256) ∧ s + 2 ^ i < 16) := by decide +kernel
def smx (i : Nat) : Nat := if i = 0 then 59 else if i = 2 then 999 else 99
section LI
variable {X : gs_E} {d d' T S TR L : Nat} {by_ : Nat → Nat} {m0 r0 mx mr : gs_M} {A B : Nat → Nat → Int32} {c1 c2 E : Nat → Int32} {c v p q n0 n1 n2 n3 n5 n6 n7 n8 : Nat} {Q : gs_M → gs_M → Prop}
/-- a setting's number, behind its word -/
theorem rl_set {s i u : Nat} {E' : Nat → Int32} (rl : gs_Rl A B c1 E n0 n1 n2 n3 n5 n6 n7 n8) (hi : i < 4) (hs : s < 16) (hu : u ≤ smx i) (hE : ∀ j, j ≠ 11 → j ≠ 17 → E' j = E j) (hE7 : E' 17 = Int32.ofNat (s * 256)) : gs_Rl (gs_up2 A 0 (10 + i) (Int32.ofNat u)) (gs_up2 B 4 i (Int32.ofNat u)) (upf c1 7 (Int32.ofNat (s * 524288))) E' n0 n1 n2 n3 n5 n6 n7 n8 := by
  obtain ⟨⟨⟨a0, a1, a2, a3, a5, a6, a7, a8⟩, ⟨b0, b1, b2, b3, b5, b6, b7, b8⟩, bd⟩, rR, rP, rB, rG, rC, rW, rK, rS, rU, u4, u43⟩ := rl
  have hA : ∀ a, a ≠ 0 → gs_up2 A 0 (10 + i) (Int32.ofNat u) a = A a := fun a h1 => up2_row h1
  have hA0 : ∀ j, j < 10 → gs_up2 A 0 (10 + i) (Int32.ofNat u) 0 j = A 0 j := fun j h1 => up2_n (Or.inr (by omega))
  have hB : ∀ b, b ≠ 4 → gs_up2 B 4 i (Int32.ofNat u) b = B b := fun b h1 => up2_row h1
  refine ⟨⟨⟨?_, ?_, ?_, ?_, ?_, ?_, ?_, ?_⟩, ?_, bd⟩, rRR_c rR (hA _ (by decide)) (hA _ (by decide)) (hA _ (by decide)) (hB _ (by decide)) (hB _ (by decide)) (hB _ (by decide)), rRP_c rP (hA _ (by decide)) (hA _ (by decide)) (hA _ (by decide)) (hB _ (by decide)) (hB _ (by decide)) (hB _ (by decide)), rRB_c rB (hA _ (by decide)) (hA _ (by decide)) (hB _ (by decide)) (hB _ (by decide)), rRG_c rG (fun g hg => hA _ (by omega)) (fun g j hg hj => by unfold bg; rw [hB _ (by decide)]) (Nat.le_refl _) (Nat.le_refl _) (Nat.le_refl _), rRC_c rC (fun g hg => hA _ (by omega)) (fun g j hg hj => by unfold bc; rw [hB _ (by decide)]), rRW_c rW (hA _ (by decide)) (hA _ (by decide)) (hA _ (by decide)) (hB _ (by decide)), rRK_c rK (hA _ (by decide)) (hA _ (by decide)) (hB _ (by decide)) (hB _ (by decide)) (hB _ (by decide)), rRS_c rS (hA _ (by decide)) (hA _ (by decide)) (hA _ (by decide)) (hB _ (by decide)) (hB _ (by decide)) (hB _ (by decide)) (hB _ (by decide)) (hB _ (by decide)) (hB _ (by decide)) (hB _ (by decide)), ?_, u4, ?_⟩
  · rw [hA _ (by decide)]; exact a0
  · rw [hA _ (by decide)]; exact a1
  · rw [hA _ (by decide)]; exact a2
  · rw [hA0 _ (by decide)]; exact a3
  · rw [hA0 _ (by decide)]; exact a5
  · rw [hA _ (by decide)]; exact a6
  · rw [hA _ (by decide)]; exact a7
  · rw [hA _ (by decide)]; exact a8
  · rw [hB _ (by decide)]
    exact ⟨b0, b1, b2, b3, b5, b6, b7, b8⟩
  · obtain ⟨x0, x1, x2, x3, -⟩ := rU
    have h4 : i = 0 ∨ i = 1 ∨ i = 2 ∨ i = 3 := by omega
    rcases h4 with h | h | h | h <;> subst h
    · exact ⟨⟨rfl, ⟨u, by unfold smx at hu; simp at hu; omega, rfl⟩⟩, x1, x2, x3, s, hs, rfl, hE7⟩
    · exact ⟨x0, ⟨rfl, ⟨u, by unfold smx at hu; simp at hu; omega, rfl⟩⟩, x2, x3, s, hs, rfl, hE7⟩
    · exact ⟨x0, x1, ⟨rfl, ⟨u, by unfold smx at hu; simp at hu; omega, rfl⟩⟩, x3, s, hs, rfl, hE7⟩
    · exact ⟨x0, x1, x2, ⟨rfl, ⟨u, by unfold smx at hu; simp at hu; omega, rfl⟩⟩, s, hs, rfl, hE7⟩
  · rw [hE 43 (by decide) (by decide)]; exact u43
theorem j_set {i s : Nat} {mo : Int32} {Kx : gs_M → gs_O} {Kr : Int32 → gs_M → gs_O} (cx : gs_Cn X T S TR L by_ m0 r0) (st : gs_Sg S L m0 r0 A B c1 c2 E mx mr c v p q) (rl : gs_Rl A B c1 E n0 n1 n2 n3 n5 n6 n7 n8) (hi : i < 4) (hc : c = 19 + i) (em : mo = Int32.ofNat (smx i)) (hs : s < 16) (e7 : c1 7 = Int32.ofNat (s * 524288)) (tb : b1 s i = 0) (h0 : ∀ m, Kr 0 m = gs_rI 0 m)
    (hk : ∀ mx' mr', gs_Le S L m0 r0 p (fun B => B) mx' mr' → gs_jQ S m0 r0 Q (Kx mx') (Kr 1 mr')) :
    gs_jQ S m0 r0 Q (gs_bU (gs_bI (gs_exec X (d + 5) 50 [.inr (.inr 1), .inl mo] mx) gs_th (fun x m13 => gs_fld m13 S 7 (let m15 : gs_M := gs_sI m13 S (10 + i) x; gs_rU m15))) gs_th Kx) (gs_bU (gs_exec X (d' + 4) 182 [.inr (.inr 116)] (gs_sI mr 116 17 (Int32.ofNat ((s + 2 ^ i) * 256)))) gs_th (fun m23 => gs_bI (gs_exec X (d' + 4) 208 [.inr (.inr 116), .inl (Int32.ofNat i)] m23) gs_th Kr)) := by
  have sx := st_sx cx st
  have pq := st_pq st (by omega)
  have t := st.2.2.2.2.2.2.2
  have q5 : mx.2.1 3 5 = Int32.ofNat c := t.2.1
  have i7 : mx.2.1 1 7 = Int32.ofNat (s * 524288) := (st.2.2.2.2.1 7).trans e7
  have d1 := set1 i hi s hs
  obtain ⟨d3, d4, d5⟩ := set3 i hi s hs tb
  rw [eq_X5_readSetting, yf1 sx, yf1 sx, i7, eq_X5_tellOnce]
  simp only [yf1 sx, y_18 sx, gs_nn_s, yf3 sx, q5, hc]
  rw [if_pos (d1.mpr tb), d3, bI_bU, bI_bU, bU_bU]
  have st1 : gs_Sg S L m0 r0 A B c1 c2 (upf E 17 (Int32.ofNat ((s + 2 ^ i) * 256))) mx (gs_sI mr 116 17 (Int32.ofNat ((s + 2 ^ i) * 256))) c v p q := st_we st (by unfold rsVb upr; omega) (by omega)
  refine jadv cx st1 (fun mx2 mr2 k2 v2 p2 q2 le2 st2 => ?_)
  have sx2 := st_sx cx st2
  have sr2 := st_sr cx st2
  have st3 := st_w1 (i := 7) (x := Int32.ofNat ((s + 2 ^ i) * 524288)) cx st2
  have fin : ∀ (mx4 mr4 : gs_M) (w k4 v4 p4 q4 : Nat), w ≤ smx i → p2 < p4 → gs_Sg S L m0 r0 A B (upf c1 7 (Int32.ofNat ((s + 2 ^ i) * 524288))) c2 (upf (upf E 17 (Int32.ofNat ((s + 2 ^ i) * 256))) 11 (Int32.ofNat w)) mx4 mr4 k4 v4 p4 q4 → gs_jQ S m0 r0 Q (Kx (gs_sI mx4 S (10 + i) (Int32.ofNat w))) (Kr 1 (gs_sI mr4 123 i (Int32.ofNat w))) := by
    intro mx4 mr4 w k4 v4 p4 q4 hw hp4 st4
    have st5 : gs_Sg S L m0 r0 (gs_up2 A 0 (10 + i) (Int32.ofNat w)) (gs_up2 B 4 i (Int32.ofNat w)) (upf c1 7 (Int32.ofNat ((s + 2 ^ i) * 524288))) c2 (upf (upf E 17 (Int32.ofNat ((s + 2 ^ i) * 256))) 11 (Int32.ofNat w)) (gs_sI mx4 S (10 + i) (Int32.ofNat w)) (gs_sI mr4 123 i (Int32.ofNat w)) k4 v4 p4 q4 := st_wr (a := 4) (st_wx (a := 0) cx st4 (by decide)) (by unfold rsVb upr; omega)
    exact hk _ _ ⟨_, _, _, _, _, _, _, _, _, n0, n1, n2, n3, n5, n6, n7, n8, by omega, st5, rl_set rl hi d5 hw (fun j h1 h2 => (upf_n h1).trans (upf_n h2)) rfl⟩
  have nn : ∀ (lo : Int32) (M : Nat), M = smx i → gs_jQ S m0 r0 Q (gs_bU (gs_bI (gs_bI (gs_exec X (d + 4) 45 [.inr (.inr 1), .inl (0 : Int32), .inl mo] (gs_sI mx2 1 7 (Int32.ofNat ((s + 2 ^ i) * 524288)))) gs_th (fun x5 m4 => gs_rI x5 m4)) gs_th (fun x m13 => gs_fld m13 S 7 (gs_rU (gs_sI m13 S (10 + i) x)))) gs_th Kx) (gs_bI (gs_bI (gs_exec X (d' + 3) 187 [.inr (.inr 116), .inl (0 : Int32), .inl (Int32.ofNat M)] mr2) gs_th (fun x2 m1 => if x2 = 0 then gs_bt (0 : Int32) (gs_rI (0 : Int32) m1) else gs_fld m1 116 11 (gs_nn (m1.2.2.2 116 16) (fun q3 => gs_fld m1 116 11 (gs_ix m1 q3 13 (Int32.ofNat i) (fun k4 => let m5 : gs_M := gs_sI m1 q3 k4 (m1.2.1 116 11); gs_bt (1 : Int32) (gs_rI (1 : Int32) m5))))))) gs_th Kr) := by
    intro lo M hM
    rw [em, hM, bI_bI, bU_bI, bI_bI]
    refine j_number (lo := 0) (hi := smx i) cx st3 rfl rfl (by decide) (by unfold smx; split <;> (try split) <;> omega) (fun m => ?_) (fun w4 mx4 mr4 k4 v4 p4 q4 l4 h4 le4 st4 => ?_)
    · show gs_bI (if (0 : Int32) = 0 then gs_bt 0 (gs_rI 0 m) else _) gs_th Kr = _
      rw [if_pos rfl, gs_bt0, gs_bI_s]
      exact h0 m
    have sx4 := st_sx cx st4
    have sr4 := st_sr cx st4
    have g4 := st_got st4
    simp only [gs_bI_s, yt0 sx4, gs_bU_s, if_neg i10, fl_116 sr4, sh_116_16 sr4, gs_nn_s, gs_ixn sr4.1 (show gs_ok 123 13 153 = true from rfl) (show i < 4 from hi), g4, gs_bt1]
    exact fin mx4 mr4 w4 k4 v4 p4 q4 h4 le4 st4
  rw [gs_bI_s, eq_X12_ruleLine]
  simp only [yf1 sx2, gs_fld_sI, fl_116 sr2]
  have e0 : Int32.ofNat i = (0 : Int32) ↔ i = 0 := n_eq (b := 0) (by omega) (by decide)
  have e2 : Int32.ofNat i = (2 : Int32) ↔ i = 2 := n_eq (b := 2) (by omega) (by decide)
  by_cases z0 : i = 0
  · rw [if_pos (e0.mpr z0)]
    exact nn 0 59 (by rw [z0]; rfl)
  rw [if_neg (fun y => z0 (e0.mp y))]
  by_cases z2 : i = 2
  · rw [if_pos (e2.mpr z2)]
    exact nn 0 999 (by rw [z2]; rfl)
  · rw [if_neg (fun y => z2 (e2.mp y))]
    exact nn 0 99 (by unfold smx; rw [if_neg z0, if_neg z2])
/-- a setting told before -/
theorem j_set2 {i s : Nat} {mo : Int32} {Kx : gs_M → gs_O} {Kr : Int32 → gs_M → gs_O} (cx : gs_Cn X T S TR L by_ m0 r0) (st : gs_Sg S L m0 r0 A B c1 c2 E mx mr c v p q) (hi : i < 4) (hc : c = 19 + i) (hs : s < 16) (e7 : c1 7 = Int32.ofNat (s * 524288)) (tb : ¬ b1 s i = 0) (h0 : ∀ m, Kr 0 m = gs_rI 0 m) :
    gs_jQ S m0 r0 Q (gs_bU (gs_bI (gs_exec X (d + 5) 50 [.inr (.inr 1), .inl mo] mx) gs_th (fun x m13 => gs_fld m13 S 7 (let m15 : gs_M := gs_sI m13 S (10 + i) x; gs_rU m15))) gs_th Kx) (gs_bI (gs_exec X (d' + 4) 178 [.inr (.inr 116), .inl (3 : Int32)] mr) gs_th Kr) := by
  have sx := st_sx cx st
  have t := st.2.2.2.2.2.2.2
  have q5 : mx.2.1 3 5 = Int32.ofNat c := t.2.1
  have i7 : mx.2.1 1 7 = Int32.ofNat (s * 524288) := (st.2.2.2.2.1 7).trans e7
  have d1 := set1 i hi s hs
  rw [eq_X5_readSetting, yf1 sx, yf1 sx, i7, eq_X5_tellOnce]
  simp only [yf1 sx, y_18 sx, gs_nn_s, yf3 sx, q5, hc]
  rw [if_neg (fun y => tb (d1.mp y)), bI_bU, bI_bU, bU_bU]
  exact jfail cx st h0
/-- the end of a line -/
theorem j_semi {Kx : gs_M → gs_O} {Kr : Int32 → gs_M → gs_O} (cx : gs_Cn X T S TR L by_ m0 r0) (st : gs_Sg S L m0 r0 A B c1 c2 E mx mr c v p q) (h0 : ∀ m, Kr 0 m = gs_rI 0 m)
    (hK : ∀ mx' mr' c' v' p' q', p < p' → gs_Sg S L m0 r0 A B c1 c2 E mx' mr' c' v' p' q' → gs_jQ S m0 r0 Q (Kx mx') (Kr 1 mr')) :
    gs_jQ S m0 r0 Q (gs_bU (gs_exec X (d + 4) 44 [.inr (.inr 1), .inl (36 : Int32)] mx) gs_th Kx) (gs_bI (gs_bI (gs_exec X (d' + 3) 186 [.inr (.inr 116), .inl (59 : Int32)] mr) gs_th (fun x2 m1 => if x2 = 0 then gs_fld m1 116 11 (gs_bI (gs_exec X (d' + 3) 178 [.inr (.inr 116), .inl (1 : Int32)] m1) gs_th (fun x4 m3 => gs_bt x4 (gs_rI x4 m3))) else gs_fld m1 116 11 (gs_bU (gs_exec X (d' + 3) 182 [.inr (.inr 116)] m1) gs_th (fun m9 => gs_bt (1 : Int32) (gs_rI (1 : Int32) m9))))) gs_th Kr) := by
  have sx := st_sx cx st
  have sr := st_sr cx st
  have t := st.2.2.2.2.2.2.2
  have hc := t.1
  have k5 : mx.2.1 3 5 = Int32.ofNat c := t.2.1
  have ec : Int32.ofNat c = (36 : Int32) ↔ c = 36 := n_eq (b := 36) (by omega) (by decide)
  rw [eq_X5_take, r_isSign (k := 36) (a := (59 : Int32)) sr t (Or.inl rfl) rfl, gs_bI_s, b2_if]
  simp only [yf1 sx, yf3 sx, y_18 sx, gs_nn_s, k5, fl_116 sr]
  by_cases z : c = 36
  · rw [if_pos (ec.mpr z), if_pos z, bU_bU, bI_bU]
    exact jadv cx st (fun mx' mr' c' v' p' q' le s => hK mx' mr' c' v' p' q' (by have := st_pq st (by omega); omega) s)
  · rw [if_neg (fun y => z (ec.mp y)), if_neg z, bU_bU, bI_bI]
    refine jfail cx st (fun m => ?_)
    exact h0 m
theorem x_semiF {Kx : gs_M → gs_O} (cx : gs_Cn X T S TR L by_ m0 r0) (st : gs_Sg S L m0 r0 A B c1 c2 E mx mr c v p q) (hc' : c ≠ 36) : ∃ mx2, gs_fld mx 1 5 (gs_bU (gs_exec X (d + 4) 44 [.inr (.inr 1), .inl (36 : Int32)] mx) gs_th Kx) = gs_th 0 (gs_gb mx2) ∧ gs_Wx (rsAf S) m0 mx2 ∧ mx2.2.1 1 9 = 1 ∧ mx2.2.1 1 10 = Int32.ofNat p := by
  have sx := st_sx cx st
  have t := st.2.2.2.2.2.2.2
  have hc := t.1
  have k5 : mx.2.1 3 5 = Int32.ofNat c := t.2.1
  have k3 : mx.2.1 3 6 = Int32.ofNat p := t.2.2.1
  have ec : Int32.ofNat c = (36 : Int32) ↔ c = 36 := n_eq (b := 36) (by omega) (by decide)
  have e : (gs_sI mx 1 9 1).2.1 3 6 = Int32.ofNat p := by rw [gs_sIn (Or.inl (by decide))]; exact k3
  refine ⟨gs_sI (gs_sI mx 1 9 1) 1 10 (Int32.ofNat p), ?_, wx_sI (wx_sI (wx_mono st.1 (fun x i h => rsA_f h)) (Or.inl rfl)) (Or.inl rfl), ?_, gs_sIe _ _ _ _⟩
  · rw [yf1 sx, eq_X5_take]
    simp only [yf1 sx, yf3 sx, y_18 sx, gs_nn_s, k5]
    rw [if_neg (fun y => hc' (ec.mp y)), eq_X5_fail]
    simp only [gs_fld_sI, yf1 sx, yf3 sx, gs_sI22, y_18 sx, gs_nn_s, e]
    rfl
  · rw [gs_sIn (Or.inr (by decide)), gs_sIe]
end LI
