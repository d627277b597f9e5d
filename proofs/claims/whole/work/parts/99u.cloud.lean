/-! The line of a cloud. -/
section CUP
variable {a b : Nat → Int32}
theorem cRl_6 {w : Nat} (h : cRl a b) (h1 : 1 ≤ w) (h2 : w ≤ 10) : cRl (upf a 6 (Int32.ofNat w)) (upf b 6 (Int32.ofNat w)) := by
  obtain ⟨ha, hv, v0, v1, v2, v4, v3, v5, v55, v6, v66, v7, v8, v78⟩ := h
  have e : (Int32.ofNat w).toInt.toNat = w := f_nat rfl (by omega)
  refine ⟨fun i hi => ?_, fun i hi => ?_, v0, v1, v2, v4, v3, v5, v55, ?_, ?_, v7, v8, v78⟩
  · by_cases q : i = 6
    · rw [q, upf_e, upf_e]
    · rw [upf_n q, upf_n q]
      exact ha i hi
  · by_cases q : i = 6
    · subst q
      show Int32.ofNat w = Int32.ofNat ((Int32.ofNat w).toInt.toNat)
      rw [e]
    · unfold bN
      rw [upf_n q]
      exact hv i hi
  · show 1 ≤ (Int32.ofNat w).toInt.toNat
    omega
  · show (Int32.ofNat w).toInt.toNat ≤ 10
    omega
theorem cRl_78 {w z : Nat} (h : cRl a b) (h1 : 1 ≤ w) (h2 : w ≤ 9999) (h3 : 1 ≤ z) (h4 : z ≤ 9999) : cRl (upf (upf a 7 (Int32.ofNat w)) 8 (Int32.ofNat z)) (upf (upf b 7 (Int32.ofNat w)) 8 (Int32.ofNat z)) := by
  obtain ⟨ha, hv, v0, v1, v2, v4, v3, v5, v55, v6, v66, v7, v8, v78⟩ := h
  have e : (Int32.ofNat w).toInt.toNat = w := f_nat rfl (by omega)
  have e' : (Int32.ofNat z).toInt.toNat = z := f_nat rfl (by omega)
  refine ⟨fun i hi => ?_, fun i hi => ?_, v0, v1, v2, v4, v3, v5, v55, v6, v66, ?_, ?_, ?_⟩
  · by_cases q : i = 8
    · rw [q, upf_e, upf_e]
    · rw [upf_n q, upf_n q]
      by_cases q2 : i = 7
      · rw [q2, upf_e, upf_e]
      · rw [upf_n q2, upf_n q2]
        exact ha i hi
  · by_cases q : i = 8
    · subst q
      show Int32.ofNat z = Int32.ofNat ((Int32.ofNat z).toInt.toNat)
      rw [e']
    · by_cases q2 : i = 7
      · subst q2
        show Int32.ofNat w = Int32.ofNat ((Int32.ofNat w).toInt.toNat)
        rw [e]
      · unfold bN
        rw [upf_n q, upf_n q2]
        exact hv i hi
  · show (Int32.ofNat w).toInt.toNat ≤ 9999
    omega
  · show (Int32.ofNat z).toInt.toNat ≤ 9999
    omega
  · show (Int32.ofNat w).toInt.toNat = 0 ↔ (Int32.ofNat z).toInt.toNat = 0
    omega
theorem cRl_start {x y y1 s1 y2 s2 : Nat} (hb : ∀ i, i < 9 → b i = 0) (h0 : x < 120) (h1 : y < 60) (h2 : y1 < y2) (h3 : y2 < 3000) (h4 : 1 ≤ s1) (h5 : s1 < s2) (h6 : s2 ≤ 9999) : cRl (upf (upf (upf (upf (upf (upf (upf (upf (upf a 0 (Int32.ofNat x)) 1 (Int32.ofNat y)) 2 (Int32.ofNat y1)) 3 (Int32.ofNat s1)) 4 (Int32.ofNat y2)) 5 (Int32.ofNat s2)) 6 10) 7 0) 8 0) (upf (upf (upf (upf (upf (upf (upf b 6 10) 0 (Int32.ofNat x)) 1 (Int32.ofNat y)) 2 (Int32.ofNat y1)) 3 (Int32.ofNat s1)) 4 (Int32.ofNat y2)) 5 (Int32.ofNat s2)) := by
  have e : ∀ w, w < 10000 → (Int32.ofNat w).toInt.toNat = w := fun w hw => f_nat rfl (by omega)
  have z : (0 : Int32).toInt.toNat = 0 := rfl
  have b7 := hb 7 (by decide)
  have b8 := hb 8 (by decide)
  refine ⟨fun i hi => ?_, fun i hi => ?_, ?_, ?_, ?_, ?_, ?_, ?_, ?_, ?_, ?_, ?_, ?_, ?_⟩
  · have h : i = 0 ∨ i = 1 ∨ i = 2 ∨ i = 3 ∨ i = 4 ∨ i = 5 ∨ i = 6 ∨ i = 7 ∨ i = 8 := by omega
    rcases h with h | h | h | h | h | h | h | h | h <;> subst h
    · rfl
    · rfl
    · rfl
    · rfl
    · rfl
    · rfl
    · rfl
    · exact b7.symm
    · exact b8.symm
  · have h : i = 0 ∨ i = 1 ∨ i = 2 ∨ i = 3 ∨ i = 4 ∨ i = 5 ∨ i = 6 ∨ i = 7 ∨ i = 8 := by omega
    rcases h with h | h | h | h | h | h | h | h | h <;> subst h
    · show Int32.ofNat x = Int32.ofNat ((Int32.ofNat x).toInt.toNat)
      rw [e x (by omega)]
    · show Int32.ofNat y = Int32.ofNat ((Int32.ofNat y).toInt.toNat)
      rw [e y (by omega)]
    · show Int32.ofNat y1 = Int32.ofNat ((Int32.ofNat y1).toInt.toNat)
      rw [e y1 (by omega)]
    · show Int32.ofNat s1 = Int32.ofNat ((Int32.ofNat s1).toInt.toNat)
      rw [e s1 (by omega)]
    · show Int32.ofNat y2 = Int32.ofNat ((Int32.ofNat y2).toInt.toNat)
      rw [e y2 (by omega)]
    · show Int32.ofNat s2 = Int32.ofNat ((Int32.ofNat s2).toInt.toNat)
      rw [e s2 (by omega)]
    · rfl
    · show b 7 = Int32.ofNat ((b 7).toInt.toNat)
      rw [b7]
      rfl
    · show b 8 = Int32.ofNat ((b 8).toInt.toNat)
      rw [b8]
      rfl
  · show (Int32.ofNat x).toInt.toNat < 120
    rw [e x (by omega)]; omega
  · show (Int32.ofNat y).toInt.toNat < 60
    rw [e y (by omega)]; omega
  · show (Int32.ofNat y1).toInt.toNat < (Int32.ofNat y2).toInt.toNat
    rw [e y1 (by omega), e y2 (by omega)]; omega
  · show (Int32.ofNat y2).toInt.toNat < 3000
    rw [e y2 (by omega)]; omega
  · show 1 ≤ (Int32.ofNat s1).toInt.toNat
    rw [e s1 (by omega)]; omega
  · show (Int32.ofNat s1).toInt.toNat < (Int32.ofNat s2).toInt.toNat
    rw [e s1 (by omega), e s2 (by omega)]; omega
  · show (Int32.ofNat s2).toInt.toNat ≤ 9999
    rw [e s2 (by omega)]; omega
  · show 1 ≤ (10 : Int32).toInt.toNat
    decide
  · show (10 : Int32).toInt.toNat ≤ 10
    decide
  · show (b 7).toInt.toNat ≤ 9999
    rw [b7]; decide
  · show (b 8).toInt.toNat ≤ 9999
    rw [b8]; decide
  · show (b 7).toInt.toNat = 0 ↔ (b 8).toInt.toNat = 0
    rw [b7, b8]
end CUP
section CL
variable {X : gs_E} {d d' T S TR L : Nat} {by_ : Nat → Nat} {m0 r0 mx mr : gs_M} {A B : Nat → Nat → Int32} {c1 c2 E : Nat → Int32} {c v p q n0 n1 n2 n3 n5 n6 n7 n8 : Nat} {Q : gs_M → gs_M → Prop}
/-- one cloud more -/
theorem rl_cloud {ca cb : Nat → Int32} {E' : Nat → Int32} (rl : gs_Rl A B c1 E n0 n1 n2 n3 n5 n6 n7 n8) (hn : n5 < 10) (hg : cRl ca cb) (hE : ∀ i, i ≠ 11 → E' i = E i) : gs_Rl (gs_up2 (owA A (39 + n5) ca) 0 9 (Int32.ofNat (n5 + 1))) (inc 5 (owB B 14 (90 + 9 * n5) 9 cb)) c1 E' n0 n1 n2 n3 (n5 + 1) n6 n7 n8 := by
  obtain ⟨⟨⟨a0, a1, a2, a3, a5, a6, a7, a8⟩, ⟨b0, b1, b2, b3, b5, b6, b7, b8⟩, bd⟩, rR, rP, rB, rG, rC, rW, rK, rS, rU, u4, u43⟩ := rl
  have hA : ∀ a, a ≠ 0 → a ≠ 39 + n5 → gs_up2 (owA A (39 + n5) ca) 0 9 (Int32.ofNat (n5 + 1)) a = A a := fun a h1 h2 => by rw [up2_row h1, sA_n h2]
  have hA0 : ∀ i, i ≠ 9 → gs_up2 (owA A (39 + n5) ca) 0 9 (Int32.ofNat (n5 + 1)) 0 i = A 0 i := fun i h1 => by rw [up2_n (Or.inr h1), sA_n (by omega)]
  have hB : ∀ b, b ≠ 1 → b ≠ 14 → inc 5 (owB B 14 (90 + 9 * n5) 9 cb) b = B b := fun b h1 h2 => by
    unfold inc
    rw [up2_row h1, sB_n h2]
  have hB1 : ∀ k, k ≠ 5 → inc 5 (owB B 14 (90 + 9 * n5) 9 cb) 1 k = B 1 k := fun k h1 => by
    unfold inc
    rw [up2_n (Or.inr h1), sB_n (by decide)]
  have hB13 : ∀ g i, g ≠ n5 → i < 9 → bc (inc 5 (owB B 14 (90 + 9 * n5) 9 cb)) g i = bc B g i := fun g i h1 h2 => by
    unfold bc inc
    rw [up2_n (Or.inl (by decide)), sB_o (by omega)]
  have hBn : ∀ i, i < 9 → bc (inc 5 (owB B 14 (90 + 9 * n5) 9 cb)) n5 i = cb i := fun i h2 => by
    unfold bc inc
    rw [up2_n (Or.inl (by decide)), sB_e h2]
  refine ⟨⟨⟨?_, ?_, ?_, ?_, ?_, ?_, ?_, ?_⟩, ⟨?_, ?_, ?_, ?_, ?_, ?_, ?_, ?_⟩, bd.1, bd.2.1, bd.2.2.1, bd.2.2.2.1, by omega, bd.2.2.2.2.2⟩, rRR_c rR (hA _ (by decide) (by omega)) (hA _ (by decide) (by omega)) (hA _ (by decide) (by omega)) (hB _ (by decide) (by decide)) (hB _ (by decide) (by decide)) (hB _ (by decide) (by decide)), rRP_c rP (hA _ (by decide) (by omega)) (hA _ (by decide) (by omega)) (hA _ (by decide) (by omega)) (hB _ (by decide) (by decide)) (hB _ (by decide) (by decide)) (hB _ (by decide) (by decide)), rRB_c rB (hA _ (by decide) (by omega)) (hA _ (by decide) (by omega)) (hB _ (by decide) (by decide)) (hB _ (by decide) (by decide)), rRG_c rG (fun g hg => hA _ (by omega) (by omega)) (fun g i hg hi => ?_) (Nat.le_refl _) (Nat.le_refl _) (Nat.le_refl _), ?_, rRW_c rW (hA _ (by decide) (by omega)) (hA _ (by decide) (by omega)) (hA _ (by decide) (by omega)) (hB _ (by decide) (by decide)), rRK_c rK (hA _ (by decide) (by omega)) (hA _ (by decide) (by omega)) (hB _ (by decide) (by decide)) (hB _ (by decide) (by decide)) (hB _ (by decide) (by decide)), rRS_c rS (hA _ (by decide) (by omega)) (hA _ (by decide) (by omega)) (hA _ (by decide) (by omega)) (hB _ (by decide) (by decide)) (hB _ (by decide) (by decide)) (hB _ (by decide) (by decide)) (hB _ (by decide) (by decide)) (hB _ (by decide) (by decide)) (hB _ (by decide) (by decide)) (hB _ (by decide) (by decide)), rRU_c rU (hA0 _ (by decide)) (hA0 _ (by decide)) (hA0 _ (by decide)) (hA0 _ (by decide)) (hB _ (by decide) (by decide)) rfl (hE 17 (by decide)), u4, ?_⟩
  · rw [hA _ (by decide) (by omega)]; exact a0
  · rw [hA _ (by decide) (by omega)]; exact a1
  · rw [hA _ (by decide) (by omega)]; exact a2
  · rw [hA0 _ (by decide)]; exact a3
  · exact up2_e _ _ _ _
  · rw [hA _ (by decide) (by omega)]; exact a6
  · rw [hA _ (by decide) (by omega)]; exact a7
  · rw [hA _ (by decide) (by omega)]; exact a8
  · rw [hB1 _ (by decide)]; exact b0
  · rw [hB1 _ (by decide)]; exact b1
  · rw [hB1 _ (by decide)]; exact b2
  · rw [hB1 _ (by decide)]; exact b3
  · unfold inc
    rw [up2_e, sB_n (by decide)]
    exact n_s1 b5
  · rw [hB1 _ (by decide)]; exact b6
  · rw [hB1 _ (by decide)]; exact b7
  · rw [hB1 _ (by decide)]; exact b8
  · show inc 5 (owB B 14 (90 + 9 * n5) 9 cb) 13 _ = B 13 _
    rw [hB _ (by decide) (by decide)]
  · intro g hg'
    by_cases e : g = n5
    · subst e
      have ea : gs_up2 (owA A (39 + g) ca) 0 9 (Int32.ofNat (g + 1)) (39 + g) = ca := by
        rw [up2_row (by omega)]
        exact funext (fun i => sA_e)
      rw [ea]
      exact cRl_c hg hBn
    · rw [hA _ (by omega) (by omega)]
      exact cRl_c (rC g (by omega)) (fun i hi => hB13 g i e hi)
  · rw [hE 43 (by decide)]; exact u43
/-- a word of the language that must come -/
theorem j_takeK {k : Nat} {a b : Int32} {Kx Kr : gs_M → gs_O} (cx : gs_Cn X T S TR L by_ m0 r0) (st : gs_Sg S L m0 r0 A B c1 c2 E mx mr c v p q) (hk : k < 32) (ea : a = Int32.ofNat k) (eb : b = Int32.ofNat (pmo k))
    (hK : ∀ mx' mr' c' v' p' q', p < p' → gs_Sg S L m0 r0 A B c1 c2 E mx' mr' c' v' p' q' → gs_jQ S m0 r0 Q (Kx mx') (Kr mr')) :
    gs_jQ S m0 r0 Q (gs_bU (gs_exec X (d + 4) 44 [.inr (.inr 1), .inl a] mx) gs_th Kx) (gs_bI (gs_exec X (d' + 3) 185 [.inr (.inr 116), .inl b] mr) gs_th (fun x2 m1 => if x2 = 0 then gs_fld m1 116 11 (gs_bI (gs_exec X (d' + 3) 178 [.inr (.inr 116), .inl (1 : Int32)] m1) gs_th (fun x4 m3 => gs_bt x4 (gs_rI x4 m3))) else gs_fld m1 116 11 (gs_bU (gs_exec X (d' + 3) 182 [.inr (.inr 116)] m1) gs_th Kr))) := by
  have sx := st_sx cx st
  have sr := st_sr cx st
  have t := st.2.2.2.2.2.2.2
  have hc := t.1
  have k5 : mx.2.1 3 5 = Int32.ofNat c := t.2.1
  have ec : Int32.ofNat c = Int32.ofNat k ↔ c = k := n_eq (by omega) (by omega)
  rw [eq_X5_take, r_isKey sr t hk eb, gs_bI_s, b2_if, ea]
  simp only [yf1 sx, yf3 sx, y_18 sx, gs_nn_s, k5, fl_116 sr]
  by_cases z : c = k
  · rw [if_pos (ec.mpr z), if_pos z, bU_bU]
    exact jadv cx st (fun mx' mr' c' v' p' q' le s => hK mx' mr' c' v' p' q' (by have := st_pq st (by omega); omega) s)
  · rw [if_neg (fun y => z (ec.mp y)), if_neg z, bU_bU]
    refine jfail cx st (fun m => ?_)
    rfl
theorem j_takeS {Kx Kr : gs_M → gs_O} (cx : gs_Cn X T S TR L by_ m0 r0) (st : gs_Sg S L m0 r0 A B c1 c2 E mx mr c v p q)
    (hK : ∀ mx' mr' c' v' p' q', p < p' → gs_Sg S L m0 r0 A B c1 c2 E mx' mr' c' v' p' q' → gs_jQ S m0 r0 Q (Kx mx') (Kr mr')) :
    gs_jQ S m0 r0 Q (gs_bU (gs_exec X (d + 4) 44 [.inr (.inr 1), .inl (36 : Int32)] mx) gs_th Kx) (gs_bI (gs_exec X (d' + 3) 186 [.inr (.inr 116), .inl (59 : Int32)] mr) gs_th (fun x2 m1 => if x2 = 0 then gs_fld m1 116 11 (gs_bI (gs_exec X (d' + 3) 178 [.inr (.inr 116), .inl (1 : Int32)] m1) gs_th (fun x4 m3 => gs_bt x4 (gs_rI x4 m3))) else gs_fld m1 116 11 (gs_bU (gs_exec X (d' + 3) 182 [.inr (.inr 116)] m1) gs_th Kr))) := by
  have sx := st_sx cx st
  have sr := st_sr cx st
  have t := st.2.2.2.2.2.2.2
  have hc := t.1
  have k5 : mx.2.1 3 5 = Int32.ofNat c := t.2.1
  have ec : Int32.ofNat c = (36 : Int32) ↔ c = 36 := n_eq (b := 36) (by omega) (by decide)
  rw [eq_X5_take, r_isSign (k := 36) (a := (59 : Int32)) sr t (Or.inl rfl) rfl, gs_bI_s, b2_if]
  simp only [yf1 sx, yf3 sx, y_18 sx, gs_nn_s, k5, fl_116 sr]
  by_cases z : c = 36
  · rw [if_pos (ec.mpr z), if_pos z, bU_bU]
    exact jadv cx st (fun mx' mr' c' v' p' q' le s => hK mx' mr' c' v' p' q' (by have := st_pq st (by omega); omega) s)
  · rw [if_neg (fun y => z (ec.mp y)), if_neg z, bU_bU]
    refine jfail cx st (fun m => ?_)
    rfl
abbrev clX (X : gs_E) (d S F g came k : Nat) (m : gs_M) : gs_O := gs_iter X (gs_exec X (d + 4)) gT_X5_readCloud F 141 [(0, .inr (.inr 1)), (1, .inr (.inr (S + (39 + g)))), (2, .inl (Int32.ofNat came)), (3, .inl (Int32.ofNat k))] [] m
abbrev clR (X : gs_E) (d F g sl tk : Nat) (m : gs_M) : gs_O := gs_iter X (gs_exec X (d + 3)) gT_X12_cloudLine F 218 [(0, .inr (.inr 116)), (1, .inl (Int32.ofNat (90 + 9 * g))), (2, .inl (Int32.ofNat sl)), (3, .inl (Int32.ofNat tk))] [] m
abbrev cl9 (X : gs_E) (d F g sl tk kd : Nat) (m : gs_M) : gs_O := gs_iter X (gs_exec X (d + 3)) gT_X12_cloudLine F 295 [(0, .inr (.inr 116)), (1, .inl (Int32.ofNat (90 + 9 * g))), (2, .inl (Int32.ofNat sl)), (4, .inl (Int32.ofNat kd))] [.inl (Int32.ofNat tk)] m
theorem r_cl_no {F g sl tk : Nat} (sr : gs_Sh mr T) (t : gs_TK mx mr L c v p q) (h1 : c ≠ 15) (h2 : c ≠ 16) : clR X d' (F + 1) g sl tk mr = gs_rI 1 mr := by
  unfold clR
  rw [eq_X12_cloudLine_218, fl_116 sr, r_isKey (k := 15) (a := (17 : Int32)) sr t (by decide) rfl, gs_bI_s, b2_if, if_neg h1, fl_116 sr, r_isKey (k := 16) (a := (18 : Int32)) sr t (by decide) rfl, gs_bI_s, b2_if, if_neg h2, gs_bt1]
theorem r_cl_15 {F g tk : Nat} (sr : gs_Sh mr T) (t : gs_TK mx mr L c v p q) (h1 : c = 15) (ht : tk < 2) : ∃ F', F ≤ F' ∧ F' ≤ F + 1 ∧ clR X d' (F + 5) g 0 tk mr = cl9 X d' F' g 1 tk 1 mr := by
  unfold clR cl9
  rw [eq_X12_cloudLine_218, fl_116 sr, r_isKey (k := 15) (a := (17 : Int32)) sr t (by decide) rfl, gs_bI_s, b2_if, if_pos h1, eq_X12_cloudLine_236, fl_116 sr, r_isKey (k := 15) (a := (17 : Int32)) sr t (by decide) rfl, gs_bI_s, b2_if, if_pos h1]
  have e : b2 (c = 15) = 1 := if_pos h1
  rw [e, if_pos (by decide), eq_X12_cloudLine_266, if_pos (by decide), if_neg (by decide), eq_X12_cloudLine_275]
  have h : tk = 0 ∨ tk = 1 := by omega
  rcases h with h | h
  · subst h
    rw [if_pos (by decide), if_neg (by decide)]
    exact ⟨F + 1, by omega, by omega, rfl⟩
  · subst h
    rw [if_neg (by decide), eq_X12_cloudLine_290]
    exact ⟨F, by omega, by omega, rfl⟩
theorem r_cl_15f {F g tk : Nat} (sr : gs_Sh mr T) (t : gs_TK mx mr L c v p q) (h1 : c = 15) : clR X d' (F + 3) g 1 tk mr = gs_bI (gs_exec X (d' + 3) 178 [.inr (.inr 116), .inl (3 : Int32)] mr) gs_th (fun x2 m1 => gs_bt x2 (gs_rI x2 m1)) := by
  unfold clR
  rw [eq_X12_cloudLine_218, fl_116 sr, r_isKey (k := 15) (a := (17 : Int32)) sr t (by decide) rfl, gs_bI_s, b2_if, if_pos h1, eq_X12_cloudLine_236, fl_116 sr, r_isKey (k := 15) (a := (17 : Int32)) sr t (by decide) rfl, gs_bI_s, b2_if, if_pos h1, if_neg (by decide), eq_X12_cloudLine_260, fl_116 sr]
theorem r_cl_16 {F g sl : Nat} (sr : gs_Sh mr T) (t : gs_TK mx mr L c v p q) (h1 : c = 16) (hs : sl < 2) : ∃ F', F ≤ F' ∧ F' ≤ F + 1 ∧ clR X d' (F + 5) g sl 0 mr = cl9 X d' F' g sl 1 0 mr := by
  unfold clR cl9
  rw [eq_X12_cloudLine_218, fl_116 sr, r_isKey (k := 15) (a := (17 : Int32)) sr t (by decide) rfl, gs_bI_s, b2_if, if_neg (by omega), fl_116 sr, r_isKey (k := 16) (a := (18 : Int32)) sr t (by decide) rfl, gs_bI_s, b2_if, if_pos h1, eq_X12_cloudLine_236, fl_116 sr, r_isKey (k := 15) (a := (17 : Int32)) sr t (by decide) rfl, gs_bI_s, b2_if, if_neg (by omega)]
  have e : b2 (c = 15) = 0 := if_neg (by omega)
  rw [e, if_pos (by decide), eq_X12_cloudLine_266]
  have h : sl = 0 ∨ sl = 1 := by omega
  rcases h with h | h
  · subst h
    rw [if_pos (by decide), if_pos (by decide), if_pos (by decide), if_pos (by decide), eq_X12_cloudLine_290]
    exact ⟨F + 1, by omega, by omega, rfl⟩
  · subst h
    rw [if_neg (by decide), eq_X12_cloudLine_275, if_pos (by decide), if_pos (by decide), eq_X12_cloudLine_290]
    exact ⟨F, by omega, by omega, rfl⟩
theorem r_cl_16f {F g sl : Nat} (sr : gs_Sh mr T) (t : gs_TK mx mr L c v p q) (h1 : c = 16) : clR X d' (F + 3) g sl 1 mr = gs_bI (gs_exec X (d' + 3) 178 [.inr (.inr 116), .inl (3 : Int32)] mr) gs_th (fun x2 m1 => gs_bt x2 (gs_rI x2 m1)) := by
  unfold clR
  rw [eq_X12_cloudLine_218, fl_116 sr, r_isKey (k := 15) (a := (17 : Int32)) sr t (by decide) rfl, gs_bI_s, b2_if, if_neg (by omega), fl_116 sr, r_isKey (k := 16) (a := (18 : Int32)) sr t (by decide) rfl, gs_bI_s, b2_if, if_pos h1, eq_X12_cloudLine_236, fl_116 sr, r_isKey (k := 15) (a := (17 : Int32)) sr t (by decide) rfl, gs_bI_s, b2_if, if_neg (by omega), if_neg (by decide), eq_X12_cloudLine_260, fl_116 sr]
theorem clb : ∀ sl, sl < 2 → ∀ tk, tk < 2 → ((Int32.ofNat (sl * 32768 + tk * 65536) &&& ((1 : Int32) <<< (Int32.ofNat 15 &&& 31)) = 0) ↔ sl = 0) ∧ ((Int32.ofNat (sl * 32768 + tk * 65536) &&& ((1 : Int32) <<< (Int32.ofNat 16 &&& 31)) = 0) ↔ tk = 0) ∧ Int32.ofNat (sl * 32768 + tk * 65536) ||| ((1 : Int32) <<< (Int32.ofNat 15 &&& 31)) = Int32.ofNat (1 * 32768 + tk * 65536) ∧ Int32.ofNat (sl * 32768 + tk * 65536) ||| ((1 : Int32) <<< (Int32.ofNat 16 &&& 31)) = Int32.ofNat (sl * 32768 + 1 * 65536) := by decide +kernel
theorem j_cll (cx : gs_Cn X T S TR L by_ m0 r0) (rl : gs_Rl A B c1 E n0 n1 n2 n3 n5 n6 n7 n8) (hn : n5 < 10) : ∀ (r sl tk F F' : Nat) (ca cb E' : Nat → Int32) (mx mr : gs_M) (c v p' q' : Nat), sl + tk + r = 2 → sl < 2 → tk < 2 → r < F → 20 * r + 10 < F' → p < p' → (∀ i, i ≠ 11 → E' i = E i) → gs_Sg S L m0 r0 (owA A (39 + n5) ca) (owB B 14 (90 + 9 * n5) 9 cb) c1 c2 E' mx mr c v p' q' → cRl ca cb →
    gs_jQ S m0 r0 (gs_Le S L m0 r0 p (inc 5)) (clX X d S F n5 (sl * 32768 + tk * 65536) (sl + tk) mx) (clR X d' F' n5 sl tk mr) := by
  have rl0 := rl
  obtain ⟨⟨⟨a0, a1, a2, a3, a5, a6, a7, a8⟩, ⟨b0, b1', b2', b3, b5, b6, b7, b8⟩, bd⟩, -⟩ := rl
  have hr49 : 39 + n5 < 49 := by omega
  have C : ∀ i, i < 9 → ∀ (M : gs_M), gs_Sh M TR → ∀ K : Nat → gs_O, gs_ix M 133 13 (Int32.ofNat (90 + 9 * n5 + i)) K = K (90 + 9 * n5 + i) := fun i hi M hM K => gs_ixn hM.1 rfl (show 90 + 9 * n5 + i < 180 by omega)
  have rs : ∀ i, rsVb (119 + 14) (90 + 9 * n5 + i) := fun i => by unfold rsVb upr; omega
  have e6 : Int32.ofNat (90 + 9 * n5) + (6 : Int32) = Int32.ofNat (90 + 9 * n5 + 6) := n_add _ 6
  have e7 : Int32.ofNat (90 + 9 * n5) + (7 : Int32) = Int32.ofNat (90 + 9 * n5 + 7) := n_add _ 7
  have e8 : Int32.ofNat (90 + 9 * n5) + (8 : Int32) = Int32.ofNat (90 + 9 * n5 + 8) := n_add _ 8
  have i01 : ¬ Int32.ofNat 1 = 0 := by decide
  have i00 : Int32.ofNat 0 = 0 := by decide
  intro r
  induction r with
  | zero =>
    intro sl tk F F' ca cb E' mx mr c v p' q' hr h1 h2 hF hF' hp hE st hg
    obtain ⟨F, rfl⟩ : ∃ y, F = y + 1 := ⟨F - 1, by omega⟩
    obtain ⟨F', rfl⟩ : ∃ y, F' = y + 3 := ⟨F' - 3, by omega⟩
    have es : sl = 1 := by omega
    have et : tk = 1 := by omega
    subst es
    subst et
    have sx := st_sx cx st
    have sr := st_sr cx st
    have t := st.2.2.2.2.2.2.2
    have hc := t.1
    have k5 : mx.2.1 3 5 = Int32.ofNat c := t.2.1
    obtain ⟨d1, d2, d3, d4⟩ := clb 1 (by decide) 1 (by decide)
    have e15 : Int32.ofNat c = (15 : Int32) ↔ c = 15 := n_eq (b := 15) (by omega) (by decide)
    have e16 : Int32.ofNat c = (16 : Int32) ↔ c = 16 := n_eq (b := 16) (by omega) (by decide)
    unfold clX
    rw [eq_X5_readCloud_141, if_pos (by decide)]
    simp only [yf1 sx, y_18 sx, y_11 sx, gs_nn_s, yf3 sx, yt0 sx, k5]
    by_cases z1 : c = 15
    · rw [r_cl_15f (F := F') sr t z1, if_pos (e15.mpr z1), if_pos (e15.mpr z1), eq_X5_tellOnce]
      simp only [yf1 sx, y_18 sx, gs_nn_s, yf3 sx, k5, z1]
      rw [if_neg (fun y => absurd (d1.mp y) (by decide)), bI_bU]
      refine jfail cx st (fun m => ?_)
      rfl
    by_cases z2 : c = 16
    · rw [r_cl_16f (F := F') sr t z2, if_neg (fun y => z1 (e15.mp y)), if_pos (e16.mpr z2), if_neg (fun y => z1 (e15.mp y)), eq_X5_tellOnce]
      simp only [yf1 sx, y_18 sx, gs_nn_s, yf3 sx, k5, z2]
      rw [if_neg (fun y => absurd (d2.mp y) (by decide)), bI_bU]
      refine jfail cx st (fun m => ?_)
      rfl
    have ax : mx.2.1 S 9 = Int32.ofNat n5 := (st.2.2.1 0 9).trans ((congrFun (sA_n (by omega)) 9).trans a5)
    have stz : gs_Sg S L m0 r0 (gs_up2 (owA A (39 + n5) ca) 0 9 (Int32.ofNat (n5 + 1))) (owB B 14 (90 + 9 * n5) 9 cb) c1 c2 E' (gs_sI mx S 9 (Int32.ofNat (n5 + 1))) mr c v p' q' := st_wx (a := 0) (i := 9) (x := Int32.ofNat (n5 + 1)) cx st (by decide)
    rw [show F' + 3 = (F' + 2) + 1 from rfl, r_cl_no sr t z1 z2, if_neg (fun y => z1 (e15.mp y)), if_neg (fun y => z2 (e16.mp y)), ax, gs_ns]
    exact Or.inr ⟨_, _, rfl, rfl, _, _, _, _, _, _, _, _, _, n0, n1, n2, n3, n5 + 1, n6, n7, n8, hp, stz, rl_cloud rl0 hn hg hE⟩
  | succ r ih =>
    intro sl tk F F' ca cb E' mx mr c v p' q' hr h1 h2 hF hF' hp hE st hg
    obtain ⟨F, rfl⟩ : ∃ y, F = y + 1 := ⟨F - 1, by omega⟩
    have sx := st_sx cx st
    have sr := st_sr cx st
    have t := st.2.2.2.2.2.2.2
    have hc := t.1
    have k5 : mx.2.1 3 5 = Int32.ofNat c := t.2.1
    obtain ⟨d1, d2, d3, d4⟩ := clb sl h1 tk h2
    have e15 : Int32.ofNat c = (15 : Int32) ↔ c = 15 := n_eq (b := 15) (by omega) (by decide)
    have e16 : Int32.ofNat c = (16 : Int32) ↔ c = 16 := n_eq (b := 16) (by omega) (by decide)
    have l3 : Int32.ofNat (sl + tk) < (3 : Int32) ↔ sl + tk < 3 := gs_nlt (b := 3) (by omega) (by decide)
    unfold clX
    rw [eq_X5_readCloud_141, if_pos (l3.mpr (by omega))]
    simp only [yf1 sx, y_18 sx, y_11 sx, gs_nn_s, yf3 sx, yt0 sx, k5]
    by_cases z1 : c = 15
    · rw [if_pos (e15.mpr z1), if_pos (e15.mpr z1), eq_X5_tellOnce]
      simp only [yf1 sx, y_18 sx, gs_nn_s, yf3 sx, k5, z1]
      by_cases y : sl = 0
      · obtain ⟨F2, rfl⟩ : ∃ y, F' = y + 5 := ⟨F' - 5, by omega⟩
        subst y
        obtain ⟨F3, g1, g2, eR⟩ := r_cl_15 (X := X) (d' := d') (F := F2) (g := n5) sr t z1 h2
        obtain ⟨F4, rfl⟩ : ∃ y, F3 = y + 2 := ⟨F3 - 2, by omega⟩
        rw [eR, if_pos (d1.mpr rfl), bI_bU, d3]
        unfold cl9
        rw [eq_X12_cloudLine_295, fl_116 sr]
        refine jadv cx st (fun mx1 mr1 k1 v1 p1 q1 le1 st1 => ?_)
        have sx1 := st_sx cx st1
        have sr1 := st_sr cx st1
        have pq := st_pq st (by omega)
        simp only [gs_bI_s, if_neg i01, if_neg i10, yf1 sx1, fl_116 sr1]
        refine j_number (lo := 1) (hi := 10) cx st1 rfl rfl (by decide) (by decide) (fun m => kr0) (fun w2 mx2 mr2 k2 v2 p2 q2 l2 h2' le2 st2 => ?_)
        have sx2 := st_sx cx st2
        have sr2 := st_sr cx st2
        have g2' := st_got st2
        simp only [if_neg i10, if_neg i01, ytc sx2 hn, fl_116 sr2, sh_116_27 sr2, gs_nn_s, gs_ns]
        rw [eq_X12_cloudLine_340, fl_116 sr2, e6, C 6 (by decide) mr2 sr2, if_neg i01, g2']
        have nx := ih 1 tk F F4 _ _ _ _ _ k2 v2 p2 q2 (by omega) (by decide) h2 (by omega) (by omega) (by omega) (fun j hj => (upf_n hj).trans (hE j hj)) (st_wb (st_wg cx st2 hr49 6 (Int32.ofNat w2)) 6 (Int32.ofNat w2) (by decide) (rs 6)) (cRl_6 hg (by omega) (by omega))
        unfold clX clR at nx
        rw [show 0 + tk + 1 = 1 + tk by omega]
        exact nx
      · obtain ⟨F2, rfl⟩ : ∃ y, F' = y + 3 := ⟨F' - 3, by omega⟩
        have es : sl = 1 := by omega
        subst es
        rw [r_cl_15f (F := F2) sr t z1, if_neg (fun y' => y (d1.mp y')), bI_bU]
        refine jfail cx st (fun m => ?_)
        rfl
    by_cases z2 : c = 16
    · rw [if_neg (fun y => z1 (e15.mp y)), if_pos (e16.mpr z2), if_neg (fun y => z1 (e15.mp y)), eq_X5_tellOnce]
      simp only [yf1 sx, y_18 sx, gs_nn_s, yf3 sx, k5, z2]
      by_cases y : tk = 0
      · obtain ⟨F2, rfl⟩ : ∃ y, F' = y + 5 := ⟨F' - 5, by omega⟩
        subst y
        obtain ⟨F3, g1, g2, eR⟩ := r_cl_16 (X := X) (d' := d') (F := F2) (g := n5) sr t z2 h1
        obtain ⟨F4, rfl⟩ : ∃ y, F3 = y + 2 := ⟨F3 - 2, by omega⟩
        rw [eR, if_pos (d2.mpr rfl), bI_bU, d4]
        unfold cl9
        rw [eq_X12_cloudLine_295, fl_116 sr]
        refine jadv cx st (fun mx1 mr1 k1 v1 p1 q1 le1 st1 => ?_)
        have sx1 := st_sx cx st1
        have sr1 := st_sr cx st1
        have pq := st_pq st (by omega)
        simp only [gs_bI_s, if_pos i00, ite_true, yf1 sx1, fl_116 sr1]
        refine j_number (lo := 1) (hi := 9999) cx st1 rfl rfl (by decide) (by decide) (fun m => kr0) (fun w2 mx2 mr2 k2 v2 p2 q2 l2 h2' le2 st2 => ?_)
        have sx2 := st_sx cx st2
        have sr2 := st_sr cx st2
        have g2' := st_got st2
        have st3 := st_wb (st_wg cx st2 hr49 7 (Int32.ofNat w2)) 7 (Int32.ofNat w2) (by decide) (rs 7)
        simp only [if_neg i10, if_pos i00, ytc sx2 hn, fl_116 sr2, sh_116_27 sr2, gs_nn_s]
        rw [eq_X12_cloudLine_340, fl_116 sr2, e7, C 7 (by decide) mr2 sr2, if_pos i00, g2']
        simp only [gs_fld_sI, yf1 sx2, fl_116 sr2]
        refine j_number (lo := 1) (hi := 9999) cx st3 rfl rfl (by decide) (by decide) (fun m => kr0) (fun w4 mx4 mr4 k4 v4 p4 q4 l4 h4' le4 st4 => ?_)
        have sx4 := st_sx cx st4
        have sr4 := st_sr cx st4
        have g4' := st_got st4
        simp only [if_neg i10, ytc sx4 hn, fl_116 sr4, sh_116_27 sr4, gs_nn_s, e8, C 8 (by decide) mr4 sr4, g4', gs_ns]
        have nx := ih sl 1 F F4 _ _ _ _ _ k4 v4 p4 q4 (by omega) h1 (by decide) (by omega) (by omega) (by omega) (fun j hj => (upf_n hj).trans ((upf_n hj).trans (hE j hj))) (st_wb (st_wg cx st4 hr49 8 (Int32.ofNat w4)) 8 (Int32.ofNat w4) (by decide) (rs 8)) (cRl_78 hg (by omega) (by omega) (by omega) (by omega))
        unfold clX clR at nx
        exact nx
      · obtain ⟨F2, rfl⟩ : ∃ y, F' = y + 3 := ⟨F' - 3, by omega⟩
        have es : tk = 1 := by omega
        subst es
        rw [r_cl_16f (F := F2) sr t z2, if_neg (fun y' => y (d2.mp y')), bI_bU]
        refine jfail cx st (fun m => ?_)
        rfl
    have ax : mx.2.1 S 9 = Int32.ofNat n5 := (st.2.2.1 0 9).trans ((congrFun (sA_n (by omega)) 9).trans a5)
    have stz : gs_Sg S L m0 r0 (gs_up2 (owA A (39 + n5) ca) 0 9 (Int32.ofNat (n5 + 1))) (owB B 14 (90 + 9 * n5) 9 cb) c1 c2 E' (gs_sI mx S 9 (Int32.ofNat (n5 + 1))) mr c v p' q' := st_wx (a := 0) (i := 9) (x := Int32.ofNat (n5 + 1)) cx st (by decide)
    obtain ⟨F2, rfl⟩ : ∃ y, F' = y + 1 := ⟨F' - 1, by omega⟩
    rw [r_cl_no sr t z1 z2, if_neg (fun y => z1 (e15.mp y)), if_neg (fun y => z2 (e16.mp y)), ax, gs_ns]
    exact Or.inr ⟨_, _, rfl, rfl, _, _, _, _, _, _, _, _, _, n0, n1, n2, n3, n5 + 1, n6, n7, n8, hp, stz, rl_cloud rl0 hn hg hE⟩
/-- the reference lays zeros -/
theorem r_cl15z (cx : gs_Cn X T S TR L by_ m0 r0) (hn : n5 < 10) : ∀ (k j F : Nat) (mr : gs_M) (f : Nat → Int32), j + k = 9 → gs_Sg S L m0 r0 A (owB B 14 (90 + 9 * n5) 9 f) c1 c2 E mx mr c v p q → (∀ i, i < j → f i = 0) →
    ∃ mr' f', gs_iter X (gs_exec X d) gT_X12_cloudLine (F + k) 15 [(0, .inr (.inr 116)), (1, .inl (Int32.ofNat (90 + 9 * n5))), (2, .inl (Int32.ofNat j))] [] mr = gs_iter X (gs_exec X d) gT_X12_cloudLine F 15 [(0, .inr (.inr 116)), (1, .inl (Int32.ofNat (90 + 9 * n5))), (2, .inl (Int32.ofNat 9))] [] mr' ∧ gs_Sg S L m0 r0 A (owB B 14 (90 + 9 * n5) 9 f') c1 c2 E mx mr' c v p q ∧ ∀ i, i < 9 → f' i = 0 := by
  intro k
  induction k with
  | zero =>
    intro j F mr f hj st hz
    have ej : j = 9 := by omega
    subst ej
    exact ⟨mr, f, rfl, st, hz⟩
  | succ k ih =>
    intro j F mr f hj st hz
    have sr := st_sr cx st
    have l9 : Int32.ofNat j < (9 : Int32) ↔ j < 9 := gs_nlt (b := 9) (by omega) (by decide)
    rw [show F + (k + 1) = (F + k) + 1 from rfl, eq_X12_cloudLine_15, if_pos (l9.mpr (by omega)), fl_116 sr, sh_116_27 sr, gs_nn_s, n_add, gs_ixn sr.1 (show gs_ok 133 13 153 = true from rfl) (show 90 + 9 * n5 + j < 180 by omega), gs_ns]
    refine ih (j + 1) F _ _ (by omega) (st_wb st j 0 (by omega) (by unfold rsVb upr; omega)) (fun i hi => ?_)
    by_cases e : i = j
    · rw [e, upf_e]
    · rw [upf_n e]
      exact hz i (by omega)
end CL
