/-! event, events, copied. -/
def f_event (n : Nat) (E : Nat → Int32) (x : Int32) : Int32 := if isIx x (Int32.ofNat n) then E x.toInt.toNat else -1
def f_ec (E : Nat → Int32) : Nat → Nat → Int32 → Int32
  | 0, _, v => v
  | q + 1, k, v => if E k = Int32.ofNat k then f_ec E q (k + 1) (v + 1) else f_ec E q (k + 1) v
theorem f_ec_s (E : Nat → Int32) (q k : Nat) (v : Int32) : f_ec E (q + 1) k v = if E k = Int32.ofNat k then f_ec E q (k + 1) (v + 1) else f_ec E q (k + 1) v := rfl
theorem f_ec_tail {E : Nat → Int32} : ∀ (q z k : Nat) (v : Int32), (∀ i, k + q ≤ i → i < k + q + z → ¬ E i = Int32.ofNat i) → f_ec E (q + z) k v = f_ec E q k v
  | 0, 0, _, _, _ => rfl
  | 0, z + 1, k, v, h => by
    rw [Nat.zero_add, f_ec_s, if_neg (h k (by omega) (by omega))]
    have := f_ec_tail (E := E) 0 z (k + 1) v (fun i h1 h2 => h i (by omega) (by omega))
    rw [Nat.zero_add] at this
    exact this
  | q + 1, z, k, v, h => by
    rw [show q + 1 + z = (q + z) + 1 by omega, f_ec_s, f_ec_s, f_ec_tail q z (k + 1) (v + 1) (fun i h1 h2 => h i (by omega) (by omega)), f_ec_tail q z (k + 1) v (fun i h1 h2 => h i (by omega) (by omega))]
theorem f_ec_congr {E E' : Nat → Int32} : ∀ (q k : Nat) (v : Int32), (∀ i, i < k + q → E i = E' i) → f_ec E q k v = f_ec E' q k v
  | 0, _, _, _ => rfl
  | q + 1, k, v, h => by
    rw [f_ec_s, f_ec_s, h k (by omega), f_ec_congr q (k + 1) (v + 1) (fun i hi => h i (by omega)), f_ec_congr q (k + 1) v (fun i hi => h i (by omega))]
theorem evI_uniq {one : Nat → Nat → Prop} {n kn : Nat} {D : Int32} {r r' : Nat → Nat} (h1 : gs_Evs one (trd kn D) n r) (h2 : gs_Evs one (trd kn D) n r') {g : Nat} (hg : g < n) : evI kn D r g = evI kn D r' g := by
  unfold evI
  by_cases t : trd kn D g
  · rw [if_pos t, if_pos t, ev_uniq h1 h2 hg t]
  · rw [if_neg t, if_neg t]
theorem f_event_congr {n : Nat} {E E' : Nat → Int32} {x : Int32} (hn : n ≤ 12) (h : ∀ g, g < n → E g = E' g) : f_event n E x = f_event n E' x := by
  unfold f_event
  by_cases hc : isIx x (Int32.ofNat n)
  · obtain ⟨g, hg, -, eg⟩ := i_gst hc hn
    rw [if_pos hc, if_pos hc, eg, h g hg]
  · rw [if_neg hc, if_neg hc]
/-- from which guest one is copied -/
def f_cp (m : gs_M) (E : Nat → Int32) (g : Nat) : Nat → Nat → Int32 → Int32
  | 0, _, f => f
  | q + 1, k, f => if k = g then f_cp m E g q (k + 1) f else if E k = E g then (if gd m k 12 = -1 then f_cp m E g q (k + 1) f else if f_fr (m.2.1 131) (gd m k 12) 8 (gd m g 12).toInt.toNat = 0 then f_cp m E g q (k + 1) f else if f = -1 then f_cp m E g q (k + 1) (Int32.ofNat k) else if f_slipsA m g k < f_slipsA m g f.toInt.toNat then f_cp m E g q (k + 1) (Int32.ofNat k) else f_cp m E g q (k + 1) f) else f_cp m E g q (k + 1) f
theorem f_cp_s (m : gs_M) (E : Nat → Int32) (g q k : Nat) (f : Int32) : f_cp m E g (q + 1) k f = if k = g then f_cp m E g q (k + 1) f else if E k = E g then (if gd m k 12 = -1 then f_cp m E g q (k + 1) f else if f_fr (m.2.1 131) (gd m k 12) 8 (gd m g 12).toInt.toNat = 0 then f_cp m E g q (k + 1) f else if f = -1 then f_cp m E g q (k + 1) (Int32.ofNat k) else if f_slipsA m g k < f_slipsA m g f.toInt.toNat then f_cp m E g q (k + 1) (Int32.ofNat k) else f_cp m E g q (k + 1) f) else f_cp m E g q (k + 1) f := rfl
def f_copA (m : gs_M) (E : Nat → Int32) (n g : Nat) : Int32 := if E g = -1 then -1 else if gd m g 12 = -1 then -1 else f_cp m E g n 0 (-1)
theorem f_cp_congr {m : gs_M} {E E' : Nat → Int32} {g n : Nat} (hg : g < n) (h : ∀ i, i < n → E i = E' i) : ∀ (q k : Nat) (f : Int32), k + q = n → f_cp m E g q k f = f_cp m E' g q k f
  | 0, _, _, _ => rfl
  | q + 1, k, f, hk => by
    rw [f_cp_s, f_cp_s, h k (by omega), h g hg, f_cp_congr hg h q (k + 1) f (by omega), f_cp_congr hg h q (k + 1) (Int32.ofNat k) (by omega)]
theorem f_copA_congr {m : gs_M} {E E' : Nat → Int32} {g n : Nat} (hg : g < n) (h : ∀ i, i < n → E i = E' i) : f_copA m E n g = f_copA m E' n g := by
  unfold f_copA
  rw [h g hg, f_cp_congr hg h n 0 (-1) (by omega)]
theorem f_cp_in {m : gs_M} {E : Nat → Int32} {g n : Nat} : ∀ (q k : Nat) (f : Int32), k + q = n → (f = -1 ∨ isN f n) → (f_cp m E g q k f = -1 ∨ isN (f_cp m E g q k f) n)
  | 0, _, _, _, hf => hf
  | q + 1, k, f, hk, hf => by
    have a1 := f_cp_in (m := m) (E := E) (g := g) (n := n) q (k + 1) f (by omega) hf
    have a2 := f_cp_in (m := m) (E := E) (g := g) (n := n) q (k + 1) (Int32.ofNat k) (by omega) (Or.inr ⟨k, by omega, rfl⟩)
    rw [f_cp_s]
    split
    · exact a1
    · split
      · split
        · exact a1
        · split
          · exact a1
          · split
            · exact a2
            · split
              · exact a2
              · exact a1
      · exact a1
theorem f_copA_in {m : gs_M} {E : Nat → Int32} {g n : Nat} : f_copA m E n g = -1 ∨ isN (f_copA m E n g) n := by
  unfold f_copA
  split
  · exact Or.inl rfl
  · split
    · exact Or.inl rfl
    · exact f_cp_in n 0 (-1) (by omega) (Or.inl rfl)
theorem f_unl_n (a b : Nat → Int32) : ∀ (q k s : Nat), ∃ z, z ≤ s + q ∧ f_unl a b q k (Int32.ofNat s) = Int32.ofNat z
  | 0, _, s => ⟨s, by omega, rfl⟩
  | q + 1, k, s => by
    rw [f_unl_s]
    split
    · obtain ⟨z, h1, h2⟩ := f_unl_n a b q (k + 1) s
      exact ⟨z, by omega, h2⟩
    · rw [gs_ns]
      obtain ⟨z, h1, h2⟩ := f_unl_n a b q (k + 1) (s + 1)
      exact ⟨z, by omega, h2⟩
theorem f_slipsA_n (m : gs_M) (g k : Nat) : ∃ z, z ≤ 9 ∧ f_slipsA m g k = Int32.ofNat z := by
  obtain ⟨z, h1, h2⟩ := f_unl_n (gd m g) (gd m k) 9 2 0
  exact ⟨z, by omega, h2⟩
theorem f_fr_self {f : Nat → Int32} {n2 o : Nat} (h2 : n2 ≤ 8) (ho : o < n2) (hB : ∀ k, k < n2 → isO (f k) k) : ∀ (q k : Nat), k ≤ o → f_fr f (Int32.ofNat o) q k = 0
  | 0, _, _ => rfl
  | q + 1, k, hk => by
    rw [f_fr_s]
    rcases hB k (by omega) with e | ⟨j, hj, e⟩
    · rw [if_pos e]
    · rw [e, if_neg (gs_neg1 (by omega)), if_neg (fun z => by have := (n_eq (by omega) (by omega)).mp z; omega), f_nat rfl (by omega)]
      exact f_fr_self h2 ho hB q j (by omega)
section COP
variable {X : gs_E} {d : Nat} {m : gs_M} {T n n0 n1 n2 turn kn g : Nat} {D x w : Int32} {E : Nat → Int32}
theorem x_src_loop (hX : gs_Fu X) (hG : gs_Ga m T n n0 n1 n2 turn) (hB : gs_RB m T n2) (hg : g < n) (hE : ∀ k, k < n → m.2.1 17 k = E k) {bg : Nat} (hbg : bg < n2) (ebg : gd m g 12 = Int32.ofNat bg) : ∀ (q k F : Nat) (f v : Int32), k + q = n → q < F → ((f = -1 ∧ v = 2147483647) ∨ ∃ j, j < n ∧ f = Int32.ofNat j ∧ v = f_slipsA m g j) →
    gs_iter X (gs_exec X (d + 2)) gT_X1_sourceOf F 37 [(0, .inr (.inr 16)), (1, .inr (.inr T)), (2, .inl (Int32.ofNat g)), (3, .inr (.inr (T + (27 + g)))), (4, .inl f), (5, .inl v), (6, .inl (Int32.ofNat k))] [] m = gs_rI (f_cp m E g q k f) m := by
  obtain ⟨h, hn3, -, hn, h0, h1, h2, ht, -, bt, hR, hRR, hV⟩ := hG
  have hBO : ∀ k, k < n2 → isO (m.2.1 131 k) k := fun k hk => (hB k hk).2.2
  intro q
  induction q with
  | zero =>
    intro k F f v hk hF hf
    obtain ⟨F, rfl⟩ : ∃ z, F = z + 1 := ⟨F - 1, by omega⟩
    rw [eq_X1_sourceOf_37, fl_t0 h, hn3, if_neg (fun z => by have := (gs_nlt (by omega) (by omega)).mp z; omega)]
    rfl
  | succ q ih =>
    intro k F f v hk hF hf
    obtain ⟨F, rfl⟩ : ∃ z, F = z + 1 := ⟨F - 1, by omega⟩
    have hkn : k < n := by omega
    have rk : m.2.1 (T + (27 + k)) 15 = gd m k 12 := hR k hkn (15, 12) (by decide)
    have rg : m.2.1 (T + (27 + g)) 15 = gd m g 12 := hR g hg (15, 12) (by decide)
    have i1 := ih (k + 1) F f v (by omega) (by omega) hf
    have i2 := ih (k + 1) F (Int32.ofNat k) (f_slipsA m g k) (by omega) (by omega) (Or.inr ⟨k, hkn, rfl, rfl⟩)
    rw [eq_X1_sourceOf_37, fl_t0 h, hn3, if_pos ((gs_nlt (by omega) (by omega)).mpr (by omega)), fl_t0 h, sh_t0_6 h, gs_nn_s, x_gx h (by omega), sh_guest h (by omega), gs_nn_s, fl_16 h, sh_16_0 h, gs_nn_s, x_i17 h (by omega), fl_16 h, gs_nn_s, x_i17 h (by omega), hE k hkn, hE g hg, gs_ns, i1, f_cp_s]
    by_cases eE : E k = E g
    · rw [if_pos eE, fl_tg h (by omega), rk]
      by_cases bk : gd m k 12 = -1
      · rw [if_pos bk]
        by_cases ekg : k = g
        · rw [if_pos ekg]
        · rw [if_neg ekg, if_pos eE, if_pos bk]
      · obtain ⟨-, -, -, -, -, -, -, -, -, -, -, -, -, v12⟩ := hV k hkn
        rcases v12 with v12 | ⟨bq, hbq, ebq⟩
        · exact absurd v12 bk
        · rw [if_neg bk, fl_tg h (by omega), fl_tg h (by omega), fl_t0 h, rg, ebg, ebq, x_isCopyOf (d := d + 1) hX h hB h2 (by omega) hbg, gs_bI_s]
          by_cases ekg : k = g
          · subst ekg
            have ebb : bq = bg := (n_eq (by omega) (by omega)).mp (ebq.symm.trans ebg)
            rw [if_pos rfl, ebb, f_fr_self h2 hbg hBO 8 bg (Nat.le_refl _), if_pos rfl, i1]
          · rw [if_neg ekg, if_pos eE, if_neg (show ¬ Int32.ofNat bq = -1 from gs_neg1 (by omega)), f_nat rfl (show bg < 2147483648 by omega)]
            by_cases fr : f_fr (m.2.1 131) (Int32.ofNat bq) 8 bg = 0
            · rw [if_pos fr, if_pos fr, i1]
            · rw [if_neg fr, if_neg fr, fl_tg h (by omega), x_countUnlike hX h hR hg hkn hn, gs_bI_s, fl_tg h (by omega), x_countUnlike hX h hR hg hkn hn, gs_bI_s, i2]
              obtain ⟨z, hz, ez⟩ := f_slipsA_n m g k
              rcases hf with ⟨f1, f2⟩ | ⟨j, hj, f1, f2⟩
              · rw [if_pos f1, f2, ez, if_pos (show Int32.ofNat z < 2147483647 from (gs_nlt (a := z) (b := 2147483647) (by omega) (by omega)).mpr (by omega))]
              · subst f1
                subst f2
                rw [if_neg (show ¬ Int32.ofNat j = -1 from gs_neg1 (by omega)), f_nat rfl (show j < 2147483648 by omega), i1, gs_if_rI]
    · rw [if_neg eE]
      by_cases ekg : k = g
      · rw [if_pos ekg]
      · rw [if_neg ekg, if_neg eE]
theorem x_sourceOf (hX : gs_Fu X) (hG : gs_Ga m T n n0 n1 n2 turn) (hB : gs_RB m T n2) (hg : g < n) (hE : ∀ k, k < n → m.2.1 17 k = E k) : gs_exec X (d + 3) 14 [.inr (.inr 16), .inr (.inr T), .inl (Int32.ofNat g)] m = gs_rI (f_copA m E n g) m := by
  have hG2 := hG
  obtain ⟨h, hn3, -, hn, h0, h1, h2, ht, -, bt, hR, hRR, hV⟩ := hG
  have rg : m.2.1 (T + (27 + g)) 15 = gd m g 12 := hR g hg (15, 12) (by decide)
  unfold f_copA
  rw [eq_X1_sourceOf, fl_t0 h, sh_t0_6 h, gs_nn_s, x_gx h (by omega), sh_guest h (by omega), gs_nn_s, fl_16 h, sh_16_0 h, gs_nn_s, x_i17 h (by omega), hE g hg]
  by_cases e1 : E g = -1
  · rw [if_pos e1, if_pos e1]
  · rw [if_neg e1, if_neg e1, fl_tg h (by omega), rg]
    by_cases e2 : gd m g 12 = -1
    · rw [if_pos e2, if_pos e2]
    · rw [if_neg e2, if_neg e2]
      obtain ⟨-, -, -, -, -, -, -, -, -, -, -, -, -, v12⟩ := hV g hg
      rcases v12 with v12 | ⟨bg, hbg, ebg⟩
      · exact absurd v12 e2
      · exact x_src_loop (d := d) hX hG2 hB hg hE hbg ebg n 0 X.1 (-1) 2147483647 (by omega) (by unfold gs_Fu at hX; omega) (Or.inl ⟨rfl, rfl⟩)
theorem r_cop_loop (hX : gs_Fu X) (hG : gs_Ga m T n n0 n1 n2 turn) (hB : ∀ k, k < n2 → isO (m.2.1 131 k) k) (hg : g < n) (hE : ∀ k, k < n → m.2.1 151 k = E k) {bg : Nat} (hbg : bg < n2) (ebg : gd m g 12 = Int32.ofNat bg) : ∀ (q k F : Nat) (f : Int32), k + q = n → q < F → (f = -1 ∨ isN f n) →
    gs_iter X (gs_exec X (d + 1)) gT_X12_copiedOf F 30 [(0, .inr (.inr 116)), (1, .inl (Int32.ofNat g)), (2, .inl f), (3, .inl (Int32.ofNat k))] [] m = gs_rI (f_cp m E g q k f) m := by
  obtain ⟨h, -, hn3, hn, h0, h1, h2, -, ht, bt, hR, hRR, hV⟩ := hG
  have i3 : ∀ K : Nat → gs_O, gs_ix m 119 13 3 K = K 3 := fun K => gs_ixe h.1 rfl rfl
  intro q
  induction q with
  | zero =>
    intro k F f hk hF hf
    obtain ⟨F, rfl⟩ : ∃ z, F = z + 1 := ⟨F - 1, by omega⟩
    rw [eq_X12_copiedOf_30, fl_116 h, sh_116_12 h, gs_nn_s, i3, hn3, if_neg (fun z => by have := (gs_nlt (by omega) (by omega)).mp z; omega)]
    rfl
  | succ q ih =>
    intro k F f hk hF hf
    obtain ⟨F, rfl⟩ : ∃ z, F = z + 1 := ⟨F - 1, by omega⟩
    have hkn : k < n := by omega
    have i1 := ih (k + 1) F f (by omega) (by omega) hf
    have i2 := ih (k + 1) F (Int32.ofNat k) (by omega) (by omega) (Or.inr ⟨k, hkn, rfl⟩)
    rw [eq_X12_copiedOf_30, fl_116 h, sh_116_12 h, gs_nn_s, i3, hn3, if_pos ((gs_nlt (by omega) (by omega)).mpr (by omega)), gs_ns, i1, f_cp_s]
    by_cases ekg : k = g
    · rw [if_pos (congrArg Int32.ofNat ekg), if_pos ekg]
    · rw [if_neg (fun z => ekg ((n_eq (by omega) (by omega)).mp z)), if_neg ekg, fl_116 h, sh_116_58 h, gs_nn_s, r_i151 h (by omega), fl_116 h, gs_nn_s, r_i151 h (by omega), hE k hkn, hE g hg]
      by_cases eE : E k = E g
      · rw [if_pos eE, if_pos eE]
        simp only [fl_116 h, sh_116_26 h, gs_nn_s, r_gx h (show k < 12 by omega) (c := 12) (cl := 12) rfl (by decide), r_gx h (show g < 12 by omega) (c := 12) (cl := 12) rfl (by decide)]
        have ebg2 : m.2.1 132 (16 * g + 12) = Int32.ofNat bg := ebg
        obtain ⟨-, -, -, -, -, -, -, -, -, -, -, -, -, v12⟩ := hV k hkn
        rcases v12 with v12 | ⟨bq, hbq, ebq⟩
        · have v2 : m.2.1 132 (16 * k + 12) = -1 := v12
          rw [v2, if_pos (show (-1 : Int32) < 0 by decide), if_pos v12]
        · have v2 : m.2.1 132 (16 * k + 12) = Int32.ofNat bq := ebq
          rw [v2, if_neg (gs_nneg (by omega)), ebg2, r_isFrom (d := d) hX h hB h2 (by omega) hbg, gs_bI_s, ebq, ebg, if_neg (show ¬ Int32.ofNat bq = -1 from gs_neg1 (by omega)), f_nat rfl (show bg < 2147483648 by omega)]
          by_cases fr : f_fr (m.2.1 131) (Int32.ofNat bq) 8 bg = 0
          · rw [if_pos fr, if_pos fr, i1]
          · rw [if_neg fr, if_neg fr]
            by_cases ef : f = -1
            · rw [if_pos ef, if_pos ef, i2]
            · rw [if_neg ef, if_neg ef]
              rcases hf with hf | ⟨j, hj, ej⟩
              · exact absurd hf ef
              · subst ej
                rw [f_nat rfl (show j < 2147483648 by omega), r_slipsOf hX h (by omega) (by omega), gs_bI_s, fl_116 h, r_slipsOf hX h (by omega) (by omega), gs_bI_s, i1, i2, gs_if_rI, fl_116 h]
      · rw [if_neg eE, if_neg eE]
theorem r_copiedOf (hX : gs_Fu X) (hG : gs_Ga m T n n0 n1 n2 turn) (hB : ∀ k, k < n2 → isO (m.2.1 131 k) k) (hg : g < n) (hE : ∀ k, k < n → m.2.1 151 k = E k) (hEn : E g < 0 ↔ E g = -1) : gs_exec X (d + 2) 284 [.inr (.inr 116), .inl (Int32.ofNat g)] m = gs_rI (f_copA m E n g) m := by
  have hG2 := hG
  obtain ⟨h, -, hn3, hn, h0, h1, h2, -, ht, bt, hR, hRR, hV⟩ := hG
  unfold f_copA
  rw [eq_X12_copiedOf, fl_116 h, sh_116_58 h, gs_nn_s, r_i151 h (by omega), hE g hg]
  by_cases e1 : E g = -1
  · rw [if_pos (hEn.mpr e1), if_pos e1]
  · rw [if_neg (fun z => e1 (hEn.mp z)), if_neg e1, fl_116 h, sh_116_26 h, gs_nn_s, r_gx h (show g < 12 by omega) (c := 12) (cl := 12) rfl (by decide)]
    obtain ⟨-, -, -, -, -, -, -, -, -, -, -, -, -, v12⟩ := hV g hg
    rcases v12 with v12 | ⟨bg, hbg, ebg⟩
    · have v2 : m.2.1 132 (16 * g + 12) = -1 := v12
      rw [v2, if_pos (show (-1 : Int32) < 0 by decide), if_pos v12]
    · have v2 : m.2.1 132 (16 * g + 12) = Int32.ofNat bg := ebg
      rw [v2, if_neg (gs_nneg (by omega)), if_neg (show ¬ gd m g 12 = -1 by rw [ebg]; exact gs_neg1 (by omega))]
      exact r_cop_loop (d := d) hX hG2 hB hg hE hbg ebg n 0 X.1 (-1) (by omega) (by unfold gs_Fu at hX; omega) (Or.inl rfl)
theorem evI_lt {r : Nat → Nat} (hn : n ≤ 12) (hkn : kn ≤ n) (hr : gs_root (oneP m turn) (trd kn D) n r) : evI kn D r g < 0 ↔ evI kn D r g = -1 := by
  unfold evI
  by_cases t : trd kn D g
  · have h1 := t.1
    have := (hr g (by omega) t).1
    rw [if_pos t]
    exact ⟨fun z => absurd z (gs_nneg (by omega)), fun z => absurd z (gs_neg1 (by omega))⟩
  · rw [if_neg t]
    decide
theorem ev_ex (hX : gs_Fu X) (hG : gs_Ga m T n n0 n1 n2 turn) (hK : gs_Kn m n kn D) : ∃ r, gs_Evs (oneP m turn) (trd kn D) n r := by
  obtain ⟨M, r, -, -, -, hr⟩ := r_layEvents (X := X) (d := 0) hX hG hK
  exact ⟨r, hr⟩
theorem x_event (hX : gs_Fu X) (hG : gs_Ga m T n n0 n1 n2 turn) (hP : gs_RP m T n n1) (hK : gs_Kn m n kn D) (hC : gs_CE m n turn kn D) : ∃ M r, gs_exec X (d + 7) 137 [.inr (.inr 0), .inl x] m = gs_rI (f_event n (evI kn D r) x) M ∧ gs_Wx rsE m M ∧ gs_CE M n turn kn D ∧ gs_Evs (oneP m turn) (trd kn D) n r := by
  have h := hG.1
  have hn3 := hG.2.1
  have hn := hG.2.2.2.1
  unfold f_event
  rw [eq_X11_event, fl_0 h, x_isGuest h, gs_bI_s, b2_if, hn3]
  by_cases hc : isIx x (Int32.ofNat n)
  · obtain ⟨g, hg, rfl, eg⟩ := i_gst hc hn
    obtain ⟨M, r, e, hW, h8, hE⟩ := x_reckonEvents (X := X) (d := d) hX hG hP hK hC
    have hM := wd_sh h (wd_e hW)
    refine ⟨M, r, ?_, hW, fun _ => ⟨r, hE⟩, by rw [← oneP_wd (wd_e hW)]; exact hE.1⟩
    rw [if_pos hc, if_pos hc, fl_0 h, e, gs_bU_s, fl_0 hM, sh_0_2 hM, gs_nn_s, fl_16 hM, sh_16_0 hM, gs_nn_s, x_i17 hM (by omega), hE.2 g (by omega), eg]
  · obtain ⟨r, hr⟩ := ev_ex hX hG hK
    refine ⟨m, r, ?_, wx_refl m, hC, hr⟩
    rw [if_neg hc, if_neg hc]
theorem r_event (hX : gs_Fu X) (hG : gs_Ga m T n n0 n1 n2 turn) (hK : gs_Kn m n kn D) : ∃ M r, gs_exec X (d + 6) 278 [.inr (.inr 116), .inl x] m = gs_rI (f_event n (evI kn D r) x) M ∧ gs_Wr m M ∧ gs_Evs (oneP m turn) (trd kn D) n r := by
  have hW0 := wr_thr (m := m) (x := 0)
  have hG2 := wr_ga hG hW0
  have hK2 := wd_kn hK (wd_r hW0)
  obtain ⟨hs, -, e3, hn, -⟩ := id hG2
  have h := hG.1
  obtain ⟨M, r, e, hW, hc2, hE⟩ := r_layEvents (X := X) (d := d) hX hG2 hK2
  rw [oneP_wd (wd_r hW0)] at hE
  have hM := wr_sh hs hW
  unfold f_event
  rw [eq_X12_event, fl_116 h]
  show ∃ M r, gs_fld (gs_sI m 116 2 0) 116 11 _ = _ ∧ _
  rw [fl_116 hs, r_isGuest hs, gs_bI_s, b2_if, e3]
  by_cases hc : isIx x (Int32.ofNat n)
  · obtain ⟨g, hg, rfl, eg⟩ := i_gst hc hn
    refine ⟨M, r, ?_, wr_trans hW0 hW, hE⟩
    rw [if_pos hc, if_pos hc, fl_116 hs, e, gs_bU_s, fl_116 hM, sh_116_58 hM, gs_nn_s, r_i151 hM (by omega), hc2 g hg, eg]
  · refine ⟨_, r, ?_, hW0, hE⟩
    rw [if_neg hc, if_neg hc]
/-! events -/
theorem x_ec_loop (h : gs_Sh m T) (hE : ∀ k, k < 12 → m.2.1 17 k = E k) : ∀ (q k F : Nat) (v : Int32), k + q = 12 → q < F → gs_iter X (gs_exec X d) gT_X1_countAll F 4 [(0, .inr (.inr 16)), (1, .inl v), (2, .inl (Int32.ofNat k))] [] m = gs_rI (f_ec E q k v) m := by
  intro q
  induction q with
  | zero =>
    intro k F v hk hF
    obtain ⟨F, rfl⟩ : ∃ z, F = z + 1 := ⟨F - 1, by omega⟩
    rw [eq_X1_countAll_4, if_neg (by show ¬ _ < Int32.ofNat 12; rw [gs_nlt (by omega) (by omega)]; omega)]
    rfl
  | succ q ih =>
    intro k F v hk hF
    obtain ⟨F, rfl⟩ : ∃ z, F = z + 1 := ⟨F - 1, by omega⟩
    rw [eq_X1_countAll_4, if_pos (by show _ < Int32.ofNat 12; rw [gs_nlt (by omega) (by omega)]; omega), fl_16 h, sh_16_0 h, gs_nn_s, x_i17 h (by omega), hE k (by omega), gs_ns, ih (k + 1) F _ (by omega) (by omega), ih (k + 1) F _ (by omega) (by omega), f_ec_s, gs_if_rI]
theorem r_ec_loop (h : gs_Sh m T) (e3 : m.2.1 119 3 = Int32.ofNat n) (hn : n ≤ 12) (hE : ∀ k, k < n → m.2.1 151 k = E k) : ∀ (q k F : Nat) (v : Int32), k + q = n → q < F → gs_iter X (gs_exec X d) gT_X12_events F 13 [(0, .inr (.inr 116)), (1, .inl v), (2, .inl (Int32.ofNat k))] [] m = gs_rI (f_ec E q k v) m := by
  have i3 : ∀ K : Nat → gs_O, gs_ix m 119 13 3 K = K 3 := fun K => gs_ixe h.1 rfl rfl
  intro q
  induction q with
  | zero =>
    intro k F v hk hF
    obtain ⟨F, rfl⟩ : ∃ z, F = z + 1 := ⟨F - 1, by omega⟩
    rw [eq_X12_events_13, fl_116 h, sh_116_12 h, gs_nn_s, i3, e3, if_neg (show ¬ Int32.ofNat k < Int32.ofNat n from fun z => by have := (gs_nlt (by omega) (by omega)).mp z; omega)]
    rfl
  | succ q ih =>
    intro k F v hk hF
    obtain ⟨F, rfl⟩ : ∃ z, F = z + 1 := ⟨F - 1, by omega⟩
    have ez : v + (0 : Int32) = v := by simp
    rw [eq_X12_events_13, fl_116 h, sh_116_12 h, gs_nn_s, i3, e3, if_pos (show Int32.ofNat k < Int32.ofNat n from (gs_nlt (by omega) (by omega)).mpr (by omega)), fl_116 h, sh_116_58 h, gs_nn_s, r_i151 h (by omega), hE k (by omega), ez, gs_ns, ih (k + 1) F _ (by omega) (by omega), ih (k + 1) F _ (by omega) (by omega), f_ec_s, gs_if_rI]
theorem f_ec_12 {r : Nat → Nat} (hn : n ≤ 12) (hkn : kn ≤ n) : f_ec (evI kn D r) 12 0 0 = f_ec (evI kn D r) n 0 0 := by
  have := f_ec_tail (E := evI kn D r) n (12 - n) 0 0 (fun i h1 h2 => by
    unfold evI
    rw [if_neg (fun z => by have := z.1; omega)]
    exact fun z => gs_neg1 (by omega) z.symm)
  rw [show n + (12 - n) = 12 by omega] at this
  exact this
theorem x_events (hX : gs_Fu X) (hG : gs_Ga m T n n0 n1 n2 turn) (hP : gs_RP m T n n1) (hK : gs_Kn m n kn D) (hC : gs_CE m n turn kn D) : ∃ M r, gs_exec X (d + 7) 145 [.inr (.inr 0)] m = gs_rI (f_ec (evI kn D r) n 0 0) M ∧ gs_Wx rsE m M ∧ gs_CE M n turn kn D ∧ gs_Evs (oneP m turn) (trd kn D) n r := by
  have h := hG.1
  have hn := hG.2.2.2.1
  obtain ⟨M, r, e, hW, h8, hE⟩ := x_reckonEvents (X := X) (d := d) hX hG hP hK hC
  have hM := wd_sh h (wd_e hW)
  refine ⟨M, r, ?_, hW, fun _ => ⟨r, hE⟩, by rw [← oneP_wd (wd_e hW)]; exact hE.1⟩
  rw [eq_X11_events, fl_0 h, e, gs_bU_s, fl_0 hM, sh_0_2 hM, gs_nn_s, fl_16 hM, eq_X1_countAll]
  rw [show (0 : Int32) = Int32.ofNat 0 from rfl, x_ec_loop (X := X) (d := d + 5) (E := evI kn D r) hM hE.2 12 0 X.1 (Int32.ofNat 0) rfl (by unfold gs_Fu at hX; omega), gs_bI_s]
  exact congrArg (fun z => gs_rI z M) (f_ec_12 hn hK.2.1)
theorem r_events (hX : gs_Fu X) (hG : gs_Ga m T n n0 n1 n2 turn) (hK : gs_Kn m n kn D) : ∃ M r, gs_exec X (d + 6) 279 [.inr (.inr 116)] m = gs_rI (f_ec (evI kn D r) n 0 0) M ∧ gs_Wr m M ∧ gs_Evs (oneP m turn) (trd kn D) n r := by
  have hW0 := wr_thr (m := m) (x := 0)
  have hG2 := wr_ga hG hW0
  have hK2 := wd_kn hK (wd_r hW0)
  have hs := hG2.1
  have hn := hG2.2.2.2.1
  have h := hG.1
  obtain ⟨M, r, e, hW, hc2, hE⟩ := r_layEvents (X := X) (d := d) hX hG2 hK2
  rw [oneP_wd (wd_r hW0)] at hE
  have hM := wr_sh hs hW
  have e3M := (wr_ga hG2 hW).2.2.1
  refine ⟨M, r, ?_, wr_trans hW0 hW, hE⟩
  rw [eq_X12_events, fl_116 h]
  show gs_fld (gs_sI m 116 2 0) 116 11 _ = _
  rw [fl_116 hs, e, gs_bU_s]
  exact r_ec_loop hM e3M hn hc2 n 0 X.1 0 (by omega) (by unfold gs_Fu at hX; omega)
/-! copied -/
def f_copied (m : gs_M) (n : Nat) (E : Nat → Int32) (x : Int32) : Int32 := if isIx x (Int32.ofNat n) then f_copA m E n x.toInt.toNat else -1
theorem wd_copA {M : gs_M} (hW : gs_Wd m M) : f_copA M E n g = f_copA m E n g := by
  have e2 : ∀ a, f_slipsA M g a = f_slipsA m g a := fun a => by
    unfold f_slipsA gd
    rw [wd_cell hW 132 (by decide) (by decide)]
  have e : ∀ q k f, f_cp M E g q k f = f_cp m E g q k f := by
    intro q
    induction q with
    | zero => intro k f; rfl
    | succ q ih =>
      intro k f
      rw [f_cp_s, f_cp_s, ih, ih, wd_gd hW, wd_gd hW, wd_cell hW 131 (by decide) (by decide), e2, e2]
  unfold f_copA
  rw [wd_gd hW, e]
theorem x_copied (hX : gs_Fu X) (hG : gs_Ga m T n n0 n1 n2 turn) (hP : gs_RP m T n n1) (hB : gs_RB m T n2) (hK : gs_Kn m n kn D) (hC : gs_CE m n turn kn D) : ∃ M r, gs_exec X (d + 7) 139 [.inr (.inr 0), .inl x] m = gs_rI (f_copied m n (evI kn D r) x) M ∧ gs_Wx rsE m M ∧ gs_CE M n turn kn D ∧ gs_Evs (oneP m turn) (trd kn D) n r := by
  have h := hG.1
  have hn3 := hG.2.1
  have hn := hG.2.2.2.1
  unfold f_copied
  rw [eq_X11_copied, fl_0 h, x_isGuest h, gs_bI_s, b2_if, hn3]
  by_cases hc : isIx x (Int32.ofNat n)
  · obtain ⟨g, hg, rfl, eg⟩ := i_gst hc hn
    obtain ⟨M, r, e, hW, h8, hE⟩ := x_reckonEvents (X := X) (d := d) hX hG hP hK hC
    have hM := wd_sh h (wd_e hW)
    refine ⟨M, r, ?_, hW, fun _ => ⟨r, hE⟩, by rw [← oneP_wd (wd_e hW)]; exact hE.1⟩
    rw [if_pos hc, if_pos hc, fl_0 h, e, gs_bU_s, fl_0 hM, sh_0_2 hM, gs_nn_s, fl_0 hM, sh_told hM, gs_nn_s, fl_16 hM, x_sourceOf (d := d + 3) (E := evI kn D r) hX (wd_ga hG (wd_e hW)) (wd_rb h hB (wd_e hW)) hg (fun k hk => hE.2 k (by omega)), gs_bI_s, eg, wd_copA (wd_e hW)]
  · obtain ⟨r, hr⟩ := ev_ex hX hG hK
    refine ⟨m, r, ?_, wx_refl m, hC, hr⟩
    rw [if_neg hc, if_neg hc]
theorem r_copied (hX : gs_Fu X) (hG : gs_Ga m T n n0 n1 n2 turn) (hB : gs_RB m T n2) (hK : gs_Kn m n kn D) : ∃ M r, gs_exec X (d + 6) 285 [.inr (.inr 116), .inl x] m = gs_rI (f_copied m n (evI kn D r) x) M ∧ gs_Wr m M ∧ gs_Evs (oneP m turn) (trd kn D) n r := by
  have hW0 := wr_thr (m := m) (x := 0)
  have hG2 := wr_ga hG hW0
  have hK2 := wd_kn hK (wd_r hW0)
  obtain ⟨hs, -, e3, hn, -⟩ := id hG2
  have h := hG.1
  obtain ⟨M, r, e, hW, hc2, hE⟩ := r_layEvents (X := X) (d := d) hX hG2 hK2
  rw [oneP_wd (wd_r hW0)] at hE
  have hM := wr_sh hs hW
  have hWM := wd_r (wr_trans hW0 hW)
  have hBM := wd_rb h hB hWM
  unfold f_copied
  rw [eq_X12_copied, fl_116 h]
  show ∃ M r, gs_fld (gs_sI m 116 2 0) 116 11 _ = _ ∧ _
  rw [fl_116 hs, r_isGuest hs, gs_bI_s, b2_if, e3]
  by_cases hc : isIx x (Int32.ofNat n)
  · obtain ⟨g, hg, rfl, eg⟩ := i_gst hc hn
    refine ⟨M, r, ?_, wr_trans hW0 hW, hE⟩
    rw [if_pos hc, if_pos hc, fl_116 hs, e, gs_bU_s, fl_116 hM, r_copiedOf (d := d + 3) (E := evI kn D r) hX (wr_ga hG2 hW) (fun k hk => (hBM k hk).2.2) hg hc2 (evI_lt (m := m) (turn := turn) hn hK.2.1 hE.1), gs_bI_s, eg, wd_copA hWM]
  · refine ⟨_, r, ?_, hW0, hE⟩
    rw [if_neg hc, if_neg hc]
end COP
