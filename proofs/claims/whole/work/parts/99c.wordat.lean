/-! The reference looks a word up. -/
def gs_Dc (m : gs_M) : Prop := ∀ j, j < 171 → m.2.1 118 j = Int32.ofNat (dct j)
def off (k : Nat) : Nat := if k < 32 then wof k else 171
theorem off_s : ∀ k, k < 32 → off (k + 1) = off k + (wln k + 1) := by decide +kernel
theorem isWd_u {by_ : Nat → Nat} {a len k i : Nat} (hk : k < 32) (hi : i < 32) (h1 : isWd by_ a len k) (h2 : isWd by_ a len i) : k = i := by
  apply lnr_inj k hk i hi
  rw [lnr_pk k hk, lnr_pk i hi, h1.1, h2.1, pkV_congr len h1.2, pkV_congr len h2.2]
section WA
variable {X : gs_E} {d : Nat} {m : gs_M} {T L a len k : Nat} {by_ : Nat → Nat}
abbrev lo57 (a len k o w j : Nat) (f : Int32) : gs_L := [(0, .inr (.inr 116)), (1, .inl (Int32.ofNat a)), (2, .inl (Int32.ofNat (a + len))), (3, .inl (Int32.ofNat k)), (4, .inl (Int32.ofNat o)), (5, .inl (Int32.ofNat w)), (6, .inl f), (7, .inl (Int32.ofNat j))]
abbrev lo5 (a len k o : Nat) : gs_L := [(0, .inr (.inr 116)), (1, .inl (Int32.ofNat a)), (2, .inl (Int32.ofNat (a + len))), (3, .inl (Int32.ofNat k)), (4, .inl (Int32.ofNat o))]
abbrev lo18 (a len k o i : Nat) : gs_L := [(0, .inr (.inr 116)), (1, .inl (Int32.ofNat a)), (2, .inl (Int32.ofNat (a + len))), (3, .inl (Int32.ofNat k)), (4, .inl (Int32.ofNat o)), (5, .inl (Int32.ofNat i))]
theorem r_w57_0 {o w j F : Nat} : gs_iter X (gs_exec X d) gT_X12_wordAt (F + 1) 57 (lo57 a len k o w j 0) [] m = gs_iter X (gs_exec X d) gT_X12_wordAt F 5 (lo5 a len (k + 1) (o + (w + 1))) [] m := by
  rw [eq_X12_wordAt_57, if_pos rfl, if_pos rfl]
  rw [ite_self, gs_ns, gs_ns, n_add]
theorem r_w57 (h : gs_Sh m T) (hB : gs_Bz m by_ L) (hD : gs_Dc m) (hk : k < 32) (ha : a + len ≤ L) (hw : wln k = len) : ∀ (q j F : Nat), j + q = len → q + 2 < F →
    ((∀ i, j ≤ i → i < len → dct (wof k + i) = by_ (a + i)) → gs_iter X (gs_exec X d) gT_X12_wordAt F 57 (lo57 a len k (wof k) len j 1) [] m = gs_rI (Int32.ofNat k) m) ∧ (¬ (∀ i, j ≤ i → i < len → dct (wof k + i) = by_ (a + i)) → ∃ F', F ≤ F' + (q + 2) ∧ gs_iter X (gs_exec X d) gT_X12_wordAt F 57 (lo57 a len k (wof k) len j 1) [] m = gs_iter X (gs_exec X d) gT_X12_wordAt F' 5 (lo5 a len (k + 1) (wof k + (len + 1))) [] m) := by
  obtain ⟨w1, w2, w3⟩ := wln_b k hk
  have hL := hB.1
  intro q
  induction q with
  | zero =>
    intro j F hj hF
    obtain ⟨F, rfl⟩ : ∃ y, F = y + 1 := ⟨F - 1, by omega⟩
    refine ⟨fun _ => ?_, fun y => absurd (fun i h1 h2 => by omega) y⟩
    rw [eq_X12_wordAt_57, if_neg (by rw [gs_nlt (by omega) (by omega)]; omega), if_neg (by decide)]
  | succ q ih =>
    intro j F hj hF
    obtain ⟨F, rfl⟩ : ∃ y, F = y + 1 := ⟨F - 1, by omega⟩
    obtain ⟨i1, i2⟩ := ih (j + 1) F (by omega) (by omega)
    obtain ⟨-, b2, b3⟩ := hB.2.1 (a + j) (by omega)
    have dj := hD (wof k + j) (by omega)
    have dn := (dct_n (wof k + j) (by omega)).2
    rw [eq_X12_wordAt_57, if_pos (by rw [gs_nlt (by omega) (by omega)]; omega), if_neg (by decide), fl_116 h, sh_116_3 h, gs_nn_s, n_add, gs_ixn h.1 (show gs_ok 118 13 153 = true from rfl) (show wof k + j < 171 by omega), fl_116 h, sh_116_0 h, gs_nn_s, n_add, gs_ixn h.1 (show gs_ok 117 13 153 = true from rfl) (show a + j < 800 by omega), dj, b2, gs_ns]
    have eq := n_eq (a := dct (wof k + j)) (b := by_ (a + j)) (by omega) (by omega)
    by_cases z : dct (wof k + j) = by_ (a + j)
    · rw [if_pos (eq.mpr z)]
      refine ⟨fun y => i1 (fun i h1 h2 => y i (by omega) h2), fun y => ?_⟩
      obtain ⟨F', f1, f2⟩ := i2 (fun w => y (fun i h1 h2 => by
        by_cases e : i = j
        · rw [e]
          exact z
        · exact w i (by omega) h2))
      exact ⟨F', by omega, f2⟩
    · rw [if_neg (fun y => z (eq.mp y))]
      refine ⟨fun y => absurd (y j (Nat.le_refl _) (by omega)) z, fun _ => ?_⟩
      obtain ⟨F, rfl⟩ : ∃ y, F = y + 1 := ⟨F - 1, by omega⟩
      exact ⟨F, by omega, r_w57_0⟩
theorem r_w18 (h : gs_Sh m T) (hD : gs_Dc m) (hk : k < 32) (hl : a + len ≤ 800) : ∀ (q i F : Nat), i + q = wln k → q < F →
    ∃ F', F = F' + (q + 1) ∧ gs_iter X (gs_exec X d) gT_X12_wordAt F 18 (lo18 a len k (wof k) i) [] m = gs_iter X (gs_exec X d) gT_X12_wordAt F' 57 (lo57 a len k (wof k) (wln k) 0 (if wln k = len then 1 else 0)) [] m := by
  obtain ⟨w1, w2, w3⟩ := wln_b k hk
  intro q
  induction q with
  | zero =>
    intro i F hi hF
    obtain ⟨F, rfl⟩ : ∃ y, F = y + 1 := ⟨F - 1, by omega⟩
    have ei : i = wln k := by omega
    subst ei
    refine ⟨F, rfl, ?_⟩
    have dj := hD (wof k + wln k) (by omega)
    rw [dct_e k hk] at dj
    rw [eq_X12_wordAt_18, fl_116 h, sh_116_3 h, gs_nn_s, n_add, gs_ixn h.1 (show gs_ok 118 13 153 = true from rfl) (show wof k + wln k < 171 by omega), dj, if_pos (show Int32.ofNat 32 = (32 : Int32) from rfl), n_sb (show a ≤ a + len by omega), show a + len - a = len by omega]
    have eq := n_eq (a := wln k) (b := len) (by omega) (by omega)
    by_cases z : wln k = len
    · rw [if_pos (eq.mpr z), if_pos z]
      rfl
    · rw [if_neg (fun y => z (eq.mp y)), if_neg z]
      rfl
  | succ q ih =>
    intro i F hi hF
    obtain ⟨F, rfl⟩ : ∃ y, F = y + 1 := ⟨F - 1, by omega⟩
    obtain ⟨F', f1, f2⟩ := ih (i + 1) F (by omega) (by omega)
    refine ⟨F', by omega, ?_⟩
    have dj := hD (wof k + i) (by omega)
    have ds := dct_s k hk i (by omega) (by omega)
    have eq := n_eq (a := dct (wof k + i)) (b := 32) (by omega) (by decide)
    rw [eq_X12_wordAt_18, fl_116 h, sh_116_3 h, gs_nn_s, n_add, gs_ixn h.1 (show gs_ok 118 13 153 = true from rfl) (show wof k + i < 171 by omega), dj, if_neg (fun y => by have := eq.mp y; omega), gs_ns]
    exact f2
theorem r_w5 (h : gs_Sh m T) (hB : gs_Bz m by_ L) (hD : gs_Dc m) (ha : a + len ≤ L) : ∀ (q k F : Nat), k + q = 32 → q * 20 < F →
    (∀ i, k ≤ i → i < 32 → isWd by_ a len i → gs_iter X (gs_exec X d) gT_X12_wordAt F 5 (lo5 a len k (off k)) [] m = gs_rI (Int32.ofNat i) m) ∧ ((∀ i, k ≤ i → i < 32 → ¬ isWd by_ a len i) → gs_iter X (gs_exec X d) gT_X12_wordAt F 5 (lo5 a len k (off k)) [] m = gs_rI (-1) m) := by
  have hL := hB.1
  have c118 : (Nat.ble 12 (gs_kind 118) && Nat.ble (gs_kind 118) 14 && Nat.blt (gs_rk 118) m.1.1) = true := by
    rw [h.1]
    rfl
  have l118 : gs_len 118 = 171 := rfl
  intro q
  induction q with
  | zero =>
    intro k F hk hF
    obtain ⟨F, rfl⟩ : ∃ y, F = y + 1 := ⟨F - 1, by omega⟩
    have e : k = 32 := by omega
    subst e
    refine ⟨fun i h1 h2 => by omega, fun _ => ?_⟩
    rw [eq_X12_wordAt_5, fl_116 h, sh_116_3 h, gs_nn_s, c118, l118, show off 32 = 171 from rfl, cond_true, if_neg (by decide)]
  | succ q ih =>
    intro k F hk hF
    obtain ⟨F, rfl⟩ : ∃ y, F = y + 1 := ⟨F - 1, by omega⟩
    have hk32 : k < 32 := by omega
    obtain ⟨w1, w2, w3⟩ := wln_b k hk32
    have eo : off k = wof k := if_pos hk32
    have es := off_s k hk32
    rw [eo] at es ⊢
    have st : gs_iter X (gs_exec X d) gT_X12_wordAt (F + 1) 5 (lo5 a len k (wof k)) [] m = gs_iter X (gs_exec X d) gT_X12_wordAt F 18 (lo18 a len k (wof k) 0) [] m := by
      rw [eq_X12_wordAt_5, fl_116 h, sh_116_3 h, gs_nn_s, c118, l118, cond_true, if_pos (by rw [gs_nlt (by omega) (by omega)]; omega)]
      rfl
    obtain ⟨F1, f1, f2⟩ := r_w18 (X := X) (d := d) (a := a) (len := len) h hD hk32 (by omega) (wln k) 0 F (by omega) (by omega)
    rw [st, f2]
    by_cases z : wln k = len
    · rw [if_pos z, z]
      obtain ⟨g1, g2⟩ := r_w57 (X := X) (d := d) h hB hD hk32 ha z len 0 F1 (by omega) (by omega)
      by_cases y : isWd by_ a len k
      · refine ⟨fun i h1 h2 hi => ?_, fun no => absurd y (no k (Nat.le_refl _) hk32)⟩
        rw [← isWd_u hk32 h2 y hi]
        exact g1 (fun i _ hi => y.2 i hi)
      · obtain ⟨F2, e1, e2⟩ := g2 (fun w => y ⟨z, fun j hj => w j (Nat.zero_le _) hj⟩)
        rw [e2, ← z, ← es]
        obtain ⟨i1, i2⟩ := ih (k + 1) F2 (by omega) (by omega)
        rw [z]
        refine ⟨fun i h1 h2 hi => i1 i (by
          by_cases e : i = k
          · exact absurd (e ▸ hi) y
          · omega) h2 hi, fun no => i2 (fun i h1 h2 => no i (by omega) h2)⟩
    · rw [if_neg z]
      obtain ⟨F2, hF2⟩ : ∃ y, F1 = y + 1 := ⟨F1 - 1, by omega⟩
      subst hF2
      rw [r_w57_0, ← es]
      obtain ⟨i1, i2⟩ := ih (k + 1) F2 (by omega) (by omega)
      refine ⟨fun i h1 h2 hi => i1 i (by
        by_cases e : i = k
        · rw [e] at hi
          exact absurd hi.1 z
        · omega) h2 hi, fun no => i2 (fun i h1 h2 => no i (by omega) h2)⟩
/-- what the reference finds is what the class finds; a longer word is none -/
theorem r_wordAt (hX : gs_Fu X) (h : gs_Sh m T) (hB : gs_Bz m by_ L) (hD : gs_Dc m) (ha : a + len ≤ L) (hs : ∀ j, j < len → isSm (by_ (a + j))) : gs_exec X (d + 1) 179 [.inr (.inr 116), .inl (Int32.ofNat a), .inl (Int32.ofNat (a + len))] m = gs_rI (if len ≤ 6 ∧ kWr (pkV by_ a len * 32 ^ (6 - len)) 32 < 32 then Int32.ofNat (kWr (pkV by_ a len * 32 ^ (6 - len)) 32) else -1) m := by
  obtain ⟨g1, g2⟩ := r_w5 (X := X) (d := d) h hB hD ha 32 0 X.1 (by omega) (by unfold gs_Fu at hX; omega)
  rw [eq_X12_wordAt]
  show gs_iter X (gs_exec X d) gT_X12_wordAt X.1 5 (lo5 a len 0 (off 0)) [] m = _
  by_cases hl : len ≤ 6
  · by_cases z : ∃ k, k < 32 ∧ lnr k = pkV by_ a len * 32 ^ (6 - len)
    · obtain ⟨k, hk, e⟩ := z
      rw [kWr_at hk e 32 hk (Nat.le_refl _), if_pos ⟨hl, hk⟩]
      exact g1 k (Nat.zero_le _) hk ((isWd_pk hk hl hs).mpr e)
    · have no : ∀ k, k < 32 → lnr k ≠ pkV by_ a len * 32 ^ (6 - len) := fun k hk e => z ⟨k, hk, e⟩
      rw [kWr_no 32 no, if_neg (fun y => by omega)]
      exact g2 (fun i _ hi w => no i hi ((isWd_pk hi hl hs).mp w))
  · rw [if_neg (fun y => hl y.1)]
    exact g2 (fun i _ hi w => by
      have := wln_b i hi
      have := w.1
      omega)
end WA
