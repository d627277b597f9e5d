/-! What both sides hold of a text, half read. -/
abbrev kB (B : Nat → Nat → Int32) (k : Nat) : Nat := (B 20 (64 + k)).toInt.toNat
abbrev pB (B : Nat → Nat → Int32) (k : Nat) : Nat := (B 21 (64 + k)).toInt.toNat
abbrev oB (B : Nat → Nat → Int32) (k : Nat) : Nat := (B 22 (64 + k)).toInt.toNat
abbrev sbB (B : Nat → Nat → Int32) (s : Nat) : Nat := (B 17 (6 + s)).toInt.toNat
abbrev seB (B : Nat → Nat → Int32) (s : Nat) : Nat := (B 18 (6 + s)).toInt.toNat
abbrev bg (B : Nat → Nat → Int32) (g i : Nat) : Int32 := B 13 (192 + 16 * g + i)
abbrev bc (B : Nat → Nat → Int32) (c i : Nat) : Int32 := B 14 (90 + 9 * c + i)
/-- what a guest's row may hold -/
def gVl (b : Nat → Int32) (n0 n1 n2 : Nat) : Prop := isO (b 0) n0 ∧ isN (b 1) 2000 ∧ isN (b 13) 2000 ∧ (∃ mo : Nat, mo ≤ 12 ∧ b 2 = Int32.ofNat mo ∧ (b 0 ≠ -1 → 1 ≤ mo)) ∧ isN (b 3) 60 ∧ isO (b 4) n1 ∧ isN (b 5) 21 ∧ (∃ s ∈ gs_vs, b 6 = Int32.ofNat s) ∧ isN (b 7) 1000 ∧ isN (b 8) 21 ∧ isN (b 9) 100 ∧ isN (b 10) 2 ∧ (∃ w : Nat, 1 ≤ w ∧ w ≤ 9 ∧ b 11 = Int32.ofNat w) ∧ isO (b 12) n2
def gRl (a b : Nat → Int32) (n0 n1 n2 : Nat) : Prop := (∀ x ∈ gs_cm, a x.1 = b x.2) ∧ (a 8 = f_east (b 6) ∧ a 9 = f_north (b 6)) ∧ gVl b n0 n1 n2
/-- what a cloud's row may hold -/
abbrev bN (b : Nat → Int32) (i : Nat) : Nat := (b i).toInt.toNat
def cVl (b : Nat → Int32) : Prop := (∀ i, i < 9 → b i = Int32.ofNat (bN b i)) ∧ bN b 0 < 120 ∧ bN b 1 < 60 ∧ bN b 2 < bN b 4 ∧ bN b 4 < 3000 ∧ 1 ≤ bN b 3 ∧ bN b 3 < bN b 5 ∧ bN b 5 ≤ 9999 ∧ 1 ≤ bN b 6 ∧ bN b 6 ≤ 10 ∧ bN b 7 ≤ 9999 ∧ bN b 8 ≤ 9999 ∧ (bN b 7 = 0 ↔ bN b 8 = 0)
def cRl (a b : Nat → Int32) : Prop := (∀ i, i < 9 → a i = b i) ∧ cVl b
section RD
variable (A B : Nat → Nat → Int32)
def rCt (n0 n1 n2 n3 n5 n6 n7 n8 : Nat) : Prop := (A 1 3 = Int32.ofNat n0 ∧ A 5 3 = Int32.ofNat n1 ∧ A 9 3 = Int32.ofNat n2 ∧ A 0 8 = Int32.ofNat n3 ∧ A 0 9 = Int32.ofNat n5 ∧ A 13 3 = Int32.ofNat n6 ∧ A 21 3 = Int32.ofNat n7 ∧ A 17 3 = Int32.ofNat n8) ∧ (B 1 0 = Int32.ofNat n0 ∧ B 1 1 = Int32.ofNat n1 ∧ B 1 2 = Int32.ofNat n2 ∧ B 1 3 = Int32.ofNat n3 ∧ B 1 5 = Int32.ofNat n5 ∧ B 1 6 = Int32.ofNat n6 ∧ B 1 7 = Int32.ofNat n7 ∧ B 1 8 = Int32.ofNat n8) ∧ n0 ≤ 8 ∧ n1 ≤ 10 ∧ n2 ≤ 8 ∧ n3 ≤ 12 ∧ n5 ≤ 10 ∧ n6 ≤ 6 ∧ n7 ≤ 6 ∧ n8 ≤ 64
def rRR (n0 : Nat) : Prop := ∀ k, k < n0 → A 2 k = B 5 (8 + k) ∧ A 3 k = B 6 (8 + k) ∧ A 4 k = B 7 (8 + k) ∧ isN (B 6 (8 + k)) 1901 ∧ isN (B 7 (8 + k)) 61
def rRP (n1 : Nat) : Prop := ∀ k, k < n1 → A 6 k = B 8 (10 + k) ∧ A 7 k = B 9 (10 + k) ∧ A 8 k = B 10 (10 + k) ∧ isN (B 9 (10 + k)) 120 ∧ isN (B 10 (10 + k)) 60
def rRB (n2 : Nat) : Prop := ∀ k, k < n2 → A 10 k = B 11 (8 + k) ∧ A 11 k = B 12 (8 + k) ∧ isO (B 12 (8 + k)) k
def rRG (n3 n0 n1 n2 : Nat) : Prop := ∀ g, g < n3 → gRl (A (27 + g)) (bg B g) n0 n1 n2
def rRC (n5 : Nat) : Prop := ∀ c, c < n5 → cRl (A (39 + c)) (bc B c)
def rRW (n7 : Nat) : Prop := ∀ k, k < n7 → A 22 k = B 19 (18 + 3 * k) ∧ A 23 k = B 19 (18 + 3 * k + 1) ∧ A 24 k = B 19 (18 + 3 * k + 2) ∧ isN (B 19 (18 + 3 * k + 2)) 11
def rRK (n8 : Nat) : Prop := ∀ k, k < n8 → B 20 (64 + k) = Int32.ofNat (kB B k) ∧ kB B k ≤ 14 ∧ B 21 (64 + k) = Int32.ofNat (pB B k) ∧ pB B k ≤ 9999 ∧ (3 ≤ kB B k → B 22 (64 + k) = Int32.ofNat (oB B k)) ∧ A 18 k = Int32.ofNat (ck (kB B k) (pB B k)) ∧ (kB B k = 0 → A 19 k = B 21 (64 + k)) ∧ (kB B k = 1 → pB B k < 6)
def rS1 (n8 s : Nat) : Prop := A 14 s = B 15 (6 + s) ∧ A 15 s = B 16 (6 + s) ∧ (∃ w, 1 ≤ w ∧ w ≤ 99 ∧ B 16 (6 + s) = Int32.ofNat w) ∧ A 16 s = B 18 (6 + s) ∧ B 17 (6 + s) = Int32.ofNat (sbB B s) ∧ B 18 (6 + s) = Int32.ofNat (seB B s) ∧ sbB B s < seB B s ∧ seB B s ≤ n8 ∧ (s = 0 → sbB B s = 0) ∧ (∀ t, s = t + 1 → sbB B s = seB B t) ∧ gs_wks (kB B) (pB B) (oB B) (sbB B s) (seB B s - sbB B s) = some [seB B s - 1]
def rRS (n6 n8 : Nat) : Prop := (∀ s, s < n6 → rS1 A B n8 s) ∧ (n6 = 0 → n8 = 0) ∧ ∀ t, n6 = t + 1 → seB B t = n8
def rRU (c1 E : Nat → Int32) : Prop := (A 0 10 = B 4 0 ∧ isN (B 4 0) 60) ∧ (A 0 11 = B 4 1 ∧ isN (B 4 1) 100) ∧ (A 0 12 = B 4 2 ∧ isN (B 4 2) 1000) ∧ (A 0 13 = B 4 3 ∧ isN (B 4 3) 100) ∧ ∃ s, s < 16 ∧ c1 7 = Int32.ofNat (s * 524288) ∧ E 17 = Int32.ofNat (s * 256)
def gs_Rl (c1 E : Nat → Int32) (n0 n1 n2 n3 n5 n6 n7 n8 : Nat) : Prop := rCt A B n0 n1 n2 n3 n5 n6 n7 n8 ∧ rRR A B n0 ∧ rRP A B n1 ∧ rRB A B n2 ∧ rRG A B n3 n0 n1 n2 ∧ rRC A B n5 ∧ rRW A B n7 ∧ rRK A B n8 ∧ rRS A B n6 n8 ∧ rRU A B c1 E ∧ c1 4 = Int32.ofNat n8 ∧ E 43 = Int32.ofNat n8
end RD
/-- a line is read -/
def gs_Le (S L : Nat) (m0 r0 : gs_M) (p : Nat) (f : (Nat → Nat → Int32) → Nat → Nat → Int32) (mx mr : gs_M) : Prop := ∃ A B c1 c2 E c v p' q' n0 n1 n2 n3 n5 n6 n7 n8, p < p' ∧ gs_Sg S L m0 r0 A B c1 c2 E mx mr c v p' q' ∧ gs_Rl A (f B) c1 E n0 n1 n2 n3 n5 n6 n7 n8
abbrev inc (k : Nat) (B : Nat → Nat → Int32) : Nat → Nat → Int32 := gs_up2 B 1 k (B 1 k + 1)
theorem up2_row {f : Nat → Nat → Int32} {a j b : Nat} {x : Int32} (h : b ≠ a) : gs_up2 f a j x b = f b := funext (fun i => up2_n (Or.inl h))
theorem isN_le {v : Int32} {a b : Nat} (h : isN v a) (hb : a ≤ b) : isN v b := by
  obtain ⟨k, hk, e⟩ := h
  exact ⟨k, by omega, e⟩
theorem isO_le {v : Int32} {a b : Nat} (h : isO v a) (hb : a ≤ b) : isO v b := h.elim Or.inl (fun h => Or.inr (isN_le h hb))
theorem gRl_c {a b b' : Nat → Int32} {n0 n1 n2 n0' n1' n2' : Nat} (h : gRl a b n0 n1 n2) (hb : ∀ i, i < 16 → b' i = b i) (h0 : n0 ≤ n0') (h1 : n1 ≤ n1') (h2 : n2 ≤ n2') : gRl a b' n0' n1' n2' := by
  obtain ⟨a1, a2, e⟩ := h
  have hcm : ∀ x ∈ gs_cm, x.2 < 16 := by decide
  unfold gRl gVl at *
  rw [hb 0 (by decide), hb 1 (by decide), hb 2 (by decide), hb 3 (by decide), hb 4 (by decide), hb 5 (by decide), hb 6 (by decide), hb 7 (by decide), hb 8 (by decide), hb 9 (by decide), hb 10 (by decide), hb 11 (by decide), hb 12 (by decide), hb 13 (by decide)]
  exact ⟨fun x hx => by rw [hb x.2 (hcm x hx)]; exact a1 x hx, a2, isO_le e.1 h0, e.2.1, e.2.2.1, e.2.2.2.1, e.2.2.2.2.1, isO_le e.2.2.2.2.2.1 h1, e.2.2.2.2.2.2.1, e.2.2.2.2.2.2.2.1, e.2.2.2.2.2.2.2.2.1, e.2.2.2.2.2.2.2.2.2.1, e.2.2.2.2.2.2.2.2.2.2.1, e.2.2.2.2.2.2.2.2.2.2.2.1, e.2.2.2.2.2.2.2.2.2.2.2.2.1, isO_le e.2.2.2.2.2.2.2.2.2.2.2.2.2 h2⟩
theorem rRG_c {A B A' B' : Nat → Nat → Int32} {n3 n0 n1 n2 n0' n1' n2' : Nat} (h : rRG A B n3 n0 n1 n2) (hA : ∀ g, g < n3 → A' (27 + g) = A (27 + g)) (hB : ∀ g i, g < n3 → i < 16 → bg B' g i = bg B g i) (h0 : n0 ≤ n0') (h1 : n1 ≤ n1') (h2 : n2 ≤ n2') : rRG A' B' n3 n0' n1' n2' := by
  intro g hg
  rw [hA g hg]
  exact gRl_c (h g hg) (fun i hi => hB g i hg hi) h0 h1 h2
theorem cRl_c {a b b' : Nat → Int32} (h : cRl a b) (hb : ∀ i, i < 9 → b' i = b i) : cRl a b' := by
  obtain ⟨a1, e⟩ := h
  have hn : ∀ i, i < 9 → bN b' i = bN b i := fun i hi => by unfold bN; rw [hb i hi]
  refine ⟨fun i hi => by rw [hb i hi]; exact a1 i hi, ?_⟩
  unfold cVl at *
  rw [hn 0 (by decide), hn 1 (by decide), hn 2 (by decide), hn 3 (by decide), hn 4 (by decide), hn 5 (by decide), hn 6 (by decide), hn 7 (by decide), hn 8 (by decide)]
  exact ⟨fun i hi => by rw [hb i hi, hn i hi]; exact e.1 i hi, e.2⟩
theorem rRC_c {A B A' B' : Nat → Nat → Int32} {n5 : Nat} (h : rRC A B n5) (hA : ∀ c, c < n5 → A' (39 + c) = A (39 + c)) (hB : ∀ c i, c < n5 → i < 9 → bc B' c i = bc B c i) : rRC A' B' n5 := by
  intro c hc
  rw [hA c hc]
  exact cRl_c (h c hc) (fun i hi => hB c i hc hi)
theorem n_s1 {a : Int32} {n : Nat} (h : a = Int32.ofNat n) : a + 1 = Int32.ofNat (n + 1) := by rw [h, gs_ns]
section AD2
variable {X : gs_E} {d T S n : Nat} {mx : gs_M} {a1 a2 a3 : Int32}
theorem x_add1 (h : gs_Sx mx T S) (hn : mx.2.1 (S + 1) 3 = Int32.ofNat n) (hl : n < 8) : gs_exec X (d + 1) 26 [.inr (.inr (S + 1)), .inl a1, .inl a2, .inl a3] mx = gs_rU (gs_sI (gs_sI (gs_sI (gs_sI mx (S + 2) n a1) (S + 3) n a2) (S + 4) n a3) (S + 1) 3 (Int32.ofNat (n + 1))) := by
  have cd : (Nat.ble 12 (gs_kind (S + 2)) && Nat.ble (gs_kind (S + 2)) 14 && Nat.blt (gs_rk (S + 2)) mx.1.1) = true := by
    rw [y_n h]
    rcases sx_S h with e | e <;> rw [e] <;> rfl
  have le : gs_len (S + 2) = 8 := by
    rcases sx_S h with e | e <;> rw [e] <;> rfl
  have r1 : (gs_sI mx (S + 2) n a1).2.1 (S + 1) 3 = Int32.ofNat n := by rw [gs_sIn (Or.inl (by omega))]; exact hn
  have r2 : (gs_sI (gs_sI mx (S + 2) n a1) (S + 3) n a2).2.1 (S + 1) 3 = Int32.ofNat n := by rw [gs_sIn (Or.inl (by omega))]; exact r1
  have r3 : (gs_sI (gs_sI (gs_sI mx (S + 2) n a1) (S + 3) n a2) (S + 4) n a3).2.1 (S + 1) 3 = Int32.ofNat n := by rw [gs_sIn (Or.inl (by omega))]; exact r2
  rw [eq_X3_add, yt1 h, yt1 h, y1_0 h, gs_nn_s, cd, le, hn, cond_true, if_pos (by rw [gs_nlt (by omega) (by omega)]; omega)]
  simp only [gs_fld_sI, gs_ix_sI, gs_sI22, yt1 h, y1_0 h, y1_1 h, y1_2 h, gs_nn_s, r1, r2, r3, gs_ns, yar h 2 13 8 (by decide) hl, yar h 3 13 8 (by decide) hl, yar h 4 13 8 (by decide) hl]
theorem x_add5 (h : gs_Sx mx T S) (hn : mx.2.1 (S + 5) 3 = Int32.ofNat n) (hl : n < 10) : gs_exec X (d + 1) 26 [.inr (.inr (S + 5)), .inl a1, .inl a2, .inl a3] mx = gs_rU (gs_sI (gs_sI (gs_sI (gs_sI mx (S + 6) n a1) (S + 7) n a2) (S + 8) n a3) (S + 5) 3 (Int32.ofNat (n + 1))) := by
  have cd : (Nat.ble 12 (gs_kind (S + 6)) && Nat.ble (gs_kind (S + 6)) 14 && Nat.blt (gs_rk (S + 6)) mx.1.1) = true := by
    rw [y_n h]
    rcases sx_S h with e | e <;> rw [e] <;> rfl
  have le : gs_len (S + 6) = 10 := by
    rcases sx_S h with e | e <;> rw [e] <;> rfl
  have r1 : (gs_sI mx (S + 6) n a1).2.1 (S + 5) 3 = Int32.ofNat n := by rw [gs_sIn (Or.inl (by omega))]; exact hn
  have r2 : (gs_sI (gs_sI mx (S + 6) n a1) (S + 7) n a2).2.1 (S + 5) 3 = Int32.ofNat n := by rw [gs_sIn (Or.inl (by omega))]; exact r1
  have r3 : (gs_sI (gs_sI (gs_sI mx (S + 6) n a1) (S + 7) n a2) (S + 8) n a3).2.1 (S + 5) 3 = Int32.ofNat n := by rw [gs_sIn (Or.inl (by omega))]; exact r2
  rw [eq_X3_add, yt5 h, yt5 h, y5_0 h, gs_nn_s, cd, le, hn, cond_true, if_pos (by rw [gs_nlt (by omega) (by omega)]; omega)]
  simp only [gs_fld_sI, gs_ix_sI, gs_sI22, yt5 h, y5_0 h, y5_1 h, y5_2 h, gs_nn_s, r1, r2, r3, gs_ns, yar h 6 13 10 (by decide) hl, yar h 7 13 10 (by decide) hl, yar h 8 13 10 (by decide) hl]
theorem x_add9 (h : gs_Sx mx T S) (hn : mx.2.1 (S + 9) 3 = Int32.ofNat n) (hl : n < 8) : gs_exec X (d + 1) 26 [.inr (.inr (S + 9)), .inl a1, .inl a2, .inl a3] mx = gs_rU (gs_sI (gs_sI (gs_sI (gs_sI mx (S + 10) n a1) (S + 11) n a2) (S + 12) n a3) (S + 9) 3 (Int32.ofNat (n + 1))) := by
  have cd : (Nat.ble 12 (gs_kind (S + 10)) && Nat.ble (gs_kind (S + 10)) 14 && Nat.blt (gs_rk (S + 10)) mx.1.1) = true := by
    rw [y_n h]
    rcases sx_S h with e | e <;> rw [e] <;> rfl
  have le : gs_len (S + 10) = 8 := by
    rcases sx_S h with e | e <;> rw [e] <;> rfl
  have r1 : (gs_sI mx (S + 10) n a1).2.1 (S + 9) 3 = Int32.ofNat n := by rw [gs_sIn (Or.inl (by omega))]; exact hn
  have r2 : (gs_sI (gs_sI mx (S + 10) n a1) (S + 11) n a2).2.1 (S + 9) 3 = Int32.ofNat n := by rw [gs_sIn (Or.inl (by omega))]; exact r1
  have r3 : (gs_sI (gs_sI (gs_sI mx (S + 10) n a1) (S + 11) n a2) (S + 12) n a3).2.1 (S + 9) 3 = Int32.ofNat n := by rw [gs_sIn (Or.inl (by omega))]; exact r2
  rw [eq_X3_add, yt9 h, yt9 h, y9_0 h, gs_nn_s, cd, le, hn, cond_true, if_pos (by rw [gs_nlt (by omega) (by omega)]; omega)]
  simp only [gs_fld_sI, gs_ix_sI, gs_sI22, yt9 h, y9_0 h, y9_1 h, y9_2 h, gs_nn_s, r1, r2, r3, gs_ns, yar h 10 13 8 (by decide) hl, yar h 11 13 8 (by decide) hl, yar h 12 13 8 (by decide) hl]
theorem x_add13 (h : gs_Sx mx T S) (hn : mx.2.1 (S + 13) 3 = Int32.ofNat n) (hl : n < 6) : gs_exec X (d + 1) 26 [.inr (.inr (S + 13)), .inl a1, .inl a2, .inl a3] mx = gs_rU (gs_sI (gs_sI (gs_sI (gs_sI mx (S + 14) n a1) (S + 15) n a2) (S + 16) n a3) (S + 13) 3 (Int32.ofNat (n + 1))) := by
  have cd : (Nat.ble 12 (gs_kind (S + 14)) && Nat.ble (gs_kind (S + 14)) 14 && Nat.blt (gs_rk (S + 14)) mx.1.1) = true := by
    rw [y_n h]
    rcases sx_S h with e | e <;> rw [e] <;> rfl
  have le : gs_len (S + 14) = 6 := by
    rcases sx_S h with e | e <;> rw [e] <;> rfl
  have r1 : (gs_sI mx (S + 14) n a1).2.1 (S + 13) 3 = Int32.ofNat n := by rw [gs_sIn (Or.inl (by omega))]; exact hn
  have r2 : (gs_sI (gs_sI mx (S + 14) n a1) (S + 15) n a2).2.1 (S + 13) 3 = Int32.ofNat n := by rw [gs_sIn (Or.inl (by omega))]; exact r1
  have r3 : (gs_sI (gs_sI (gs_sI mx (S + 14) n a1) (S + 15) n a2) (S + 16) n a3).2.1 (S + 13) 3 = Int32.ofNat n := by rw [gs_sIn (Or.inl (by omega))]; exact r2
  rw [eq_X3_add, yt13 h, yt13 h, y13_0 h, gs_nn_s, cd, le, hn, cond_true, if_pos (by rw [gs_nlt (by omega) (by omega)]; omega)]
  simp only [gs_fld_sI, gs_ix_sI, gs_sI22, yt13 h, y13_0 h, y13_1 h, y13_2 h, gs_nn_s, r1, r2, r3, gs_ns, yar h 14 13 6 (by decide) hl, yar h 15 13 6 (by decide) hl, yar h 16 13 6 (by decide) hl]
theorem x_add21 (h : gs_Sx mx T S) (hn : mx.2.1 (S + 21) 3 = Int32.ofNat n) (hl : n < 6) : gs_exec X (d + 1) 114 [.inr (.inr (S + 21)), .inl a1, .inl a2, .inl a3] mx = gs_rU (gs_sI (gs_sI (gs_sI (gs_sI mx (S + 22) n a1) (S + 23) n a2) (S + 24) n a3) (S + 21) 3 (Int32.ofNat (n + 1))) := by
  have r1 : (gs_sI mx (S + 22) n a1).2.1 (S + 21) 3 = Int32.ofNat n := by rw [gs_sIn (Or.inl (by omega))]; exact hn
  have r2 : (gs_sI (gs_sI mx (S + 22) n a1) (S + 23) n a2).2.1 (S + 21) 3 = Int32.ofNat n := by rw [gs_sIn (Or.inl (by omega))]; exact r1
  have r3 : (gs_sI (gs_sI (gs_sI mx (S + 22) n a1) (S + 23) n a2) (S + 24) n a3).2.1 (S + 21) 3 = Int32.ofNat n := by rw [gs_sIn (Or.inl (by omega))]; exact r2
  have l6 : Int32.ofNat n < (6 : Int32) ↔ n < 6 := gs_nlt (b := 6) (by omega) (by decide)
  rw [eq_X10_add, yt21 h, hn, if_pos (l6.mpr hl)]
  simp only [gs_fld_sI, gs_ix_sI, gs_sI22, yt21 h, y21_0 h, y21_1 h, y21_2 h, gs_nn_s, r1, r2, r3, gs_ns, yar h 22 13 6 (by decide) hl, yar h 23 13 6 (by decide) hl, yar h 24 13 6 (by decide) hl]
end AD2
section RX
variable {mr : gs_M} {T : Nat}
theorem r_ix (sr : gs_Sh mr T) {a k len : Nat} {j : Int32} {K : Nat → gs_O} (hk : gs_ok a 13 153 = true) (hl : gs_len a = len) (e : j = Int32.ofNat k) (h : k < len) : gs_ix mr a 13 j K = K k := by
  rw [e]
  exact gs_ixn sr.1 hk (by omega)
end RX
