/-! A guest's details, read by both sides. -/
section CG
variable {A B A' B' : Nat → Nat → Int32} {c1 E c1' E' : Nat → Int32} {n0 n1 n2 n6 n7 n8 : Nat}
theorem rRR_c (h : rRR A B n0) (h1 : A' 2 = A 2) (h2 : A' 3 = A 3) (h3 : A' 4 = A 4) (g1 : B' 5 = B 5) (g2 : B' 6 = B 6) (g3 : B' 7 = B 7) : rRR A' B' n0 := by
  unfold rRR
  rw [h1, h2, h3, g1, g2, g3]
  exact h
theorem rRP_c (h : rRP A B n1) (h1 : A' 6 = A 6) (h2 : A' 7 = A 7) (h3 : A' 8 = A 8) (g1 : B' 8 = B 8) (g2 : B' 9 = B 9) (g3 : B' 10 = B 10) : rRP A' B' n1 := by
  unfold rRP
  rw [h1, h2, h3, g1, g2, g3]
  exact h
theorem rRB_c (h : rRB A B n2) (h1 : A' 10 = A 10) (h2 : A' 11 = A 11) (g1 : B' 11 = B 11) (g2 : B' 12 = B 12) : rRB A' B' n2 := by
  unfold rRB
  rw [h1, h2, g1, g2]
  exact h
theorem rRW_c (h : rRW A B n7) (h1 : A' 22 = A 22) (h2 : A' 23 = A 23) (h3 : A' 24 = A 24) (g1 : B' 19 = B 19) : rRW A' B' n7 := by
  unfold rRW
  rw [h1, h2, h3, g1]
  exact h
theorem rRK_c (h : rRK A B n8) (h1 : A' 18 = A 18) (h2 : A' 19 = A 19) (g1 : B' 20 = B 20) (g2 : B' 21 = B 21) (g3 : B' 22 = B 22) : rRK A' B' n8 := by
  unfold rRK kB pB oB
  rw [h1, h2, g1, g2, g3]
  exact h
theorem rRS_c (h : rRS A B n6 n8) (h1 : A' 14 = A 14) (h2 : A' 15 = A 15) (h3 : A' 16 = A 16) (g1 : B' 15 = B 15) (g2 : B' 16 = B 16) (g3 : B' 17 = B 17) (g4 : B' 18 = B 18) (g5 : B' 20 = B 20) (g6 : B' 21 = B 21) (g7 : B' 22 = B 22) : rRS A' B' n6 n8 := by
  unfold rRS rS1 sbB seB kB pB oB
  rw [h1, h2, h3, g1, g2, g3, g4, g5, g6, g7]
  exact h
theorem rRU_c (h : rRU A B c1 E) (h1 : A' 0 10 = A 0 10) (h2 : A' 0 11 = A 0 11) (h3 : A' 0 12 = A 0 12) (h4 : A' 0 13 = A 0 13) (g1 : B' 4 = B 4) (e1 : c1' 7 = c1 7) (e2 : E' 17 = E 17) : rRU A' B' c1' E' := by
  unfold rRU
  rw [h1, h2, h3, h4, g1, e1, e2]
  exact h
end CG
def kdw (w : Nat) : Nat := if w = 0 then 6 else if w = 1 then 7 else if w = 2 then 11 else if w = 3 then 8 else if w = 4 then 9 else if w = 5 then 10 else 12
def wdk (c : Nat) : Nat := if c = 6 then 0 else if c = 7 then 1 else if c = 8 then 3 else if c = 9 then 4 else if c = 10 then 5 else if c = 11 then 2 else 6
def b1 (s w : Nat) : Nat := s / 2 ^ w % 2
def cmk (s : Nat) : Nat := b1 s 0 * 64 + b1 s 1 * 128 + b1 s 2 * 2048 + b1 s 3 * 256 + b1 s 4 * 512 + b1 s 5 * 1024 + b1 s 6 * 4096
def pcs (s : Nat) : Nat := b1 s 0 + b1 s 1 + b1 s 2 + b1 s 3 + b1 s 4 + b1 s 5 + b1 s 6
theorem det1 : ∀ s, s < 128 → ∀ w, w < 7 → ((Int32.ofNat (cmk s) &&& ((1 : Int32) <<< (Int32.ofNat (kdw w) &&& 31)) = 0) ↔ b1 s w = 0) := by decide +kernel
theorem det2 : ∀ s, s < 128 → ∀ w, w < 7 → (((Int32.ofNat s >>> (Int32.ofNat w &&& 31)) &&& (1 : Int32) = (1 : Int32)) ↔ ¬ b1 s w = 0) := by decide +kernel
theorem det3 : ∀ s, s < 128 → ∀ w, w < 7 → b1 s w = 0 → (Int32.ofNat (cmk s) ||| ((1 : Int32) <<< (Int32.ofNat (kdw w) &&& 31)) = Int32.ofNat (cmk (s + 2 ^ w)) ∧ Int32.ofNat s ||| ((1 : Int32) <<< (Int32.ofNat w &&& 31)) = Int32.ofNat (s + 2 ^ w) ∧ pcs (s + 2 ^ w) = pcs s + 1 ∧ s + 2 ^ w < 128) := by decide +kernel
theorem det4 : ∀ s, s < 128 → pcs s ≤ 7 := by decide +kernel
theorem det5 : ∀ c, c < 13 → 6 ≤ c → wdk c < 7 ∧ kdw (wdk c) = c := by decide
def gwd (c : Nat) : Int32 := if 6 ≤ c ∧ c ≤ 12 then Int32.ofNat (wdk c) else -1
theorem gwd_k : ∀ c, c < 32 → (if Int32.ofNat (pmo c) < (13 : Int32) then (if Int32.ofNat (pmo c) < (26 : Int32) then (-1 : Int32) else if (29 : Int32) < Int32.ofNat (pmo c) then -1 else Int32.ofNat (pmo c) - (26 : Int32) + (3 : Int32)) else if (15 : Int32) < Int32.ofNat (pmo c) then (if Int32.ofNat (pmo c) < (26 : Int32) then (-1 : Int32) else if (29 : Int32) < Int32.ofNat (pmo c) then -1 else Int32.ofNat (pmo c) - (26 : Int32) + (3 : Int32)) else Int32.ofNat (pmo c) - (13 : Int32)) = gwd c := by decide +kernel
theorem rk1 : ∀ c, c < 49 → (rk c = 1 ↔ c < 32) := by decide
theorem rvl_k {c v : Nat} (h : c < 32) : rvl c v = pmo c := if_pos h
/-- which side, of how many: bits -/
def sdb (c : Nat) : Nat := 2 ^ (c - 23)
theorem sd1 : ∀ c, c < 27 → 23 ≤ c → (1 : Int32) <<< ((Int32.ofNat (pmo c) - (19 : Int32)) &&& 31) = Int32.ofNat (sdb c) ∧ sdb c ∈ gs_vs := by decide +kernel
theorem sd2 : ∀ c, c < 27 → ∀ e, e < 27 → 23 ≤ c → 23 ≤ e → (((Int32.ofNat (pmo e) - (19 : Int32)) / (2 : Int32) = (Int32.ofNat (pmo c) - (19 : Int32)) / (2 : Int32)) ↔ (24 < c ↔ 24 < e)) := by decide +kernel
theorem sd3 : ∀ c, c < 27 → ∀ e, e < 27 → (23 ≤ c ∧ 23 ≤ e ∧ ¬ (24 < c ↔ 24 < e)) → Int32.ofNat (sdb c) ||| Int32.ofNat (sdb e) = Int32.ofNat (sdb c + sdb e) ∧ sdb c + sdb e ∈ gs_vs := by decide +kernel
theorem sd4 : ∀ c, c < 49 → ((rk c = 1 ∧ ¬ Int32.ofNat (pmo c) < (19 : Int32) ∧ ¬ (22 : Int32) < Int32.ofNat (pmo c)) ↔ 23 ≤ c ∧ c ≤ 26) := by decide +kernel
theorem sd5 : ∀ c, c < 27 → 23 ≤ c → (if Int32.ofNat c = (23 : Int32) then (1 : Int32) else if Int32.ofNat c = (24 : Int32) then 2 else if Int32.ofNat c = (25 : Int32) then 4 else 8) = Int32.ofNat (sdb c) := by decide +kernel
section DT
variable {X : gs_E} {d d' T S TR L : Nat} {by_ : Nat → Nat} {m0 r0 mx mr : gs_M} {A B : Nat → Nat → Int32} {c1 c2 E : Nat → Int32} {c v p q : Nat} {Q : gs_M → gs_M → Prop}
theorem r_guestWord (sr : gs_Sh mr T) (t : gs_TK mx mr L c v p q) : gs_exec X (d + 2) 200 [.inr (.inr 116)] mr = gs_rI (gwd c) mr := by
  obtain ⟨k1, k2, k3, k4, k5, k6, k7, k8, -⟩ := t
  have l1 := rk_lt c k1
  have e1 : Int32.ofNat (rk c) = (1 : Int32) ↔ rk c = 1 := n_eq (b := 1) (by omega) (by decide)
  rw [eq_X12_guestWord, fl_116 sr, k7]
  by_cases z : c < 32
  · have k9 := k8 (by omega) (by omega)
    rw [rvl_k z] at k9
    have key := gwd_k c z
    rw [if_pos (e1.mpr ((rk1 c k1).mpr z)), fl_116 sr, k9, eq_X12_isIn, ← key]
    have snd : ∀ M : gs_M, M = mr → gs_fld M 116 11 (gs_bI (gs_exec X (d + 1) 175 [.inl (M.2.1 116 9), .inl (26 : Int32), .inl (29 : Int32)] M) gs_nt (fun x4 m3 => if x4 = 0 then gs_rI (-1 : Int32) m3 else gs_fld m3 116 11 (gs_rI (((m3.2.1 116 9) - (26 : Int32)) + (3 : Int32)) m3))) = gs_rI (if Int32.ofNat (pmo c) < (26 : Int32) then (-1 : Int32) else if (29 : Int32) < Int32.ofNat (pmo c) then -1 else Int32.ofNat (pmo c) - (26 : Int32) + (3 : Int32)) mr := by
      intro M hM
      subst hM
      rw [fl_116 sr, k9, eq_X12_isIn]
      by_cases a1 : Int32.ofNat (pmo c) < (26 : Int32)
      · rw [if_pos a1, if_pos a1, gs_bt0, gs_bI_s, if_pos rfl]
      · rw [if_neg a1, if_neg a1]
        by_cases a2 : (29 : Int32) < Int32.ofNat (pmo c)
        · rw [if_pos a2, if_pos a2, gs_bt0, gs_bI_s, if_pos rfl]
        · rw [if_neg a2, if_neg a2, gs_bt1, gs_bI_s, if_neg (by decide), fl_116 sr, k9]
    by_cases a1 : Int32.ofNat (pmo c) < (13 : Int32)
    · rw [if_pos a1, if_pos a1, gs_bt0, gs_bI_s, if_pos rfl]
      exact snd mr rfl
    · rw [if_neg a1, if_neg a1]
      by_cases a2 : (15 : Int32) < Int32.ofNat (pmo c)
      · rw [if_pos a2, if_pos a2, gs_bt0, gs_bI_s, if_pos rfl]
        exact snd mr rfl
      · rw [if_neg a2, if_neg a2, gs_bt1, gs_bI_s, if_neg (by decide), fl_116 sr, k9]
  · rw [if_neg (fun y => z ((rk1 c k1).mp (e1.mp y)))]
    unfold gwd
    rw [if_neg (by omega)]
theorem r_isSide (sr : gs_Sh mr T) (t : gs_TK mx mr L c v p q) : gs_exec X (d + 1) 203 [.inr (.inr 116)] mr = gs_rI (b2 (23 ≤ c ∧ c ≤ 26)) mr := by
  obtain ⟨k1, k2, k3, k4, k5, k6, k7, k8, -⟩ := t
  have l1 := rk_lt c k1
  have e1 : Int32.ofNat (rk c) = (1 : Int32) ↔ rk c = 1 := n_eq (b := 1) (by omega) (by decide)
  have key := sd4 c k1
  unfold b2
  rw [eq_X12_isSide, fl_116 sr, k7]
  by_cases z : rk c = 1
  · have c32 := (rk1 c k1).mp z
    have k9 := k8 (by omega) (by omega)
    rw [rvl_k c32] at k9
    rw [if_pos (e1.mpr z), fl_116 sr, k9]
    by_cases a1 : Int32.ofNat (pmo c) < (19 : Int32)
    · rw [if_pos a1, gs_bt0, if_neg (fun y => (key.mpr y).2.1 a1)]
    · rw [if_neg a1, fl_116 sr]
      by_cases a2 : (22 : Int32) < Int32.ofNat (pmo c)
      · rw [if_pos a2, gs_bt0, if_neg (fun y => (key.mpr y).2.2 a2)]
      · rw [if_neg a2, gs_bt1, if_pos (key.mp ⟨z, a1, a2⟩)]
  · rw [if_neg (fun y => z (e1.mp y)), gs_bt0, if_neg (fun y => z (key.mpr y).1)]
theorem x_isSide {m : gs_M} (hc : c < 49) : gs_exec X (d + 1) 60 [.inl (Int32.ofNat c)] m = gs_rI (b2 (23 ≤ c ∧ c ≤ 26)) m := by
  have l1 : Int32.ofNat c < (23 : Int32) ↔ c < 23 := gs_nlt (b := 23) (by omega) (by decide)
  have l2 : (26 : Int32) < Int32.ofNat c ↔ 26 < c := gs_nlt (a := 26) (by decide) (by omega)
  rw [eq_X5_isSide]
  exact b2_3 m (by rw [l1, l2]; omega)
theorem x_sideBit {m : gs_M} (h1 : 23 ≤ c) (h2 : c < 27) : gs_exec X (d + 1) 61 [.inl (Int32.ofNat c)] m = gs_rI (Int32.ofNat (sdb c)) m := by
  rw [eq_X5_sideBit, ← sd5 c h2 h1, gs_if_rI, gs_if_rI, gs_if_rI]
end DT
