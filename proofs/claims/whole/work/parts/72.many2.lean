/-! many in the reference; many asked. -/
section MN2
variable {X : gs_E} {d : Nat} {m : gs_M} {T n n0 n1 n2 n6 n7 n8 turn kn g : Nat} {D x w s a b e : Int32} {E : Nat → Int32}
abbrev flY (m : gs_M) (n7 : Nat) (a b : Int32) (k fl : Nat) : Nat := if fl = 1 then 1 else if isBt (gd m k 1) a b ∧ 0 < f_sh (m.2.1 138) (gd m k 1) n7 0 0 then 1 else 0
theorem r_hsY {k fl : Nat} {K : Int32 → gs_M → gs_O} (hX : gs_Fu X) (h : gs_Sh m T) (h7 : n7 ≤ 6) (e7 : m.2.1 119 7 = Int32.ofNat n7) (hk : k < 12) (hfl : fl = 0 ∨ fl = 1) :
    gs_fld m 116 11 (gs_nn (m.2.2.2 116 26) (fun q9 => gs_ix m q9 13 (((16 : Int32) * Int32.ofNat k) + (1 : Int32)) (fun k10 => if Int32.ofNat fl = 0 then gs_bI (gs_exec X (d + 2) 175 [.inl (m.2.1 q9 k10), .inl a, .inl b] m) gs_nt (fun x12 m11 => if x12 = 0 then K 0 m11 else gs_fld m11 116 11 (gs_bI (gs_exec X (d + 2) 290 [.inr (.inr 116), .inl (m.2.1 q9 k10)] m11) gs_th (fun x14 m13 => if 0 < x14 then K 1 m13 else K 0 m13))) else K 1 m))) = K (Int32.ofNat (flY m n7 a b k fl)) m := by
  rw [fl_116 h, sh_116_26 h, gs_nn_s, r_gx h hk (c := 1) (cl := 1) rfl (by decide)]
  unfold flY
  rcases hfl with rfl | rfl
  · rw [if_pos (show Int32.ofNat 0 = 0 from rfl), r_isIn, gs_bI_s, b2_if, if_neg (show ¬ 0 = 1 by decide)]
    by_cases c1 : isBt (gd m k 1) a b
    · rw [if_pos c1, fl_116 h, r_shareOf hX h h7 e7, gs_bI_s]
      by_cases c2 : 0 < f_sh (m.2.1 138) (gd m k 1) n7 0 0
      · rw [if_pos c2, if_pos ⟨c1, c2⟩]; rfl
      · rw [if_neg c2, if_neg (fun z => c2 z.2)]; rfl
    · rw [if_neg c1, if_neg (fun z => c1 z.1)]; rfl
  · rw [if_neg (show ¬ Int32.ofNat 1 = 0 by decide), if_pos rfl]; rfl
def n_res (m : gs_M) (n6 n7 : Nat) (E : Nat → Int32) (s a b e : Int32) (fl q k : Nat) : Nat := if fl = 1 then 1 else if f_hs m n6 n7 E s a b e q k = 1 then 1 else 0
theorem n_res_s {fl q k : Nat} (hfl : fl = 0 ∨ fl = 1) : n_res m n6 n7 E s a b e fl (q + 1) k = n_res m n6 n7 E s a b e (if E k = e ∧ ¬ gd m k 0 = -1 ∧ (s = -1 ∨ f_so m k n6 0 = s) then flY m n7 a b k fl else fl) q (k + 1) := by
  unfold n_res
  rcases hfl with rfl | rfl
  · rw [if_neg (show ¬ 0 = 1 by decide), f_hs_s]
    unfold flY
    rw [if_neg (show ¬ 0 = 1 by decide)]
    by_cases c : hsP m n6 n7 E s a b e k
    · rw [if_pos c, if_pos (show (1 : Int32) = 1 from rfl), if_pos (show E k = e ∧ ¬ gd m k 0 = -1 ∧ (s = -1 ∨ f_so m k n6 0 = s) from ⟨c.1, c.2.1, c.2.2.2.2⟩), if_pos (show isBt (gd m k 1) a b ∧ 0 < f_sh (m.2.1 138) (gd m k 1) n7 0 0 from ⟨c.2.2.1, c.2.2.2.1⟩), if_pos (show 1 = 1 from rfl)]
    · rw [if_neg c]
      by_cases c1 : E k = e ∧ ¬ gd m k 0 = -1 ∧ (s = -1 ∨ f_so m k n6 0 = s)
      · rw [if_pos c1, if_neg (show ¬ (isBt (gd m k 1) a b ∧ 0 < f_sh (m.2.1 138) (gd m k 1) n7 0 0) from fun z => c ⟨c1.1, c1.2.1, z.1, z.2, c1.2.2⟩), if_neg (show ¬ 0 = 1 by decide)]
      · rw [if_neg c1, if_neg (show ¬ 0 = 1 by decide)]
  · rw [if_pos rfl]
    unfold flY
    rw [if_pos rfl, ite_self, if_pos rfl]
theorem flY01 {k fl : Nat} : flY m n7 a b k fl = 0 ∨ flY m n7 a b k fl = 1 := by
  unfold flY
  split
  · exact Or.inr rfl
  · split
    · exact Or.inr rfl
    · exact Or.inl rfl
theorem r_hs_loop {ee v : Nat} (hX : gs_Fu X) (hO : gs_So m T n n0 n1 n2 turn n6 n8) (h7 : n7 ≤ 6) (e7 : m.2.1 119 7 = Int32.ofNat n7) (hE : ∀ k, k < n → m.2.1 151 k = E k) (hs : s = -1 ∨ isIx s (Int32.ofNat n6)) (hee : ee < n) (hEe : E ee = Int32.ofNat ee) : ∀ (q k F fl : Nat) (M : gs_M), gs_Wr m M → (∀ k, k < n → M.2.1 151 k = E k) → k + q = n → (fl = 0 ∨ fl = 1) →
    ∃ M', gs_iter X (gs_exec X (d + 5)) gT_X12_many (F + q + 1) 84 [(0, .inr (.inr 116)), (1, .inl s), (2, .inl a), (3, .inl b), (4, .inl w), (5, .inr (.inl (Int64.ofNat v))), (7, .inl (Int32.ofNat ee)), (8, .inl (Int32.ofNat fl)), (9, .inl (Int32.ofNat k))] [] M = gs_iter X (gs_exec X (d + 5)) gT_X12_many F 67 [(0, .inr (.inr 116)), (1, .inl s), (2, .inl a), (3, .inl b), (4, .inl w), (5, .inr (.inl (Int64.ofNat (v + n_res m n6 n7 E s a b (Int32.ofNat ee) fl q k)))), (7, .inl (Int32.ofNat (ee + 1)))] [] M' ∧ gs_Wr m M' ∧ (∀ k, k < n → M'.2.1 151 k = E k) := by
  obtain ⟨h, -, -, hn, h0, -⟩ := id hO.1
  have i3 : ∀ (M : gs_M), gs_Sh M T → ∀ K : Nat → gs_O, gs_ix M 119 13 3 K = K 3 := fun M hM K => gs_ixe hM.1 rfl rfl
  intro q
  induction q with
  | zero =>
    intro k F fl M hW hEM hk hfl
    have hM := wr_sh h hW
    have e3M := (wr_ga hO.1 hW).2.2.1
    refine ⟨M, ?_, hW, hEM⟩
    show gs_iter X (gs_exec X (d + 5)) gT_X12_many (F + 1) 84 _ [] M = _
    rw [eq_X12_many_84, fl_116 hM, sh_116_12 hM, gs_nn_s, i3 M hM, e3M, if_neg (fun z => by have := (gs_nlt (by omega) (by omega)).mp z; omega), gs_ns]
    rcases hfl with rfl | rfl
    · rw [if_pos (show Int32.ofNat 0 = 0 from rfl), show Int64.ofNat v + (0 : Int64) = Int64.ofNat (v + 0) from j_add v 0]; rfl
    · rw [if_neg (show ¬ Int32.ofNat 1 = 0 by decide), show Int64.ofNat v + (1 : Int64) = Int64.ofNat (v + 1) from j_add v 1]; rfl
  | succ q ih =>
    intro k F fl M hW hEM hk hfl
    have hkn : k < n := by omega
    have hM := wr_sh h hW
    obtain ⟨-, -, e3M, -, -, -, -, -, -, -, -, -, hVM⟩ := wr_ga hO.1 hW
    have e7M : M.2.1 119 7 = Int32.ofNat n7 := by rw [wr_cell hW 119 (by decide) (by decide)]; exact e7
    have hrk : gd M k 0 < 0 ↔ gd m k 0 = -1 := (f_rock (hVM k hkn) h0).trans (by rw [wr_gd hW])
    have fY : ∀ M' : gs_M, gs_Wr m M' → flY M' n7 a b k fl = flY m n7 a b k fl := fun M' hW' => by
      unfold flY
      rw [wr_gd hW', wr_cell hW' 138 (by decide) (by decide)]
    rw [n_res_s hfl]
    show ∃ M', gs_iter X (gs_exec X (d + 5)) gT_X12_many (F + q + 1 + 1) 84 _ [] M = _ ∧ _
    rw [eq_X12_many_84, fl_116 hM, sh_116_12 hM, gs_nn_s, i3 M hM, e3M, if_pos ((gs_nlt (by omega) (by omega)).mpr (by omega)), fl_116 hM, sh_116_58 hM, gs_nn_s, r_i151 hM (by omega), hEM ee hee, if_pos hEe, fl_116 hM, gs_nn_s, r_i151 hM (by omega), hEM k hkn, gs_ns]
    by_cases c1 : E k = Int32.ofNat ee
    · rw [if_pos c1, fl_116 hM, r_isRock hM (by omega), gs_bI_s, b2_if]
      by_cases c2 : gd m k 0 = -1
      · rw [if_pos (hrk.mpr c2), if_neg (show ¬ (E k = Int32.ofNat ee ∧ ¬ gd m k 0 = -1 ∧ (s = -1 ∨ f_so m k n6 0 = s)) from fun z => z.2.1 c2)]
        exact ih (k + 1) F fl M hW hEM (by omega) hfl
      · rw [if_neg (fun z => c2 (hrk.mp z))]
        by_cases c3 : s = -1
        · rw [if_pos (show s < 0 by rw [c3]; decide), if_pos ⟨c1, c2, Or.inl c3⟩]
          have L := r_hsY (X := X) (d := d + 3) (a := a) (b := b) (fl := fl) (k := k) (K := fun f M => gs_iter X (gs_exec X (d + 5)) gT_X12_many (F + q + 1) 84 [(0, .inr (.inr 116)), (1, .inl s), (2, .inl a), (3, .inl b), (4, .inl w), (5, .inr (.inl (Int64.ofNat v))), (7, .inl (Int32.ofNat ee)), (8, .inl f), (9, .inl (Int32.ofNat (k + 1)))] [] M) hX hM h7 e7M (by omega) hfl
          rw [fY M hW] at L
          obtain ⟨M1, i1, i2⟩ := ih (k + 1) F (flY m n7 a b k fl) M hW hEM (by omega) flY01
          exact ⟨M1, L.trans i1, i2⟩
        · have c4 : ¬ s < 0 := (hs.resolve_left c3).1
          obtain ⟨M2, e2, hW2⟩ := r_sortOf (X := X) (d := d + 1) hX (wr_so hO hW) hkn
          have hW2' := wr_trans hW hW2.1
          have hM2 := wr_sh h hW2'
          have e7M2 : M2.2.1 119 7 = Int32.ofNat n7 := by rw [wr_cell hW2' 119 (by decide) (by decide)]; exact e7
          have hEM2 : ∀ k, k < n → M2.2.1 151 k = E k := fun k hk => (congrFun hW2.2 k).trans (hEM k hk)
          rw [if_neg c4, fl_116 hM, e2, gs_bI_s, wr_so_f hW]
          by_cases c5 : f_so m k n6 0 = s
          · rw [if_pos c5, if_pos ⟨c1, c2, Or.inr c5⟩]
            have L := r_hsY (X := X) (d := d + 3) (a := a) (b := b) (fl := fl) (k := k) (K := fun f M => gs_iter X (gs_exec X (d + 5)) gT_X12_many (F + q + 1) 84 [(0, .inr (.inr 116)), (1, .inl s), (2, .inl a), (3, .inl b), (4, .inl w), (5, .inr (.inl (Int64.ofNat v))), (7, .inl (Int32.ofNat ee)), (8, .inl f), (9, .inl (Int32.ofNat (k + 1)))] [] M) hX hM2 h7 e7M2 (by omega) hfl
            rw [fY M2 hW2'] at L
            obtain ⟨M1, i1, i2⟩ := ih (k + 1) F (flY m n7 a b k fl) M2 hW2' hEM2 (by omega) flY01
            exact ⟨M1, L.trans i1, i2⟩
          · rw [if_neg c5, if_neg (show ¬ (E k = Int32.ofNat ee ∧ ¬ gd m k 0 = -1 ∧ (s = -1 ∨ f_so m k n6 0 = s)) from fun z => z.2.2.elim c3 c5)]
            exact ih (k + 1) F fl M2 hW2' hEM2 (by omega) hfl
    · rw [if_neg c1, if_neg (show ¬ (E k = Int32.ofNat ee ∧ ¬ gd m k 0 = -1 ∧ (s = -1 ∨ f_so m k n6 0 = s)) from fun z => c1 z.1)]
      exact ih (k + 1) F fl M hW hEM (by omega) hfl
end MN2
