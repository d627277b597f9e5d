/-! feed, known, doubt, look: from the state and into it. -/
theorem upr_no {j k : Nat} (hj : j < 18) (hk : k < wdr j) : ¬ upr (124 + j) k := by
  intro q
  unfold upr at q
  have hc : j = 0 ∨ j = 1 ∨ j = 2 ∨ j = 3 ∨ j = 4 ∨ j = 5 ∨ j = 6 ∨ j = 7 ∨ j = 8 ∨ j = 9 ∨ j = 10 ∨ j = 11 ∨ j = 12 ∨ j = 13 ∨ j = 14 ∨ j = 15 ∨ j = 16 ∨ j = 17 := by omega
  rcases hc with e | e | e | e | e | e | e | e | e | e | e | e | e | e | e | e | e | e <;> subst e
  · have hk : k < 8 := hk
    omega
  · have hk : k < 8 := hk
    omega
  · have hk : k < 8 := hk
    omega
  · have hk : k < 10 := hk
    omega
  · have hk : k < 10 := hk
    omega
  · have hk : k < 10 := hk
    omega
  · have hk : k < 8 := hk
    omega
  · have hk : k < 8 := hk
    omega
  · have hk : k < 192 := hk
    omega
  · have hk : k < 90 := hk
    omega
  · have hk : k < 6 := hk
    omega
  · have hk : k < 6 := hk
    omega
  · have hk : k < 6 := hk
    omega
  · have hk : k < 6 := hk
    omega
  · have hk : k < 18 := hk
    omega
  · have hk : k < 64 := hk
    omega
  · have hk : k < 64 := hk
    omega
  · have hk : k < 64 := hk
    omega
/-- the cells of tapes, readers and tales that are not told -/
def rsIo (S x i : Nat) : Prop := x = 1 ∨ x = 2 ∨ x = 3 ∨ x = 4 ∨ x = 117 ∨ (x = 116 ∧ i ≠ 36 ∧ i ≠ 37 ∧ i ≠ 51) ∨ x = 120 ∨ x = 123 ∨ upr x i ∨ x = 142 ∨ x = 143 ∨ (S ≤ x ∧ x < S + 49)
def rsKd (x i : Nat) : Prop := x = 0 ∨ (x = 116 ∧ (i = 2 ∨ i = 36 ∨ i = 37))
theorem feed_io {S x i : Nat} (q : x = 4 ∨ (x = 3 ∧ i = 4) ∨ x = 117 ∨ (x = 116 ∧ (i = 1 ∨ i = 2))) : rsIo S x i := by
  rcases q with q | q | q | q
  · exact Or.inr (Or.inr (Or.inr (Or.inl q)))
  · exact Or.inr (Or.inr (Or.inl q.1))
  · exact Or.inr (Or.inr (Or.inr (Or.inr (Or.inl q))))
  · exact Or.inr (Or.inr (Or.inr (Or.inr (Or.inr (Or.inl (⟨q.1, by omega, by omega, by omega⟩))))))
theorem rsQx_io {S x i : Nat} (q : rsQx x i) : rsIo S x i := by
  rcases q with q | q | q | q | q | q
  · exact Or.inr (Or.inr (Or.inr (Or.inr (Or.inr (Or.inl q)))))
  · exact Or.inr (Or.inr (Or.inr (Or.inr (Or.inr (Or.inr (Or.inl q))))))
  · exact Or.inr (Or.inr (Or.inr (Or.inr (Or.inr (Or.inr (Or.inr (Or.inl q)))))))
  · exact Or.inr (Or.inr (Or.inr (Or.inr (Or.inr (Or.inr (Or.inr (Or.inr (Or.inl q))))))))
  · exact Or.inr (Or.inr (Or.inr (Or.inr (Or.inr (Or.inr (Or.inr (Or.inr (Or.inr (Or.inl q)))))))))
  · exact Or.inr (Or.inr (Or.inr (Or.inr (Or.inr (Or.inr (Or.inr (Or.inr (Or.inr (Or.inr (Or.inl q))))))))))
theorem rsPx_io {S x i : Nat} (q : rsPx S x i) : rsIo S x i := by
  rcases q with q | q | q | q
  · exact Or.inl q
  · exact Or.inr (Or.inl q)
  · exact Or.inr (Or.inr (Or.inl q))
  · exact Or.inr (Or.inr (Or.inr (Or.inr (Or.inr (Or.inr (Or.inr (Or.inr (Or.inr (Or.inr (Or.inr (q)))))))))))
section FEEDS
variable {X : gs_E} {m M : gs_M} {T S n n0 n1 n2 n5 n6 n7 n8 turn price limit blur kn k' z z' t g c : Nat} {D D' x y w a b e f : Int32}
theorem vw_io (h : gs_Sh m T) (hS : S = 85 - T) (hW : ∀ x i, ¬ rsIo S x i → M.2.1 x i = m.2.1 x i) : gs_Vw m M T := by
  have hT := h.2.1
  refine ⟨fun o i ho hi => hW _ _ (fun q => ?_), fun i _ => hW _ _ (fun q => ?_), fun i _ => hW _ _ (fun q => ?_), fun j k hj hk => hW _ _ (fun q => ?_)⟩
  · unfold rsIo upr at q
    omega
  · unfold rsIo upr at q
    omega
  · unfold rsIo upr at q
    omega
  · unfold rsIo at q
    rcases q with q | q | q | q | q | q | q | q | q | q | q | q
    all_goals first | exact upr_no hj hk q | omega
theorem sz_io (h : gs_Sz m T n n0 n1 n2 n5 n6 n7 n8 turn price limit blur kn z D) (hM : gs_Sh M T) (hS : S = 85 - T) (hW : ∀ x i, ¬ rsIo S x i → M.2.1 x i = m.2.1 x i) (hI : gs_Io M z') : gs_Sz M T n n0 n1 n2 n5 n6 n7 n8 turn price limit blur kn z' D := by
  have hT := (sz_sh h).2.1
  have v := vw_io (sz_sh h) hS hW
  have no : ∀ x i, x = 0 ∨ (6 ≤ x ∧ x ≤ 17) ∨ (x = 116 ∧ (i = 36 ∨ i = 37 ∨ i = 51)) → M.2.1 x i = m.2.1 x i := fun x i hx => hW _ _ (fun q => by unfold rsIo upr at q; omega)
  refine ⟨bl_vw v hM h.1, ?_, (no 116 51 (by omega)).trans h.2.2.1, vw_ce v (sz_ga h) h.2.2.2.1 (no 0 8 (by omega)) (funext fun i => no 17 i (by omega)), vw_cp v (sz_ga h) (sz_ca h).2.2.2.1 h.2.2.2.2.1 (no 0 7 (by omega)) (funext fun i => no 6 i (by omega)) (funext fun i => no 7 i (by omega)) (funext fun i => no 14 i (by omega)), hI⟩
  have k := h.2.1
  unfold gs_Kn at k ⊢
  rw [no 0 5 (by omega), no 0 6 (by omega), no 116 36 (by omega), no 116 37 (by omega)]
  exact k
theorem sz_kd (h : gs_Sz m T n n0 n1 n2 n5 n6 n7 n8 turn price limit blur kn z D) (hM : gs_Sh M T) (hW : ∀ x i, ¬ rsKd x i → M.2.1 x i = m.2.1 x i) (hK : gs_Kn M n k' D') (h7 : M.2.1 0 7 = 1) (h8 : M.2.1 0 8 = 1) : gs_Sz M T n n0 n1 n2 n5 n6 n7 n8 turn price limit blur k' z D' := by
  have hT := (sz_sh h).2.1
  have v : gs_Vw m M T := by
    refine ⟨fun o i ho hi => hW _ _ (fun q => ?_), fun i _ => hW _ _ (fun q => ?_), fun i _ => hW _ _ (fun q => ?_), fun j k hj hk => hW _ _ (fun q => ?_)⟩ <;> (unfold rsKd at q; omega)
  refine ⟨bl_vw v hM h.1, hK, (hW 116 51 (fun q => by unfold rsKd at q; omega)).trans h.2.2.1, fun q => ?_, fun q => ?_, ?_⟩
  · rw [h8] at q
    exact absurd q (by decide)
  · rw [h7] at q
    exact absurd q (by decide)
  · refine io_c (R := rsKd) h.2.2.2.2.2 hW ?_ ?_ ?_ ?_ ?_ ?_ ?_ ?_ ?_ ?_ <;> first | (intro i q; unfold rsKd at q; omega) | (intro q; unfold rsKd at q; omega)
theorem sz_gb (h : gs_Sz m T n n0 n1 n2 n5 n6 n7 n8 turn price limit blur kn z D) : gs_Sz (gs_gb m) T n n0 n1 n2 n5 n6 n7 n8 turn price limit blur kn z D := by
  refine sz_io (S := 85 - T) h (sz_sh h) rfl (fun _ _ _ => rfl) ?_
  exact io_c (R := fun _ _ => False) h.2.2.2.2.2 (fun _ _ _ => rfl) (fun _ q => q) (fun q => q) (fun _ q => q) (fun _ q => q) (fun _ q => q) (fun _ q => q) (fun _ q => q) (fun q => q) (fun q => q) (fun q => q)
theorem ct_gb (hc : gs_Ct t m) (e : M.1 = (gs_gb m).1) : gs_Ct (t + 1) M := by
  unfold gs_Ct at hc ⊢
  rw [e]
  show m.1.2.1 + 1 ≤ t + 1 ∧ m.1.2.2 + 6 ≤ 7000001 + 6 * (t + 1)
  omega
theorem q_feed (hX : gs_Fu X) (hc : gs_Ct t m) (h : gs_Sz m T n n0 n1 n2 n5 n6 n7 n8 turn price limit blur kn z D) : gs_Q2 X 39 117 174 [.inl a, .inl b, .inl w, .inl e, .inl f] m (gs_Iv (t + 1)) := by
  obtain ⟨hT, hL, hD, hN, f1, f2⟩ := h.2.2.2.2.2
  obtain ⟨M, e1, k1⟩ := x_feed (X := X) (d := 37) (a := a) (b := b) (c := w) (e := e) (g := f) hX (sz_sh h) hT.1 hT.2.2.1
  by_cases q : 800 < z + 20
  · rw [if_pos q] at k1 e1
    subst k1
    obtain ⟨M', e2, k2⟩ := r_feed (X := X) (d := 38) (a := a) (b := b) (c := w) (e := e) (g := f) hX (sz_sh h) hT.2.1 hT.2.2.1
    rw [if_pos q] at k2 e2
    subst k2
    exact qt hc h e1 e2
  · rw [if_neg q] at k1 e1
    have hM : gs_Sh M T := wc_sh (sz_sh h) k1.1
    have m1 : M.2.1 116 1 = Int32.ofNat z := (k1.1.2.2 116 1 (fun q => by unfold rsC at q; omega)).trans hT.2.1
    obtain ⟨M', e2, k2⟩ := r_feed (X := X) (d := 38) (a := a) (b := b) (c := w) (e := e) (g := f) hX hM m1 hT.2.2.1
    rw [if_neg q] at k2 e2
    obtain ⟨M1, rfl, k3⟩ := k2
    have hM0 : gs_Sh M1 T := wc_sh hM k3.1
    have hM1 : gs_Sh (gs_sI M1 116 1 (Int32.ofNat (z + 20))) T := hM0
    have fr : ∀ x i, ¬ (x = 4 ∨ (x = 3 ∧ i = 4) ∨ x = 117 ∨ (x = 116 ∧ (i = 1 ∨ i = 2))) → (gs_sI M1 116 1 (Int32.ofNat (z + 20))).2.1 x i = m.2.1 x i := fun x i hx => by
      rw [gs_sIn (by omega), k3.1.2.2 x i (fun q => by unfold rsU at q; omega), k1.1.2.2 x i (fun q => by unfold rsC at q; omega)]
    refine ⟨_, M, _, e1, e2, hM.1, iv_of hc (k3.1.1.trans k1.1.1) (sz_io (S := 85 - T) h hM1 rfl (fun x i hx => fr x i (fun q => hx (feed_io q))) ⟨tp_feed hT q k1 k3, fun k hk => ?_, fun j hj => ?_, fun k hk => ?_, ?_, ?_⟩)⟩
    · rw [fr 5 k (by omega)]
      exact hL k hk
    · rw [fr 118 j (by omega)]
      exact hD j hj
    · rw [fr 121 k (by omega)]
      exact hN k hk
    · rw [fr 1 9 (by omega), fr 116 4 (by omega)]
      exact f1
    · rw [fr 1 10 (by omega), fr 116 5 (by omega)]
      exact f2
theorem q_known (hX : gs_Fu X) (hc : gs_Ct t m) (h : gs_Sz m T n n0 n1 n2 n5 n6 n7 n8 turn price limit blur kn z D) : gs_Q2 X 39 136 276 [.inl a] m (gs_Iv (t + 1)) := by
  obtain ⟨h0, a1, a2, a3, -⟩ := sz_ga h
  have e1 := x_known (X := X) (d := 37) (x := a) h0
  rw [a1] at e1
  by_cases q : isBt a (-1) (Int32.ofNat n)
  · rw [if_pos q] at e1
    have e2 := r_known (X := X) (d := 37) (x := a) (m := gs_sI (gs_sI (gs_sI m 0 5 (if a = -1 then Int32.ofNat n else a)) 0 7 1) 0 8 1) h0
    have a2' : (gs_sI (gs_sI (gs_sI m 0 5 (if a = -1 then Int32.ofNat n else a)) 0 7 1) 0 8 1).2.1 119 3 = Int32.ofNat n := a2
    rw [a2', if_pos q] at e2
    have hb := i_bt.mp q
    rw [gs_n32 (by omega)] at hb
    have hm1 : (-1 : Int32).toInt = -1 := rfl
    rw [hm1] at hb
    obtain ⟨k', hk, ek, el⟩ : ∃ k', k' ≤ n ∧ (if a = -1 then Int32.ofNat n else a) = Int32.ofNat k' ∧ ((a = -1 ∧ k' = n) ∨ a = Int32.ofNat k') := by
      by_cases y : a = -1
      · exact ⟨n, Nat.le_refl _, by rw [if_pos y], Or.inl ⟨y, rfl⟩⟩
      · have y0 : a.toInt ≠ -1 := fun u => y (Int32.toInt_inj.mp (u.trans hm1.symm))
        have ea : a = Int32.ofNat a.toInt.toNat := Int32.toInt_inj.mp (by rw [gs_n32 (by omega)]; omega)
        exact ⟨a.toInt.toNat, by omega, by rw [if_neg y]; exact ea, Or.inr ea⟩
    refine ⟨_, _, _, e1, e2, h0.1, iv_of hc rfl (sz_kd (k' := k') (D' := D) h h0 (fun x i hx => ?_) ⟨?_, hk, ?_, ?_, ?_⟩ rfl rfl)⟩
    · unfold rsKd at hx
      rw [gs_sIn (by omega), gs_sIn (by omega), gs_sIn (by omega), gs_sIn (by omega), gs_sIn (by omega)]
    · exact ek
    · exact el
    · exact h.2.1.2.2.2.1
    · exact h.2.1.2.2.2.2
  · rw [if_neg q] at e1
    have e2 := r_known (X := X) (d := 37) (x := a) h0
    rw [a2, if_neg q] at e2
    exact qt hc h e1 e2
theorem q_doubt (hX : gs_Fu X) (hc : gs_Ct t m) (h : gs_Sz m T n n0 n1 n2 n5 n6 n7 n8 turn price limit blur kn z D) : gs_Q2 X 39 152 302 [.inl a, .inl b] m (gs_Iv (t + 1)) := by
  obtain ⟨h0, a1, a2, a3, -⟩ := sz_ga h
  obtain ⟨k1, k2, k3, k4, k5⟩ := h.2.1
  have e1 := x_doubt (X := X) (d := 37) (x := a) (y := b) h0
  rw [a1, k4] at e1
  by_cases q : isIx a (Int32.ofNat n) ∧ ¬ b2 (isBit D a) = b
  · rw [if_pos q.1, if_neg q.2] at e1
    have e2 := r_doubt (X := X) (d := 37) (x := a) (y := b) (m := gs_sI (gs_sI (gs_sI m 0 6 (D ^^^ (1 <<< (a &&& 31)))) 0 7 1) 0 8 1) h0
    have a2' : (gs_sI (gs_sI (gs_sI m 0 6 (D ^^^ (1 <<< (a &&& 31)))) 0 7 1) 0 8 1).2.1 119 3 = Int32.ofNat n := a2
    have k5' : (gs_sI (gs_sI (gs_sI m 0 6 (D ^^^ (1 <<< (a &&& 31)))) 0 7 1) 0 8 1).2.1 116 36 = D := k5
    rw [a2', k5', if_pos q.1, if_neg q.2] at e2
    refine ⟨_, _, _, e1, e2, h0.1, iv_of hc rfl (sz_kd (k' := kn) (D' := D ^^^ (1 <<< (a &&& 31))) h h0 (fun x i hx => ?_) ⟨k1, k2, k3, rfl, rfl⟩ rfl rfl)⟩
    unfold rsKd at hx
    rw [gs_sIn (by omega), gs_sIn (by omega), gs_sIn (by omega), gs_sIn (by omega), gs_sIn (by omega)]
  · have e2 := r_doubt (X := X) (d := 37) (x := a) (y := b) h0
    rw [a2, k5] at e2
    by_cases q1 : isIx a (Int32.ofNat n)
    · have q2 : b2 (isBit D a) = b := Decidable.byContradiction fun y => q ⟨q1, y⟩
      rw [if_pos q1, if_pos q2] at e1 e2
      exact qt hc h e1 e2
    · rw [if_neg q1] at e1 e2
      exact qt hc h e1 e2
theorem q_look (hX : gs_Fu X) (hc : gs_Ct t m) (h : gs_Sz m T n n0 n1 n2 n5 n6 n7 n8 turn price limit blur kn z D) : gs_Q3 X 39 a b m (gs_Iv (t + 1)) := by
  have e1 := l_look (X := X) (d := 36) (x := a) (w := b) (sz_ga h)
  by_cases q : isIx a (Int32.ofNat n)
  · by_cases q2 : isBt b 0 12
    · rw [if_pos q, if_pos q2] at e1
      have hW : gs_Wr m (gs_sJ m 152 0 (Int32.toInt64 (f_lookA m a.toInt.toNat b))) := ⟨rfl, rfl, fun _ _ _ => rfl⟩
      have hM := sz_wr h hW
      have e2 := r_look (X := X) (d := 37) (x := a) (w := b) (sz_ga hM)
      rw [if_pos q, if_pos q2] at e2
      have hM2 := sz_wr hM (wr_thr (x := 0))
      exact ⟨0, _, _, _, _, e1, e2, r_thrown (d := 38) (sz_sh hM2), fun _ => rfl, (sz_sh hM).1, (sz_sh hM2).1, (sz_sh hM2).1, iv_of hc rfl hM2⟩
    · rw [if_pos q, if_neg q2] at e1
      have hM := sz_gb h
      have e2 := r_look (X := X) (d := 37) (x := a) (w := b) (sz_ga hM)
      rw [if_pos q, if_neg q2] at e2
      have hM2 := sz_wr (sz_wr hM (wr_thr (x := 0))) (wr_thr (x := 2))
      exact ⟨2, _, _, _, _, e1, e2, r_thrown (d := 38) (sz_sh hM2), fun q => absurd q (by decide), (sz_sh hM).1, (sz_sh hM2).1, (sz_sh hM2).1, ⟨⟨_, _, _, _, _, _, _, _, _, _, _, _, _, _, _, _, hM2⟩, ct_gb hc rfl⟩⟩
  · rw [if_neg q] at e1
    have hM := sz_gb h
    have e2 := r_look (X := X) (d := 37) (x := a) (w := b) (sz_ga hM)
    rw [if_neg q] at e2
    have hM2 := sz_wr (sz_wr hM (wr_thr (x := 0))) (wr_thr (x := 1))
    exact ⟨1, _, _, _, _, e1, e2, r_thrown (d := 38) (sz_sh hM2), fun q => absurd q (by decide), (sz_sh hM).1, (sz_sh hM2).1, (sz_sh hM2).1, ⟨⟨_, _, _, _, _, _, _, _, _, _, _, _, _, _, _, _, hM2⟩, ct_gb hc rfl⟩⟩
end FEEDS
