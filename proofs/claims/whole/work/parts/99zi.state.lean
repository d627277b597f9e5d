/-! The state between two calls, and that it lasts. -/
def gs_Io (m : gs_M) (z : Nat) : Prop := gs_Tp m z ∧ gs_Lg m ∧ gs_Dc m ∧ (∀ k, k < 9 → m.2.1 121 k = Int32.ofNat (mst k)) ∧ m.2.1 1 9 = m.2.1 116 4 ∧ m.2.1 1 10 = m.2.1 116 5
def gs_Sz (m : gs_M) (T n n0 n1 n2 n5 n6 n7 n8 turn price limit blur kn z : Nat) (D : Int32) : Prop := gs_Bl m T n n0 n1 n2 n5 n6 n7 n8 turn price limit blur ∧ gs_Kn m n kn D ∧ m.2.1 116 51 = 0 ∧ gs_CE m n turn kn D ∧ gs_CP m n n5 price blur limit kn D ∧ gs_Io m z
def gs_Ct (t : Nat) (m : gs_M) : Prop := m.1.2.1 ≤ t ∧ m.1.2.2 ≤ 7000001 + 6 * t
def gs_Iv (t : Nat) (m : gs_M) : Prop := (∃ (T n n0 n1 n2 n5 n6 n7 n8 turn price limit blur kn z : Nat) (D : Int32), gs_Sz m T n n0 n1 n2 n5 n6 n7 n8 turn price limit blur kn z D) ∧ gs_Ct t m
section ST
variable {X : gs_E} {m M : gs_M} {T n n0 n1 n2 n5 n6 n7 n8 turn price limit blur kn z t kc kr g c s : Nat} {D x y w v : Int32} {vl : Int64} {as : List gs_V}
theorem vw_wd (h : gs_Sh m T) (hW : gs_Wd m M) : gs_Vw m M T := by
  refine ⟨fun o i ho hi => hW.2.2 _ _ (fun q => ?_), fun i _ => hW.2.2 _ _ (fun q => ?_), fun i _ => hW.2.2 _ _ (fun q => ?_), fun j k hj _ => hW.2.2 _ _ (fun q => ?_)⟩
  · unfold rsD gs_rs at q
    rcases h.2.1 with e | e <;> omega
  · unfold rsD gs_rs at q; omega
  · unfold rsD gs_rs at q; omega
  · unfold rsD gs_rs at q; omega
theorem io_c {R : Nat → Nat → Prop} (hI : gs_Io m z) (hW : ∀ x i, ¬ R x i → M.2.1 x i = m.2.1 x i) (h1 : ∀ i, ¬ R 1 i) (h3 : ¬ R 3 4) (h4 : ∀ i, ¬ R 4 i) (h5 : ∀ i, ¬ R 5 i) (h7 : ∀ i, ¬ R 117 i) (h8 : ∀ i, ¬ R 118 i) (h21 : ∀ i, ¬ R 121 i) (h61 : ¬ R 116 1) (h64 : ¬ R 116 4) (h65 : ¬ R 116 5) : gs_Io M z := by
  obtain ⟨⟨t1, t2, t3, t4⟩, hL, hD, hM, f1, f2⟩ := hI
  refine ⟨⟨(hW _ _ h3).trans t1, (hW _ _ h61).trans t2, t3, fun j hj => ?_⟩, fun k hk => (hW _ _ (h5 k)).trans (hL k hk), fun j hj => (hW _ _ (h8 j)).trans (hD j hj), fun k hk => (hW _ _ (h21 k)).trans (hM k hk), ?_, ?_⟩
  · rw [hW _ _ (h4 j), hW _ _ (h7 j)]
    exact t4 j hj
  · rw [hW _ _ (h1 9), hW _ _ h64]
    exact f1
  · rw [hW _ _ (h1 10), hW _ _ h65]
    exact f2
theorem io_wd (hI : gs_Io m z) (hW : gs_Wd m M) : gs_Io M z := by
  refine io_c (R := rsD) hI hW.2.2 ?_ ?_ ?_ ?_ ?_ ?_ ?_ ?_ ?_ ?_ <;> first | (intro i q; unfold rsD gs_rs at q; omega) | (intro q; unfold rsD gs_rs at q; omega)
theorem sz_sh (h : gs_Sz m T n n0 n1 n2 n5 n6 n7 n8 turn price limit blur kn z D) : gs_Sh m T := h.1.1.1.1
theorem sz_wd (h : gs_Sz m T n n0 n1 n2 n5 n6 n7 n8 turn price limit blur kn z D) (hW : gs_Wd m M) (h51 : M.2.1 116 51 = m.2.1 116 51) (hE : gs_CE M n turn kn D) (hP : gs_CP M n n5 price blur limit kn D) : gs_Sz M T n n0 n1 n2 n5 n6 n7 n8 turn price limit blur kn z D :=
  ⟨bl_vw (vw_wd (sz_sh h) hW) (wd_sh (sz_sh h) hW) h.1, wd_kn h.2.1 hW, h51.trans h.2.2.1, hE, hP, io_wd h.2.2.2.2.2 hW⟩
theorem cp_c {R : Nat → Nat → Prop} (hC : gs_CP m n n5 price blur limit kn D) (hd : gs_Wd m M) (hW : gs_Wx R m M) (h7 : ¬ R 0 7) (h6 : ∀ x i, (x = 6 ∨ x = 7 ∨ x = 14) → ¬ R x i) : gs_CP M n n5 price blur limit kn D := by
  intro q
  have e := hC ((hW.2.2 0 7 h7).symm.trans q)
  have c6 : M.2.1 6 = m.2.1 6 := funext fun i => hW.2.2 _ _ (h6 6 i (by decide))
  have c7 : M.2.1 7 = m.2.1 7 := funext fun i => hW.2.2 _ _ (h6 7 i (by decide))
  have c14 : M.2.1 14 = m.2.1 14 := funext fun i => hW.2.2 _ _ (h6 14 i (by decide))
  rw [wd_tlF hd]
  exact pc_c2 (fun _ _ _ _ => rfl) c6 c7 c14 e
theorem ce_c {R : Nat → Nat → Prop} (hC : gs_CE m n turn kn D) (hd : gs_Wd m M) (hW : gs_Wx R m M) (h8 : ¬ R 0 8) (h17 : ∀ i, ¬ R 17 i) : gs_CE M n turn kn D := by
  intro q
  obtain ⟨r, e1, e2⟩ := hC ((hW.2.2 0 8 h8).symm.trans q)
  refine ⟨r, ?_, fun g hg => (hW.2.2 _ _ (h17 g)).trans (e2 g hg)⟩
  rw [oneP_wd hd]
  exact e1
theorem sz_wr (h : gs_Sz m T n n0 n1 n2 n5 n6 n7 n8 turn price limit blur kn z D) (hW : gs_Wr m M) : gs_Sz M T n n0 n1 n2 n5 n6 n7 n8 turn price limit blur kn z D :=
  sz_wd h (wd_r hW) (hW.2.2 _ _ (fun q => by unfold gs_rs at q; omega)) (ce_wr h.2.2.2.1 hW) (cp_c (R := gs_rs) h.2.2.2.2.1 (wd_r hW) hW (fun q => by unfold gs_rs at q; omega) (fun x i hx q => by unfold gs_rs at q; omega))
theorem sz_we (h : gs_Sz m T n n0 n1 n2 n5 n6 n7 n8 turn price limit blur kn z D) (hW : gs_Wx rsE m M) (hE : gs_CE M n turn kn D) : gs_Sz M T n n0 n1 n2 n5 n6 n7 n8 turn price limit blur kn z D :=
  sz_wd h (wd_e hW) (hW.2.2 _ _ (fun q => by unfold rsE gs_rs at q; omega)) hE (cp_c (R := rsE) h.2.2.2.2.1 (wd_e hW) hW (fun q => by unfold rsE gs_rs at q; omega) (fun x i hx q => by unfold rsE gs_rs at q; omega))
theorem sz_wp (h : gs_Sz m T n n0 n1 n2 n5 n6 n7 n8 turn price limit blur kn z D) (hW : gs_Wx rsP m M) (hP : gs_CP M n n5 price blur limit kn D) : gs_Sz M T n n0 n1 n2 n5 n6 n7 n8 turn price limit blur kn z D :=
  sz_wd h (wd_p hW) (hW.2.2 _ _ (fun q => by unfold rsP gs_rs at q; omega)) (ce_c (R := rsP) h.2.2.2.1 (wd_p hW) hW (fun q => by unfold rsP gs_rs at q; omega) (fun i q => by unfold rsP gs_rs at q; omega)) hP
theorem ct_s (hc : gs_Ct t m) (e : M.1 = m.1) : gs_Ct (t + 1) M := by
  unfold gs_Ct at hc ⊢
  rw [e]
  omega
theorem iv_of (hc : gs_Ct t m) (e : M.1 = m.1) (h : gs_Sz M T n n0 n1 n2 n5 n6 n7 n8 turn price limit blur kn z D) : gs_Iv (t + 1) M := ⟨⟨T, n, n0, n1, n2, n5, n6, n7, n8, turn, price, limit, blur, kn, z, D, h⟩, ct_s hc e⟩
/-- a call that both answer alike -/
theorem qg (hc : gs_Ct t m) (h1 : M.1 = m.1) (h : gs_Sz M T n n0 n1 n2 n5 n6 n7 n8 turn price limit blur kn z D) (e1 : gs_exec X 39 kc (.inr (.inr 0) :: as) m = gs_rI v M) (e2 : ∃ M', gs_exec X 39 kr (.inr (.inr 116) :: as) M = gs_rI v M' ∧ gs_Wr M M') : gs_Q2 X 39 kc kr as m (gs_Iv (t + 1)) := by
  obtain ⟨M', e2, hW⟩ := e2
  exact ⟨v, M, M', e1, e2, (sz_sh h).1, iv_of hc (hW.1.trans h1) (sz_wr h hW)⟩
theorem qgL (hc : gs_Ct t m) (h1 : M.1 = m.1) (h : gs_Sz M T n n0 n1 n2 n5 n6 n7 n8 turn price limit blur kn z D) (e1 : gs_exec X 39 kc (.inr (.inr 0) :: as) m = gs_rJ vl M) (e2 : ∃ M', gs_exec X 39 kr (.inr (.inr 116) :: as) M = gs_rJ vl M' ∧ gs_Wr M M') : gs_Q2L X 39 kc kr as m (gs_Iv (t + 1)) := by
  obtain ⟨M', e2, hW⟩ := e2
  exact ⟨vl, M, M', e1, e2, (sz_sh h).1, iv_of hc (hW.1.trans h1) (sz_wr h hW)⟩
/-- the reference leaves only its flag -/
theorem qt (hc : gs_Ct t m) (h : gs_Sz m T n n0 n1 n2 n5 n6 n7 n8 turn price limit blur kn z D) (e1 : gs_exec X 39 kc (.inr (.inr 0) :: as) m = gs_rI v m) (e2 : gs_exec X 39 kr (.inr (.inr 116) :: as) m = gs_rI v (gs_sI m 116 2 0)) : gs_Q2 X 39 kc kr as m (gs_Iv (t + 1)) := qg hc rfl h e1 ⟨_, e2, wr_thr⟩
/-! answers do not change with the scratch cells -/
theorem wr_sort (hW : gs_Wr m M) : f_sort M n n6 x = f_sort m n n6 x := by
  unfold f_sort
  rw [wr_so_f hW]
theorem wr_od (hW : gs_Wr m M) : ∀ r s a, n_od M g r s a = n_od m g r s a
  | 0, _, _ => rfl
  | r + 1, s, a => by
    show n_od M g r (s + 1) (a + n_ow M g s) = n_od m g r (s + 1) (a + n_ow m g s)
    rw [wr_ow hW]
    exact wr_od hW r (s + 1) _
theorem wr_odds (hW : gs_Wr m M) : f_odds M n n6 x y w = f_odds m n n6 x y w := by
  unfold f_odds
  rw [wr_ow hW, wr_od hW]
theorem wr_dr (hW : gs_Wr m M) {dd : Int32} : ∀ q s v, f_dr M n5 dd q s v = f_dr m n5 dd q s v
  | 0, _, _ => rfl
  | q + 1, s, v => by
    show f_dr M n5 dd q (nRoll (nRoll s)) (v + f_nr M _ _ dd n5 0) = f_dr m n5 dd q (nRoll (nRoll s)) (v + f_nr m _ _ dd n5 0)
    rw [wr_nr hW]
    exact wr_dr hW q _ _
theorem wr_draws (hW : gs_Wr m M) : f_draws M n5 x y w = f_draws m n5 x y w := by
  unfold f_draws
  rw [wr_dr hW]
theorem wd_sd (hW : gs_Wd m M) : ∀ g, sd M s g = sd m s g
  | 0 => rfl
  | g + 1 => by
    unfold sd
    rw [wd_sd hW g, wd_gd hW]
theorem wd_nTL (hW : gs_Wd m M) : nTL M blur s = nTL m blur s := funext fun g => funext fun c => by
  unfold nTL f_pL dX dY
  rw [wd_outA hW, wd_sd hW, wd_gd hW]
  unfold cd
  rw [wd_cell hW 133 (by decide) (by decide)]
theorem wd_lk (hW : gs_Wd m M) {base : Nat} : ∀ q s v, f_lk M n n5 blur limit kn D base q s v = f_lk m n n5 blur limit kn D base q s v
  | 0, _, _ => rfl
  | q + 1, s, v => by
    rw [f_lk_s, f_lk_s, wd_sd hW]
    unfold nLk
    rw [wd_nTL hW]
    exact wd_lk hW q _ _
theorem wd_luck (hW : gs_Wd m M) : f_luck M n n5 price blur limit kn D x y = f_luck m n n5 price blur limit kn D x y := by
  unfold f_luck
  rw [wd_tlF hW, wd_lk hW]
end ST
