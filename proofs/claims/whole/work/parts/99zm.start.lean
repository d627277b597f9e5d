/-! The start, and all calls together. -/
theorem ini_rpf : ∀ x ∈ gs_rpf, x ∈ gs_rps := by decide +kernel
theorem ini_rpt : ∀ x ∈ gs_rpt, (18 + x.1, x.2.1, 18 + x.2.2) ∈ gs_rps ∧ (67 + x.1, x.2.1, 67 + x.2.2) ∈ gs_rps := by decide +kernel
theorem ini_lng : ∀ k, k < 32 → (5, k, Int32.ofNat (lng k)) ∈ gs_ips := by decide +kernel
theorem ini_dct : ∀ j, j < 171 → (118, j, Int32.ofNat (dct j)) ∈ gs_ips := by decide +kernel
theorem ini_mst : ∀ k, k < 9 → (121, k, Int32.ofNat (mst k)) ∈ gs_ips := by decide +kernel
theorem ini_119 : ∀ k, k < 9 → (119, k, (0 : Int32)) ∈ gs_ips := by decide +kernel
def ini_l : List (Nat × Nat × Int32) := [(0, 5, 0), (0, 6, 0), (0, 7, 1), (0, 8, 1), (1, 9, 0), (1, 10, -1), (3, 4, 0), (18, 8, 0), (18, 9, 0), (18, 10, 0), (18, 11, 5), (18, 12, 20), (18, 13, 0), (19, 3, 0), (23, 3, 0), (27, 3, 0), (31, 3, 0), (35, 3, 0), (39, 3, 0), (116, 1, 0), (116, 4, 0), (116, 5, -1), (116, 36, 0), (116, 37, -1), (116, 51, 0), (122, 0, 0), (122, 1, 5), (122, 2, 20), (122, 3, 0)]
theorem ini_il : ∀ x ∈ ini_l, x ∈ gs_ips := by decide +kernel
theorem ini_sz {m : gs_M} (hm : m.1.1 = 153) (hr : ∀ x ∈ gs_rps, m.2.2.2 x.1 x.2.1 = some x.2.2) (hi : ∀ x ∈ gs_ips, m.2.1 x.1 x.2.1 = x.2.2) : gs_Sz m 18 0 0 0 0 0 0 0 0 0 5 20 0 0 0 0 := by
  have i : ∀ x ∈ ini_l, m.2.1 x.1 x.2.1 = x.2.2 := fun x hx => hi x (ini_il x hx)
  have c9 : ∀ k, k < 9 → m.2.1 119 k = Int32.ofNat 0 := fun k hk => hi _ (ini_119 k hk)
  have no : ∀ {k : Nat} {P : Prop}, k < 0 → P := fun h => absurd h (Nat.not_lt_zero _)
  have f0 : m.2.1 0 5 = Int32.ofNat 0 := i (0, 5, 0) (by decide)
  have f1 : m.2.1 0 6 = 0 := i (0, 6, 0) (by decide)
  have f2 : m.2.1 0 7 = 1 := i (0, 7, 1) (by decide)
  have f3 : m.2.1 0 8 = 1 := i (0, 8, 1) (by decide)
  have f4 : m.2.1 1 9 = 0 := i (1, 9, 0) (by decide)
  have f5 : m.2.1 1 10 = -1 := i (1, 10, -1) (by decide)
  have f6 : m.2.1 3 4 = Int32.ofNat 0 := i (3, 4, 0) (by decide)
  have f7 : m.2.1 18 8 = Int32.ofNat 0 := i (18, 8, 0) (by decide)
  have f8 : m.2.1 18 9 = Int32.ofNat 0 := i (18, 9, 0) (by decide)
  have f9 : m.2.1 18 10 = Int32.ofNat 0 := i (18, 10, 0) (by decide)
  have f10 : m.2.1 18 11 = Int32.ofNat 5 := i (18, 11, 5) (by decide)
  have f11 : m.2.1 18 12 = Int32.ofNat 20 := i (18, 12, 20) (by decide)
  have f12 : m.2.1 18 13 = Int32.ofNat 0 := i (18, 13, 0) (by decide)
  have f13 : m.2.1 19 3 = Int32.ofNat 0 := i (19, 3, 0) (by decide)
  have f14 : m.2.1 23 3 = Int32.ofNat 0 := i (23, 3, 0) (by decide)
  have f15 : m.2.1 27 3 = Int32.ofNat 0 := i (27, 3, 0) (by decide)
  have f16 : m.2.1 31 3 = Int32.ofNat 0 := i (31, 3, 0) (by decide)
  have f17 : m.2.1 35 3 = Int32.ofNat 0 := i (35, 3, 0) (by decide)
  have f18 : m.2.1 39 3 = Int32.ofNat 0 := i (39, 3, 0) (by decide)
  have f19 : m.2.1 116 1 = Int32.ofNat 0 := i (116, 1, 0) (by decide)
  have f20 : m.2.1 116 4 = 0 := i (116, 4, 0) (by decide)
  have f21 : m.2.1 116 5 = -1 := i (116, 5, -1) (by decide)
  have f22 : m.2.1 116 36 = 0 := i (116, 36, 0) (by decide)
  have f23 : m.2.1 116 37 = -1 := i (116, 37, -1) (by decide)
  have f24 : m.2.1 116 51 = 0 := i (116, 51, 0) (by decide)
  have g0 : m.2.1 122 0 = Int32.ofNat 0 := i (122, 0, 0) (by decide)
  have g1 : m.2.1 122 1 = Int32.ofNat 5 := i (122, 1, 5) (by decide)
  have g2 : m.2.1 122 2 = Int32.ofNat 20 := i (122, 2, 20) (by decide)
  have g3 : m.2.1 122 3 = Int32.ofNat 0 := i (122, 3, 0) (by decide)
  have hS : gs_Sh m 18 := ⟨hm, Or.inl rfl, hr (0, 3, 18) (by decide +kernel), hr (1, 1, 67) (by decide +kernel), fun x hx => hr x (ini_rpf x hx), fun x hx => ⟨hr _ (ini_rpt x hx).1, hr _ (ini_rpt x hx).2⟩⟩
  have hG : gs_Ga m 18 0 0 0 0 0 := ⟨hS, f7, c9 3 (by decide), by decide, by decide, by decide, by decide, f9, g0, by decide, fun g hg => no hg, fun k hk => no hk, fun g hg => no hg⟩
  refine ⟨⟨⟨hG, ⟨fun k hk => no hk, fun g hg => no hg⟩, ⟨hS, f8, c9 5 (by decide), by decide, f12, g3, by decide, fun c hc => no hc, fun c hc => no hc⟩, f10, g1, by decide⟩, ⟨f11, g2, by decide⟩, ⟨hG, f16, c9 6 (by decide), by decide, f17, c9 8 (by decide), by decide, fun k hk => no hk, fun s hs => no hs⟩, fun k hk => no hk, fun k hk => no hk, fun k hk => no hk, by decide, ⟨f13, f14, f15, f18⟩, c9 0 (by decide), c9 1 (by decide), c9 2 (by decide), c9 7 (by decide)⟩, ⟨f0, by decide, Or.inl ⟨f23, rfl⟩, f1, f22⟩, f24, fun q => ?_, fun q => ?_, ⟨⟨f6, f19, by decide, fun j hj => no hj⟩, fun k hk => hi _ (ini_lng k hk), fun j hj => hi _ (ini_dct j hj), fun k hk => hi _ (ini_mst k hk), f4.trans f20.symm, f5.trans f21.symm⟩⟩
  · rw [f3] at q
    exact absurd q (by decide)
  · rw [f2] at q
    exact absurd q (by decide)
theorem iv_0 : gs_Iv 0 gs_m1 := by
  obtain ⟨n1, n2, n3⟩ := gs_m1n
  have hl := gs_laid
  have hz : gs_Sz gs_m1 18 0 0 0 0 0 0 0 0 0 5 20 0 0 0 0 := ini_sz n1 hl.2.2.2.2.2.2.2.1 hl.2.2.2.2.2.2.2.2
  exact ⟨⟨18, 0, 0, 0, 0, 0, 0, 0, 0, 0, 5, 20, 0, 0, 0, 0, hz⟩, by rw [n2]; exact Nat.le_refl _, by omega⟩
theorem iv_calls {X : gs_E} {t : Nat} {m : gs_M} (hX : gs_Fu X) (hI : gs_Iv t m) : gs_Calls X 39 m (gs_Iv (t + 1)) := by
  obtain ⟨⟨T, n, n0, n1, n2, n5, n6, n7, n8, turn, price, limit, blur, kn, z, D, h⟩, hc⟩ := hI
  exact ⟨fun a b c e f => q_feed hX hc h, fun a => q_text hX hc h, fun a => q_fault hX hc h, fun a b => q_named hX hc h, fun a b => q_look hX hc h, fun a => q_round hX hc h, fun a => q_day hX hc h, fun a => q_months hX hc h, fun a b => q_years hX hc h, fun a b c => q_place hX hc h, fun a => q_sort hX hc h, fun a b => q_mend hX hc h, fun a b c => q_odds hX hc h, fun a b => q_born hX hc h, fun a b => q_toll hX hc h, fun a b => q_reading hX hc h, fun a => q_pairs hX hc h, fun a => q_pair hX hc h, fun a b => q_one hX hc h, fun a => q_known hX hc h, fun a => q_event hX hc h, fun a b => q_slips hX hc h, fun a => q_copied hX hc h, fun a b => q_from hX hc h, fun a b => q_worth hX hc h, fun a => q_said hX hc h, fun a b => q_untold hX hc h, fun a b => q_next hX hc h, q_events hX hc h, fun a => q_share hX hc h, fun a b c e => q_many hX hc h, fun a b => q_chance hX hc h, fun a => q_sun hX hc h, fun a => q_hidden hX hc h, fun a => q_seen hX hc h, fun a b _ => q_doubt hX hc h, q_doubted hX hc h, fun a b c => q_draws hX hc h, fun a b => q_luck hX hc h, fun a => q_count hX hc h⟩
theorem iv_n {t : Nat} {m : gs_M} (hI : gs_Iv t m) : m.1.1 = 153 ∧ m.1.2.1 ≤ t ∧ m.1.2.2 ≤ 7000001 + 6 * t := by
  obtain ⟨⟨T, n, n0, n1, n2, n5, n6, n7, n8, turn, price, limit, blur, kn, z, D, h⟩, hc⟩ := hI
  exact ⟨(sz_sh h).1, hc⟩
theorem iv_s {t : Nat} {m : gs_M} (hI : gs_Iv t m) : gs_Iv (t + 1) m := by
  refine ⟨hI.1, ?_⟩
  have := hI.2
  unfold gs_Ct at this ⊢
  omega
theorem iv_pure : gs_Pure := gs_pureOf (N := 3072) (Nat.le_refl _) (fun t _ _ m => gs_Iv t m) (fun _ _ _ => iv_0) (fun _ _ _ _ _ hI => iv_n hI) (fun _ _ _ _ _ hI => iv_s hI) (fun t L xs m _ _ hI => iv_calls (X := (1000000, L, xs)) (Nat.le_refl 1000000) hI)
