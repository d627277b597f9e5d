/-! The calls, one by one, from the state and into it (all but feed, text, look, known, doubt). -/
section CALLS
variable {X : gs_E} {m M : gs_M} {T n n0 n1 n2 n5 n6 n7 n8 turn price limit blur kn z t g c : Nat} {D x y w a b e f : Int32}
theorem sz_pa (h : gs_Sz m T n n0 n1 n2 n5 n6 n7 n8 turn price limit blur kn z D) : gs_Pa m T n n0 n1 n2 n5 turn blur price limit kn D := ⟨h.1.1, h.1.2.1.1, h.1.2.1.2.1, h.1.2.1.2.2, h.2.1, h.2.2.1⟩
theorem sz_ga (h : gs_Sz m T n n0 n1 n2 n5 n6 n7 n8 turn price limit blur kn z D) : gs_Ga m T n n0 n1 n2 turn := h.1.1.1
theorem sz_rp (h : gs_Sz m T n n0 n1 n2 n5 n6 n7 n8 turn price limit blur kn z D) : gs_RP m T n n1 := h.1.1.2.1
theorem sz_ca (h : gs_Sz m T n n0 n1 n2 n5 n6 n7 n8 turn price limit blur kn z D) : gs_Ca m T n5 blur := h.1.1.2.2.1
theorem sz_so (h : gs_Sz m T n n0 n1 n2 n5 n6 n7 n8 turn price limit blur kn z D) : gs_So m T n n0 n1 n2 turn n6 n8 := h.1.2.2.1
theorem sz_rb (h : gs_Sz m T n n0 n1 n2 n5 n6 n7 n8 turn price limit blur kn z D) : gs_RB m T n2 := h.1.2.2.2.1
theorem sz_rw (h : gs_Sz m T n n0 n1 n2 n5 n6 n7 n8 turn price limit blur kn z D) : gs_RW m T n7 := h.1.2.2.2.2.1
theorem sz_wv (h : gs_Sz m T n n0 n1 n2 n5 n6 n7 n8 turn price limit blur kn z D) : gs_WV m n7 := h.1.2.2.2.2.2.1
theorem sz_7 (h : gs_Sz m T n n0 n1 n2 n5 n6 n7 n8 turn price limit blur kn z D) : n7 ≤ 6 := h.1.2.2.2.2.2.2.1
theorem sz_ct (h : gs_Sz m T n n0 n1 n2 n5 n6 n7 n8 turn price limit blur kn z D) : (m.2.1 (T + 1) 3 = Int32.ofNat n0 ∧ m.2.1 (T + 5) 3 = Int32.ofNat n1 ∧ m.2.1 (T + 9) 3 = Int32.ofNat n2 ∧ m.2.1 (T + 21) 3 = Int32.ofNat n7) ∧ m.2.1 119 0 = Int32.ofNat n0 ∧ m.2.1 119 1 = Int32.ofNat n1 ∧ m.2.1 119 2 = Int32.ofNat n2 ∧ m.2.1 119 7 = Int32.ofNat n7 := h.1.2.2.2.2.2.2.2
theorem q_fault (hX : gs_Fu X) (hc : gs_Ct t m) (h : gs_Sz m T n n0 n1 n2 n5 n6 n7 n8 turn price limit blur kn z D) : gs_Q2 X 39 119 211 [.inl a] m (gs_Iv (t + 1)) := by
  have e1 := x_fault (X := X) (d := 38) (x := a) (sz_sh h)
  have e2 := r_fault (X := X) (d := 38) (x := a) (sz_sh h)
  rw [← h.2.2.2.2.2.2.2.2.2.1, ← h.2.2.2.2.2.2.2.2.2.2] at e2
  exact qt hc h e1 e2
theorem q_named (hX : gs_Fu X) (hc : gs_Ct t m) (h : gs_Sz m T n n0 n1 n2 n5 n6 n7 n8 turn price limit blur kn z D) : gs_Q2 X 39 120 212 [.inl a, .inl b] m (gs_Iv (t + 1)) := by
  obtain ⟨⟨c0, c1, c2, -⟩, d0, d1, d2, -⟩ := sz_ct h
  obtain ⟨hG, e6, e6', b6, e8, e8', b8, hK, hS⟩ := sz_so h
  obtain ⟨-, -, -, -, b0, b1, b2, -, -, -, -, hR, -⟩ := sz_ga h
  have e1 := x_named (X := X) (d := 37) (w := a) (x := b) hX (sz_sh h) c0 c1 c2 e6 b0 b1 b2 b6
  have e2 := r_named (X := X) (d := 37) (w := a) (x := b) hX (sz_sh h) d0 d1 d2 e6' b0 b1 b2 b6
  rw [f_find_congr (f := m.2.1 (T + 2)) (g := m.2.1 124) n0 0 (fun i hi => (hR i (by omega)).1), f_find_congr (f := m.2.1 (T + 6)) (g := m.2.1 127) n1 0 (fun i hi => ((sz_rp h).1 i (by omega)).1), f_find_congr (f := m.2.1 (T + 14)) (g := m.2.1 134) n6 0 (fun i hi => (hS i (by omega)).1), f_find_congr (f := m.2.1 (T + 10)) (g := m.2.1 130) n2 0 (fun i hi => (sz_rb h i (by omega)).1)] at e1
  exact qt hc h e1 e2
theorem q_round (hX : gs_Fu X) (hc : gs_Ct t m) (h : gs_Sz m T n n0 n1 n2 n5 n6 n7 n8 turn price limit blur kn z D) : gs_Q2 X 39 122 240 [.inl a] m (gs_Iv (t + 1)) := by
  have e1 := x_round (X := X) (d := 37) (x := a) (sz_sh h)
  have e2 := r_round (X := X) (d := 37) (x := a) (sz_sh h)
  rw [(sz_ga h).2.2.2.2.2.2.2.1] at e1
  rw [(sz_ga h).2.2.2.2.2.2.2.2.1] at e2
  exact qt hc h e1 e2
theorem q_day (hX : gs_Fu X) (hc : gs_Ct t m) (h : gs_Sz m T n n0 n1 n2 n5 n6 n7 n8 turn price limit blur kn z D) : gs_Q2 X 39 123 244 [.inl a] m (gs_Iv (t + 1)) := by
  obtain ⟨h0, a1, a2, a3, a4, a5, a6, a7, a8, a9, hG, hR, hV⟩ := sz_ga h
  exact qt hc h (x_day (X := X) (d := 35) (x := a) h0 a1 hG hV a3 a4 a7 a9) (r_day (X := X) (d := 35) (x := a) hX h0 a2 hV a3 a4 a8 a9)
theorem q_months (hX : gs_Fu X) (hc : gs_Ct t m) (h : gs_Sz m T n n0 n1 n2 n5 n6 n7 n8 turn price limit blur kn z D) : gs_Q2 X 39 124 246 [.inl a] m (gs_Iv (t + 1)) := qt hc h (x_months (d := 35) hX (sz_ga h)) (r_months (d := 35) hX (sz_ga h))
theorem q_years (hX : gs_Fu X) (hc : gs_Ct t m) (h : gs_Sz m T n n0 n1 n2 n5 n6 n7 n8 turn price limit blur kn z D) : gs_Q2 X 39 125 248 [.inl a, .inl b] m (gs_Iv (t + 1)) := qt hc h (x_years (d := 35) hX (sz_ga h)) (r_years (d := 35) hX (sz_ga h))
theorem q_place (hX : gs_Fu X) (hc : gs_Ct t m) (h : gs_Sz m T n n0 n1 n2 n5 n6 n7 n8 turn price limit blur kn z D) : gs_Q2 X 39 126 255 [.inl a, .inl b, .inl w] m (gs_Iv (t + 1)) := qt hc h (x_place (d := 36) (sz_ga h) (sz_rp h)) (r_place (d := 35) (sz_ga h))
theorem q_sort (hX : gs_Fu X) (hc : gs_Ct t m) (h : gs_Sz m T n n0 n1 n2 n5 n6 n7 n8 turn price limit blur kn z D) : gs_Q2 X 39 127 230 [.inl a] m (gs_Iv (t + 1)) := by
  obtain ⟨M, e1, hW⟩ := x_sort (d := 32) (x := a) hX (sz_so h)
  have e2 := r_sort (d := 34) (x := a) hX (sz_so (sz_wr h hW))
  rw [wr_sort hW] at e2
  exact qg hc hW.1 (sz_wr h hW) e1 e2
theorem q_mend (hX : gs_Fu X) (hc : gs_Ct t m) (h : gs_Sz m T n n0 n1 n2 n5 n6 n7 n8 turn price limit blur kn z D) : gs_Q2 X 39 128 250 [.inl a, .inl b] m (gs_Iv (t + 1)) := qt hc h (x_mend (d := 35) hX (sz_ga h)) (r_mend (d := 35) hX (sz_ga h))
theorem q_odds (hX : gs_Fu X) (hc : gs_Ct t m) (h : gs_Sz m T n n0 n1 n2 n5 n6 n7 n8 turn price limit blur kn z D) : gs_Q2L X 39 129 234 [.inl a, .inl b, .inl w] m (gs_Iv (t + 1)) := by
  obtain ⟨M, e1, hW⟩ := x_odds (d := 32) (x := a) (y := b) (w := w) hX (sz_so h)
  have e2 := r_odds (d := 34) (x := a) (y := b) (w := w) hX (sz_so (sz_wr h hW))
  rw [wr_odds hW] at e2
  exact qgL hc hW.1 (sz_wr h hW) e1 e2
theorem q_born (hX : gs_Fu X) (hc : gs_Ct t m) (h : gs_Sz m T n n0 n1 n2 n5 n6 n7 n8 turn price limit blur kn z D) : gs_Q2 X 39 130 262 [.inl a, .inl b] m (gs_Iv (t + 1)) := qg hc rfl h (x_born (d := 36) (sz_ca h)) (r_born (d := 35) hX (sz_ca h))
theorem q_toll (hX : gs_Fu X) (hc : gs_Ct t m) (h : gs_Sz m T n n0 n1 n2 n5 n6 n7 n8 turn price limit blur kn z D) : gs_Q2 X 39 131 265 [.inl a, .inl b] m (gs_Iv (t + 1)) := qg hc rfl h (x_toll (d := 33) hX h.1.1) (r_toll (d := 33) hX h.1.1 h.2.2.1)
theorem q_reading (hX : gs_Fu X) (hc : gs_Ct t m) (h : gs_Sz m T n n0 n1 n2 n5 n6 n7 n8 turn price limit blur kn z D) : gs_Q2 X 39 132 266 [.inl a, .inl b] m (gs_Iv (t + 1)) := qg hc rfl h (x_reading (d := 33) hX h.1.1) (r_reading (d := 33) hX h.1.1 h.2.2.1)
theorem q_pairs (hX : gs_Fu X) (hc : gs_Ct t m) (h : gs_Sz m T n n0 n1 n2 n5 n6 n7 n8 turn price limit blur kn z D) : gs_Q2 X 39 133 272 [.inl a] m (gs_Iv (t + 1)) := by
  obtain ⟨M, e1, hW, hP⟩ := x_pairs (d := 31) (x := a) hX (sz_pa h) h.2.2.2.2.1
  have e2 := r_pairs (d := 31) (x := a) hX (sz_pa (sz_wp h hW hP))
  rw [wd_tlF (wd_p hW)] at e2
  exact qg hc hW.1 (sz_wp h hW hP) e1 e2
theorem q_pair (hX : gs_Fu X) (hc : gs_Ct t m) (h : gs_Sz m T n n0 n1 n2 n5 n6 n7 n8 turn price limit blur kn z D) : gs_Q2 X 39 134 273 [.inl a] m (gs_Iv (t + 1)) := by
  obtain ⟨M, e1, hW, hP⟩ := x_pair (d := 31) (x := a) hX (sz_pa h) h.2.2.2.2.1
  have e2 := r_pair (d := 31) (x := a) hX (sz_pa (sz_wp h hW hP))
  rw [wd_tlF (wd_p hW)] at e2
  exact qg hc hW.1 (sz_wp h hW hP) e1 e2
theorem q_one (hX : gs_Fu X) (hc : gs_Ct t m) (h : gs_Sz m T n n0 n1 n2 n5 n6 n7 n8 turn price limit blur kn z D) : gs_Q2 X 39 135 275 [.inl a, .inl b] m (gs_Iv (t + 1)) := qt hc h (x_one (d := 34) hX (sz_ga h) (sz_rp h)) (r_one (d := 34) hX (sz_ga h))
theorem q_event (hX : gs_Fu X) (hc : gs_Ct t m) (h : gs_Sz m T n n0 n1 n2 n5 n6 n7 n8 turn price limit blur kn z D) : gs_Q2 X 39 137 278 [.inl a] m (gs_Iv (t + 1)) := by
  obtain ⟨M, r, e1, hW, hE, hr⟩ := x_event (d := 32) (x := a) hX (sz_ga h) (sz_rp h) h.2.1 h.2.2.2.1
  have hM := sz_we h hW hE
  obtain ⟨M', r', e2, hW2, hr'⟩ := r_event (d := 33) (x := a) hX (sz_ga hM) hM.2.1
  rw [oneP_wd (wd_e hW)] at hr'
  rw [f_event_congr (E := evI kn D r') (E' := evI kn D r) (sz_ga h).2.2.2.1 (fun g hg => evI_uniq hr' hr hg)] at e2
  exact qg hc hW.1 hM e1 ⟨M', e2, hW2⟩
theorem q_slips (hX : gs_Fu X) (hc : gs_Ct t m) (h : gs_Sz m T n n0 n1 n2 n5 n6 n7 n8 turn price limit blur kn z D) : gs_Q2 X 39 138 281 [.inl a, .inl b] m (gs_Iv (t + 1)) := qt hc h (x_slips (d := 36) hX (sz_ga h)) (r_slips (d := 36) hX (sz_ga h))
theorem q_copied (hX : gs_Fu X) (hc : gs_Ct t m) (h : gs_Sz m T n n0 n1 n2 n5 n6 n7 n8 turn price limit blur kn z D) : gs_Q2 X 39 139 285 [.inl a] m (gs_Iv (t + 1)) := by
  obtain ⟨M, r, e1, hW, hE, hr⟩ := x_copied (d := 32) (x := a) hX (sz_ga h) (sz_rp h) (sz_rb h) h.2.1 h.2.2.2.1
  have hM := sz_we h hW hE
  obtain ⟨M', r', e2, hW2, hr'⟩ := r_copied (d := 33) (x := a) hX (sz_ga hM) (sz_rb hM) hM.2.1
  rw [oneP_wd (wd_e hW)] at hr'
  rw [wd_copied (wd_e hW), f_copied_congr (E := evI kn D r') (E' := evI kn D r) (sz_ga h).2.2.2.1 (fun g hg => evI_uniq hr' hr hg)] at e2
  exact qg hc hW.1 hM e1 ⟨M', e2, hW2⟩
theorem q_from (hX : gs_Fu X) (hc : gs_Ct t m) (h : gs_Sz m T n n0 n1 n2 n5 n6 n7 n8 turn price limit blur kn z D) : gs_Q2 X 39 140 283 [.inl a, .inl b] m (gs_Iv (t + 1)) := qt hc h (x_from (d := 37) hX (sz_sh h) (sz_rb h) (sz_ga h).2.2.2.2.2.2.1 (sz_ct h).1.2.2.1) (r_from (d := 37) hX (sz_sh h) (fun k hk => (sz_rb h k hk).2.2) (sz_ga h).2.2.2.2.2.2.1 (sz_ct h).2.2.2.1)
theorem q_worth (hX : gs_Fu X) (hc : gs_Ct t m) (h : gs_Sz m T n n0 n1 n2 n5 n6 n7 n8 turn price limit blur kn z D) : gs_Q2L X 39 141 286 [.inl a, .inl b] m (gs_Iv (t + 1)) := by
  obtain ⟨M, r, e1, hW, hE, hr⟩ := x_worth (d := 32) (x := a) (w := b) hX (sz_ga h) (sz_rp h) (sz_rb h) h.2.1 h.2.2.2.1
  have hM := sz_we h hW hE
  obtain ⟨M', r', e2, hW2, hr'⟩ := r_worth (d := 33) (x := a) (w := b) hX (sz_ga hM) (sz_rb hM) hM.2.1
  rw [oneP_wd (wd_e hW)] at hr'
  rw [wd_worth (wd_e hW), f_worth_congr (E := evI kn D r') (E' := evI kn D r) (sz_ga h).2.2.2.1 (fun g hg => evI_uniq hr' hr hg)] at e2
  exact qgL hc hW.1 hM e1 ⟨M', e2, hW2⟩
theorem q_said (hX : gs_Fu X) (hc : gs_Ct t m) (h : gs_Sz m T n n0 n1 n2 n5 n6 n7 n8 turn price limit blur kn z D) : gs_Q2 X 39 142 289 [.inl a] m (gs_Iv (t + 1)) := by
  obtain ⟨M, e1, hW, hP⟩ := x_said (d := 31) (x := a) hX (sz_pa h) h.2.2.2.2.1
  have e2 := r_said (d := 31) (x := a) hX (sz_pa (sz_wp h hW hP))
  rw [wd_tlF (wd_p hW)] at e2
  exact qg hc hW.1 (sz_wp h hW hP) e1 e2
theorem q_untold (hX : gs_Fu X) (hc : gs_Ct t m) (h : gs_Sz m T n n0 n1 n2 n5 n6 n7 n8 turn price limit blur kn z D) : gs_Q2L X 39 143 295 [.inl a, .inl b] m (gs_Iv (t + 1)) := qgL hc rfl h (x_untold (d := 34) hX (sz_ca h) (sz_rw h) (sz_wv h) (sz_7 h) (sz_ct h).1.2.2.2) (r_untold (d := 34) hX (sz_ca h) (sz_wv h) (sz_7 h) (sz_ct h).2.2.2.2)
theorem q_next (hX : gs_Fu X) (hc : gs_Ct t m) (h : gs_Sz m T n n0 n1 n2 n5 n6 n7 n8 turn price limit blur kn z D) : gs_Q2 X 39 144 296 [.inl a, .inl b] m (gs_Iv (t + 1)) := qg hc rfl h (x_next (d := 33) hX (sz_ca h)) (r_next (d := 35) hX (sz_ca h))
theorem q_events (hX : gs_Fu X) (hc : gs_Ct t m) (h : gs_Sz m T n n0 n1 n2 n5 n6 n7 n8 turn price limit blur kn z D) : gs_Q2 X 39 145 279 [] m (gs_Iv (t + 1)) := by
  obtain ⟨M, r, e1, hW, hE, hr⟩ := x_events (d := 32) hX (sz_ga h) (sz_rp h) h.2.1 h.2.2.2.1
  have hM := sz_we h hW hE
  obtain ⟨M', r', e2, hW2, hr'⟩ := r_events (d := 33) hX (sz_ga hM) hM.2.1
  rw [oneP_wd (wd_e hW)] at hr'
  rw [f_ec_congr (E := evI kn D r') (E' := evI kn D r) n 0 0 (fun g hg => evI_uniq hr' hr (by omega))] at e2
  exact qg hc hW.1 hM e1 ⟨M', e2, hW2⟩
theorem q_share (hX : gs_Fu X) (hc : gs_Ct t m) (h : gs_Sz m T n n0 n1 n2 n5 n6 n7 n8 turn price limit blur kn z D) : gs_Q2 X 39 146 291 [.inl a] m (gs_Iv (t + 1)) := qt hc h (x_share (d := 37) hX (sz_sh h) (sz_rw h) (sz_7 h) (sz_ct h).1.2.2.2) (r_share (d := 36) hX (sz_sh h) (sz_7 h) (sz_ct h).2.2.2.2)
theorem q_many (hX : gs_Fu X) (hc : gs_Ct t m) (h : gs_Sz m T n n0 n1 n2 n5 n6 n7 n8 turn price limit blur kn z D) : gs_Q2L X 39 147 292 [.inl a, .inl b, .inl w, .inl e] m (gs_Iv (t + 1)) := by
  obtain ⟨M, r, e1, hW, hE, hr⟩ := x_many (d := 31) (s := a) (a := b) (b := w) (w := e) hX (sz_so h) (sz_rp h) (sz_rw h) (sz_wv h) (sz_7 h) (sz_ct h).1.2.2.2 h.2.1 h.2.2.2.1
  have hM := sz_we h hW hE
  obtain ⟨M', r', e2, hW2, hr'⟩ := r_many (d := 33) (s := a) (a := b) (b := w) (w := e) hX (sz_so hM) (sz_wv hM) (sz_7 hM) (sz_ct hM).2.2.2.2 hM.2.1
  rw [f_many_congr (E := evI kn D r') (E' := evI kn D r) (fun g hg => evI_uniq hr' hr hg)] at e2
  exact qgL hc hW.1 hM e1 ⟨M', e2, hW2⟩
theorem q_chance (hX : gs_Fu X) (hc : gs_Ct t m) (h : gs_Sz m T n n0 n1 n2 n5 n6 n7 n8 turn price limit blur kn z D) : gs_Q2 X 39 148 298 [.inl a, .inl b] m (gs_Iv (t + 1)) := qt hc h (x_chance (d := 36) hX (sz_ca h)) (r_chance (d := 36) hX (sz_ca h))
theorem q_sun (hX : gs_Fu X) (hc : gs_Ct t m) (h : gs_Sz m T n n0 n1 n2 n5 n6 n7 n8 turn price limit blur kn z D) : gs_Q2 X 39 149 299 [.inl a] m (gs_Iv (t + 1)) := qt hc h (x_sun (d := 37)) (r_sun (d := 37) (sz_sh h))
theorem q_hidden (hX : gs_Fu X) (hc : gs_Ct t m) (h : gs_Sz m T n n0 n1 n2 n5 n6 n7 n8 turn price limit blur kn z D) : gs_Q2 X 39 150 300 [.inl a] m (gs_Iv (t + 1)) := qt hc h (x_hidden (d := 35) (sz_ga h) (sz_rp h)) (r_hidden (d := 34) hX (sz_ga h))
theorem q_seen (hX : gs_Fu X) (hc : gs_Ct t m) (h : gs_Sz m T n n0 n1 n2 n5 n6 n7 n8 turn price limit blur kn z D) : gs_Q2 X 39 151 301 [.inl a] m (gs_Iv (t + 1)) := qt hc h (x_seen (d := 34) hX) (r_seen (d := 35) hX (sz_sh h))
theorem q_doubted (hX : gs_Fu X) (hc : gs_Ct t m) (h : gs_Sz m T n n0 n1 n2 n5 n6 n7 n8 turn price limit blur kn z D) : gs_Q2 X 39 153 303 [] m (gs_Iv (t + 1)) := by
  have e1 := x_doubted (X := X) (d := 38) (sz_sh h)
  have e2 := r_doubted (X := X) (d := 38) (sz_sh h)
  rw [h.2.1.2.2.2.1] at e1
  rw [h.2.1.2.2.2.2] at e2
  exact qt hc h e1 e2
theorem q_draws (hX : gs_Fu X) (hc : gs_Ct t m) (h : gs_Sz m T n n0 n1 n2 n5 n6 n7 n8 turn price limit blur kn z D) : gs_Q2 X 39 154 305 [.inl a, .inl b, .inl w] m (gs_Iv (t + 1)) := by
  obtain ⟨M, e1, hW⟩ := x_draws (d := 35) (x := a) (y := b) (w := w) hX (sz_ca h)
  have e2 := r_draws (d := 35) (x := a) (y := b) (w := w) hX (sz_ca (sz_wr h hW))
  rw [wr_draws hW] at e2
  exact qg hc hW.1 (sz_wr h hW) e1 e2
theorem q_luck (hX : gs_Fu X) (hc : gs_Ct t m) (h : gs_Sz m T n n0 n1 n2 n5 n6 n7 n8 turn price limit blur kn z D) : gs_Q2 X 39 155 306 [.inl a, .inl b] m (gs_Iv (t + 1)) := by
  obtain ⟨M, e1, hW, hP⟩ := x_luck (d := 26) (x := a) (y := b) hX (sz_pa h) h.2.2.2.2.1
  have e2 := r_luck (d := 31) (x := a) (y := b) hX (sz_pa (sz_wp h hW hP))
  rw [wd_luck (wd_p hW)] at e2
  exact qg hc hW.1 (sz_wp h hW hP) e1 e2
theorem q_count (hX : gs_Fu X) (hc : gs_Ct t m) (h : gs_Sz m T n n0 n1 n2 n5 n6 n7 n8 turn price limit blur kn z D) : gs_Q2 X 39 156 307 [.inl a] m (gs_Iv (t + 1)) := by
  have e1 := x_count (X := X) (d := 38) (x := a) (sz_sh h)
  have e2 := r_count (X := X) (d := 37) (x := a) (sz_sh h)
  obtain ⟨⟨c0, c1, c2, c7⟩, d0, d1, d2, d7⟩ := sz_ct h
  obtain ⟨-, e6, e6', b6, e8, e8', b8, -⟩ := sz_so h
  obtain ⟨-, a1, a2, a3, a4, a5, a6, a7, a8, a9, -⟩ := sz_ga h
  obtain ⟨-, f1, f2, -, f4, f5, -⟩ := sz_ca h
  obtain ⟨l1, l2, -⟩ := h.1.2.1
  obtain ⟨-, -, -, p1, p2, -⟩ := h.1.1
  obtain ⟨k1, k2, k3, -⟩ := h.2.1
  have ek : (if m.2.1 116 37 < 0 then Int32.ofNat n else m.2.1 116 37) = Int32.ofNat kn := by
    rcases k3 with ⟨q1, q2⟩ | q
    · rw [q1, if_pos (by decide), q2]
    · rw [q, if_neg (by rw [i_lt, gs_n32 (by omega)]; show ¬ _ < (0 : Int); omega)]
  rw [c0, c1, c2, c7, e6, e8, a1, a7, f1, f4, l1, p1, k1] at e1
  rw [d0, d1, d2, d7, e6', e8', a2, a8, f2, f5, l2, p2, ek] at e2
  exact qt hc h e1 e2
end CALLS
