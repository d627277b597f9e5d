/-! The rules of sorts: their values. -/
theorem step_len {kn pt ot : Nat → Nat} {nm : Nat → Int64} {k : Nat} {S S' : List Nat} {V V' : List Int64} (hl : S.length = V.length) (hw : wstep kn pt ot k S = some S') (hv : vstep kn pt nm k V = some V') : S'.length = V'.length := by
  unfold wstep at hw
  unfold vstep at hv
  by_cases k0 : kn k = 0
  · rw [if_pos (by omega)] at hw
    rw [if_pos k0] at hv
    cases hw
    cases hv
    exact congrArg (· + 1) hl
  · rw [if_neg k0] at hv
    by_cases k1 : kn k = 1
    · rw [if_pos (by omega)] at hw
      rw [if_pos k1] at hv
      cases hw
      cases hv
      exact congrArg (· + 1) hl
    · rw [if_neg (by omega)] at hw
      rw [if_neg k1] at hv
      by_cases k2 : kn k = 2
      · rw [if_pos k2] at hw hv
        match S, V, hl, hw, hv with
        | [], _, _, hw, _ => cases hw
        | _ :: _, [], hl, _, _ => cases hl
        | a :: S, b :: V, hl, hw, hv =>
          simp only at hw hv
          split at hw
          · cases hw
            cases hv
            exact hl
          · cases hw
      · rw [if_neg k2] at hw hv
        match S, V, hl, hw, hv with
        | [], _, _, hw, _ => cases hw
        | [_], _, _, hw, _ => cases hw
        | _ :: _ :: _, [], hl, _, _ => cases hl
        | _ :: _ :: _, [_], hl, _, _ => cases hl
        | b :: a :: S, y :: x :: V, hl, hw, hv =>
          simp only at hw hv
          split at hw
          · cases hw
            split at hv
            · cases hv
              exact Nat.succ.inj hl
            · cases hv
          · cases hw
theorem gs_lnn {kn pt ot : Nat → Nat} {nm : Nat → Int64} {f : Nat} : ∀ (q : Nat) (S : List Nat) (V : List Int64), gs_wks kn pt ot f q = some S → gs_sv kn pt nm f q = some V → S.length = V.length
  | 0, S, V, h1, h2 => by cases h1; cases h2; rfl
  | q + 1, S, V, h1, h2 => by
    unfold gs_wks at h1
    unfold gs_sv at h2
    split at h1
    · next R hR =>
      split at h2
      · next W hW => exact step_len (gs_lnn q R W hR hW) h1 h2
      · cases h2
    · cases h1
theorem gs_wks_len {kn pt ot : Nat → Nat} {f : Nat} : ∀ (q : Nat) (S : List Nat), gs_wks kn pt ot f q = some S → S.length ≤ q
  | 0, S, h => by cases h; exact Nat.le_refl _
  | q + 1, S, h => by
    unfold gs_wks at h
    split at h
    · next R hR =>
      have ih := gs_wks_len q R hR
      unfold wstep at h
      split at h
      · cases h
        exact Nat.succ_le_succ ih
      · split at h
        · match R, h, ih with
          | [], h, _ => cases h
          | a :: R, h, ih =>
            simp only at h
            split at h
            · cases h
              exact Nat.le_succ_of_le ih
            · cases h
        · match R, h, ih with
          | [], h, _ => cases h
          | [_], h, _ => cases h
          | b :: a :: R, h, ih =>
            simp only at h
            split at h
            · cases h
              simp only [List.length_cons] at ih ⊢
              omega
            · cases h
    · cases h
/-- what a knot needs to stand there -/
theorem wstep_2 {kn pt ot : Nat → Nat} {k : Nat} {S S' : List Nat} (h : wstep kn pt ot k S = some S') (h2 : kn k = 2) : ∃ a R, S = a :: R ∧ pt k = a ∧ S' = k :: R := by
  unfold wstep at h
  rw [if_neg (by omega), if_pos h2] at h
  match S, h with
  | [], h => cases h
  | a :: R, h =>
    simp only at h
    split at h
    · next e => cases h; exact ⟨a, R, rfl, e, rfl⟩
    · cases h
theorem wstep_3 {kn pt ot : Nat → Nat} {k : Nat} {S S' : List Nat} (h : wstep kn pt ot k S = some S') (h3 : 3 ≤ kn k) : ∃ a b R, S = b :: a :: R ∧ pt k = a ∧ ot k = b ∧ S' = k :: R := by
  unfold wstep at h
  rw [if_neg (by omega), if_neg (by omega)] at h
  match S, h with
  | [], h => cases h
  | [_], h => cases h
  | b :: a :: R, h =>
    simp only at h
    split at h
    · next e => cases h; exact ⟨a, b, R, rfl, e.1, e.2, rfl⟩
    · cases h
theorem wstep_1 {kn pt ot : Nat → Nat} {k : Nat} {S S' : List Nat} (h : wstep kn pt ot k S = some S') (h1 : kn k ≤ 1) : S' = k :: S := by
  unfold wstep at h
  rw [if_pos h1] at h
  cases h
  rfl
section SRT
variable {X : gs_E} {d : Nat} {m M : gs_M} {T n n0 n1 n2 n6 n8 turn g k l f q F s : Nat}
theorem rs_err (h : gs_Sh m T) : gs_rs (T + 17) 4 := Or.inr (Or.inr (Or.inr ⟨by rcases h.2.1 with e | e <;> rw [e] <;> decide, rfl⟩))
theorem wr_178 (h : gs_Sh m T) (hW : gs_Wr m M) : M.2.1 (T + 17) 3 = m.2.1 (T + 17) 3 := hW.2.2 _ _ (fun q => by
  unfold gs_rs at q
  have := h.2.1
  omega)
theorem f_names (hR : gs_RG m T n) (hg : g < n) : ∀ p, p < 6 → Int32.toInt64 (f_vo (m.2.1 (T + (27 + g))) (Int32.ofNat (ckn p))) = nmv m g p := by
  intro p hp
  have r6 : m.2.1 (T + (27 + g)) 6 = gd m g 5 := hR g hg (6, 5) (by decide)
  have r3 : m.2.1 (T + (27 + g)) 3 = gd m g 2 := hR g hg (3, 2) (by decide)
  have r10 : m.2.1 (T + (27 + g)) 10 = gd m g 7 := hR g hg (10, 7) (by decide)
  have r11 : m.2.1 (T + (27 + g)) 11 = gd m g 8 := hR g hg (11, 8) (by decide)
  have r12 : m.2.1 (T + (27 + g)) 12 = gd m g 9 := hR g hg (12, 9) (by decide)
  have r13 : m.2.1 (T + (27 + g)) 13 = gd m g 10 := hR g hg (13, 10) (by decide)
  unfold nmv
  congr 1
  rcases (show p = 0 ∨ p = 1 ∨ p = 2 ∨ p = 3 ∨ p = 4 ∨ p = 5 by omega) with rfl | rfl | rfl | rfl | rfl | rfl
  · exact r10
  · exact r11
  · exact r12
  · exact r13
  · exact r6
  · exact r3
theorem x_ev_loop (h : gs_Sh m T) (hR : gs_RG m T n) (hg : g < n) (hn : n ≤ 12) (hK : gs_RK m T n8) (h8 : m.2.1 (T + 17) 3 = Int32.ofNat n8) (b8 : n8 ≤ 64) (hl : l ≤ n8) (hfl : f ≤ l) (hw : gs_wks (kj m) (pj m) (oj m) f (l - f) = some [l - 1]) :
    ∀ (r q F : Nat) (M : gs_M) (V : List Int64), gs_Wr m M → f + q + r = l → r + 1 < F → gs_sv (kj m) (pj m) (nmv m g) f q = some V → gs_stk (M.2.2.1 (T + 20)) V → M.2.1 (T + 17) 4 = 0 →
      (∀ v, gs_sv (kj m) (pj m) (nmv m g) f (l - f) = some [v] → ∃ M', x_evF X d T g l V.length (f + q) F M = gs_rJ v M' ∧ gs_Wr m M' ∧ M'.2.1 (T + 17) 4 = 0) ∧
      (gs_sv (kj m) (pj m) (nmv m g) f (l - f) = none → ∃ M', x_evF X d T g l V.length (f + q) F M = gs_rJ 0 M' ∧ gs_Wr m M' ∧ M'.2.1 (T + 17) 4 = 1) := by
  intro r
  induction r with
  | zero =>
    intro q F M V hW hq hF hV hst he
    obtain ⟨F, rfl⟩ : ∃ z, F = z + 1 := ⟨F - 1, by omega⟩
    have eq : l - f = q := by omega
    have hs := wr_sh h hW
    rw [eq, hV]
    refine ⟨fun v hv => ?_, fun hv => by cases hv⟩
    cases hv
    refine ⟨M, ?_, hW, he⟩
    have e := x_ev_end (X := X) (d := d) (g := g) (F := F) (H := 1) (l := l) hs he (by omega) (by decide) (by decide)
    rw [show f + q = l by omega]
    show x_evF X d T g l 1 l (F + 1) M = _
    rw [e]
    exact congrArg (fun z => gs_rJ z M) hst.1
  | succ r ih =>
    intro q F M V hW hq hF hV hst he
    obtain ⟨F, rfl⟩ : ∃ z, F = z + 1 := ⟨F - 1, by omega⟩
    have hs := wr_sh h hW
    obtain ⟨S1, hS1⟩ := gs_wks_pre (r) (q + 1) [l - 1] (show gs_wks (kj m) (pj m) (oj m) f (q + 1 + r) = _ by rw [show q + 1 + r = l - f by omega]; exact hw)
    obtain ⟨S, hS⟩ := gs_wks_pre 1 q S1 hS1
    have hst1 := (gs_wks_s hS).symm.trans hS1
    have hlen := gs_lnn q S V hS hV
    have hSl := gs_wks_len q S hS
    have hkk : f + q < n8 := by omega
    obtain ⟨a1, a2, a3, a4, a5, a6, a7, a8⟩ := hK (f + q) hkk
    have h8M : M.2.1 (T + 17) 3 = Int32.ofNat n8 := (wr_178 h hW).trans h8
    have c18 : M.2.1 (T + 18) (f + q) = Int32.ofNat (ck (kj m (f + q)) (pj m (f + q))) := by rw [wr_t h hW 18 (by decide)]; exact a6
    have hH : V.length < 64 := by omega
    have go : ∀ (V' : List Int64) (M' : gs_M) (H' : Nat), H' = V'.length → vstep (kj m) (pj m) (nmv m g) (f + q) V = some V' → gs_Wr m M' → gs_stk (M'.2.2.1 (T + 20)) V' → M'.2.1 (T + 17) 4 = 0 → x_evF X d T g l V.length (f + q) (F + 1) M = x_evF X d T g l H' (f + q + 1) F M' →
        (∀ v, gs_sv (kj m) (pj m) (nmv m g) f (l - f) = some [v] → ∃ M', x_evF X d T g l V.length (f + q) (F + 1) M = gs_rJ v M' ∧ gs_Wr m M' ∧ M'.2.1 (T + 17) 4 = 0) ∧
        (gs_sv (kj m) (pj m) (nmv m g) f (l - f) = none → ∃ M', x_evF X d T g l V.length (f + q) (F + 1) M = gs_rJ 0 M' ∧ gs_Wr m M' ∧ M'.2.1 (T + 17) 4 = 1) := by
      intro V' M' H' hH' hv hW' hst' he' e
      rw [e, hH']
      exact ih (q + 1) F M' V' hW' (by omega) (by omega) ((gs_sv_s hV).trans hv) hst' he'
    by_cases k0 : kj m (f + q) = 0
    · have c : M.2.1 (T + 18) (f + q) = 33 := by rw [c18, k0]; rfl
      have e19 : M.2.1 (T + 19) (f + q) = Int32.ofNat (pj m (f + q)) := by rw [wr_t h hW 19 (by decide), a7 k0]; exact a3
      refine go (Int64.ofNat (pj m (f + q)) :: V) _ (V.length + 1) rfl (by unfold vstep; rw [if_pos k0]) (wr_sJ hW) ?_ he (x_ev_num hs h8M b8 he (by omega) hl hH c)
      rw [e19, l_32 (by omega)]
      exact gs_stk_push hst
    · by_cases k1 : kj m (f + q) = 1
      · have hp := a8 k1
        have c : M.2.1 (T + 18) (f + q) = Int32.ofNat (ckn (pj m (f + q))) := by rw [c18, k1]; rfl
        have cc : ∀ p, p < 6 → ¬ Int32.ofNat (ckn p) = 29 ∧ f_sg (Int32.ofNat (ckn p)) = 0 ∧ ¬ Int32.ofNat (ckn p) = 33 := by decide
        obtain ⟨c1, c2, c3⟩ := cc _ hp
        refine go (nmv m g (pj m (f + q)) :: V) _ (V.length + 1) rfl (by unfold vstep; rw [if_neg k0, if_pos k1]) (wr_sJ hW) ?_ he (x_ev_name hs (by omega) h8M b8 he (by omega) hl hH c c1 c2 c3)
        rw [wr_t h hW (27 + g) (by omega), f_names hR hg _ hp]
        exact gs_stk_push hst
      · by_cases k2 : kj m (f + q) = 2
        · obtain ⟨a, R, rfl, -, -⟩ := wstep_2 hst1 k2
          match V, hlen, hV, hst, hH, go with
          | [], hlen, _, _, _, _ => cases hlen
          | u :: V, hlen, hV, hst, hH, go =>
            have c : M.2.1 (T + 18) (f + q) = 29 := by rw [c18, k2]; rfl
            have hH : V.length + 1 < 64 := hH
            refine go ((if lg_cmp u 0 = 0 then 1 else 0) :: V) _ (V.length + 1) rfl (by unfold vstep; rw [if_neg k0, if_neg k1, if_pos k2]) (wr_sJ hW) ?_ he (x_ev_not (H := V.length) hs h8M b8 he (by omega) hl (by omega) c)
            rw [hst.1]
            exact gs_stk_set hst
        · have k3 : 3 ≤ kj m (f + q) := by omega
          obtain ⟨a, b, R, rfl, -, -, -⟩ := wstep_3 hst1 k3
          match V, hlen, hV, hst, hH, go with
          | [], hlen, _, _, _, _ => cases hlen
          | [_], hlen, _, _, _, _ => cases hlen
          | y :: x :: V, hlen, hV, hst, hH, go =>
            have hH : V.length + 2 < 64 := hH
            have c : M.2.1 (T + 18) (f + q) = Int32.ofNat (ckb (kj m (f + q))) := by
              rw [c18]
              unfold ck
              rw [if_neg k0, if_neg k1, if_neg k2]
            have e := x_ev_sign (X := X) (d := d) (g := g) (F := F) (H := V.length) hs h8M b8 he (show f + q < l by omega) hl (by omega) k3 a2 c
            have q1 : M.2.2.1 (T + 20) (V.length + 1) = y := hst.1
            have q2 : M.2.2.1 (T + 20) V.length = x := hst.2.1
            rw [q1, q2] at e
            cases ha : f_ap (kj m (f + q)) x y with
            | some v =>
              rw [ha] at e
              refine go (v :: V) _ (V.length + 1) rfl (by unfold vstep; rw [if_neg k0, if_neg k1, if_neg k2]; simp only [ha]) (wr_sJ hW) ?_ he e
              exact gs_stk_push hst.2.2
            | none =>
              rw [ha] at e
              have hn1 : gs_sv (kj m) (pj m) (nmv m g) f (l - f) = none := by
                rw [show l - f = q + 1 + r by omega]
                refine gs_sv_none r (q + 1) ?_
                rw [gs_sv_s hV]
                unfold vstep
                rw [if_neg k0, if_neg k1, if_neg k2]
                simp only [ha]
              refine ⟨fun v hv => (by rw [hn1] at hv; cases hv), fun _ => ?_⟩
              have hW' : gs_Wr m (gs_sJ (gs_sI M (T + 17) 4 1) (T + 20) V.length 0) := wr_sJ (wr_sI hW (rs_err h))
              refine ⟨_, e.trans ?_, hW', gs_sIe _ _ _ _⟩
              obtain ⟨F, rfl⟩ : ∃ z, F = z + 1 := ⟨F - 1, by omega⟩
              exact x_ev_err (wr_sh h hW') (gs_sIe _ _ _ _) (by omega) (by omega) ((wr_178 h hW').trans h8) b8 hl
/-! sorts: how the two classes hold them -/
abbrev sbg (m : gs_M) (s : Nat) : Nat := (m.2.1 136 s).toInt.toNat
abbrev sen (m : gs_M) (s : Nat) : Nat := (m.2.1 137 s).toInt.toNat
def gs_RS (m : gs_M) (T n6 n8 : Nat) : Prop := gs_RK m T n8 ∧ ∀ s, s < n6 → m.2.1 (T + 14) s = m.2.1 134 s ∧ m.2.1 (T + 15) s = m.2.1 135 s ∧ (∃ w, 1 ≤ w ∧ w ≤ 99 ∧ m.2.1 135 s = Int32.ofNat w) ∧ m.2.1 (T + 16) s = m.2.1 137 s ∧ m.2.1 136 s = Int32.ofNat (sbg m s) ∧ m.2.1 137 s = Int32.ofNat (sen m s) ∧ sbg m s < sen m s ∧ sen m s ≤ n8 ∧ (s = 0 → sbg m s = 0) ∧ (∀ t, s = t + 1 → sbg m s = sen m t) ∧ gs_wks (kj m) (pj m) (oj m) (sbg m s) (sen m s - sbg m s) = some [sen m s - 1]
/-- the value of a sort's rule for a guest; none: an error -/
def sumO (m : gs_M) (g s : Nat) : Option Int64 := match gs_sv (kj m) (pj m) (nmv m g) (sbg m s) (sen m s - sbg m s) with
  | some (v :: _) => some v
  | _ => none
def f_er (o : Option Int64) : Int32 := match o with
  | some _ => 0
  | none => 1
def f_vl (o : Option Int64) : Int64 := match o with
  | some v => v
  | none => 0
def gs_So (m : gs_M) (T n n0 n1 n2 turn n6 n8 : Nat) : Prop := gs_Ga m T n n0 n1 n2 turn ∧ m.2.1 (T + 13) 3 = Int32.ofNat n6 ∧ m.2.1 119 6 = Int32.ofNat n6 ∧ n6 ≤ 6 ∧ m.2.1 (T + 17) 3 = Int32.ofNat n8 ∧ m.2.1 119 8 = Int32.ofNat n8 ∧ n8 ≤ 64 ∧ gs_RS m T n6 n8
theorem sumO_c (hS : gs_RS m T n6 n8) (hs : s < n6) : (∃ v, gs_sv (kj m) (pj m) (nmv m g) (sbg m s) (sen m s - sbg m s) = some [v] ∧ sumO m g s = some v) ∨ (gs_sv (kj m) (pj m) (nmv m g) (sbg m s) (sen m s - sbg m s) = none ∧ sumO m g s = none) := by
  obtain ⟨-, -, -, -, -, -, -, -, -, -, hw⟩ := hS.2 s hs
  unfold sumO
  cases hv : gs_sv (kj m) (pj m) (nmv m g) (sbg m s) (sen m s - sbg m s) with
  | none => exact Or.inr ⟨rfl, rfl⟩
  | some V =>
    have hl := gs_lnn _ _ V hw hv
    match V, hl with
    | [v], _ => exact Or.inl ⟨v, rfl, rfl⟩
theorem x_evaluate (hX : gs_Fu X) (hO : gs_So m T n n0 n1 n2 turn n6 n8) (hg : g < n) (hs : s < n6) :
    ∃ M', gs_exec X (d + 4) 73 [.inr (.inr (T + 17)), .inl (Int32.ofNat (sbg m s)), .inl (Int32.ofNat (sen m s)), .inr (.inr (T + (27 + g)))] m = gs_rJ (f_vl (sumO m g s)) M' ∧ gs_Wr m M' ∧ M'.2.1 (T + 17) 4 = f_er (sumO m g s) := by
  obtain ⟨⟨h, -, -, hn, -, -, -, -, -, -, hR, -, -⟩, -, -, -, h8, -, b8, hS⟩ := hO
  obtain ⟨-, -, -, -, -, -, hlt, hl8, -, -, hw⟩ := hS.2 s hs
  have hm : (if (0 : Int32) < Int32.ofNat (sbg m s) then Int32.ofNat (sbg m s) else 0) = Int32.ofNat (sbg m s) := by
    by_cases h0 : (0 : Int32) < Int32.ofNat (sbg m s)
    · rw [if_pos h0]
    · have : ¬ 0 < sbg m s := fun q => h0 ((gs_nlt (a := 0) (by decide) (by omega)).mpr q)
      rw [if_neg h0, show sbg m s = 0 by omega]
      rfl
  have hW : gs_Wr m (gs_sI m (T + 17) 4 0) := wr_sI (wr_refl m) (rs_err h)
  have key := x_ev_loop (X := X) (d := d) h hR hg hn hS.1 h8 b8 hl8 (Nat.le_of_lt hlt) hw (sen m s - sbg m s) 0 X.1 (gs_sI m (T + 17) 4 0) [] hW (by omega) (by unfold gs_Fu at hX; omega) rfl trivial (gs_sIe _ _ _ _)
  rw [eq_X6_evaluate, fl_t17 h, gs_bt0]
  show ∃ M', gs_bI (gs_exec X (d + 3) 312 [.inl 0, .inl (Int32.ofNat (sbg m s))] (gs_sI m (T + 17) 4 0)) gs_nt _ = _ ∧ _
  rw [x_max, gs_bI_s, hm]
  rcases sumO_c (g := g) hS hs with ⟨v, e1, e2⟩ | ⟨e1, e2⟩
  · rw [e2]
    exact key.1 v e1
  · rw [e2]
    exact key.2 e1
theorem x_sortValue (hX : gs_Fu X) (hO : gs_So m T n n0 n1 n2 turn n6 n8) (hg : g < n) (hs : s < n6) :
    ∃ M', gs_exec X (d + 5) 96 [.inr (.inr T), .inr (.inr (T + (27 + g))), .inl (Int32.ofNat s)] m = gs_rJ (f_vl (sumO m g s)) M' ∧ gs_Wr m M' ∧ M'.2.1 (T + 17) 4 = f_er (sumO m g s) := by
  obtain ⟨M', e, hW, hf⟩ := x_evaluate (d := d) hX hO hg hs
  refine ⟨M', ?_, hW, hf⟩
  obtain ⟨⟨h, -, -, hn, -, -, -, -, -, -, hR, -, -⟩, -, -, h6, h8, -, b8, hS⟩ := hO
  obtain ⟨-, -, -, e16, ef, el, hlt, hl8, s0, s1, hw⟩ := hS.2 s hs
  rw [eq_X8_sortValue]
  by_cases hz : s = 0
  · subst hz
    rw [if_pos (show Int32.ofNat 0 = 0 from rfl), fl_t0 h, sh_t0_4 h, gs_nn_s, fl_t0 h, sh_t0_3 h, gs_nn_s, fl_t13 h, sh_t13_2 h, gs_nn_s, ar_t h 16 13 6 (by decide) (by omega), fl_t17 h, e16, el]
    have e0 : (0 : Int32) = Int32.ofNat (sbg m 0) := by rw [s0 rfl]; rfl
    rw [e0, e, gs_bJ_s]
  · obtain ⟨t, rfl⟩ : ∃ t, s = t + 1 := ⟨s - 1, by omega⟩
    obtain ⟨-, -, -, e16', -, el', -⟩ := hS.2 t (by omega)
    have em : Int32.ofNat (t + 1) - (1 : Int32) = Int32.ofNat t := n_sub (a := t + 1) (b := 1) (by omega)
    rw [if_neg (n_nz (by omega) (by omega)), fl_t0 h, sh_t0_3 h, gs_nn_s, fl_t13 h, sh_t13_2 h, gs_nn_s, em, ar_t h 16 13 6 (by decide) (by omega), fl_t0 h, sh_t0_4 h, gs_nn_s, fl_t0 h, gs_nn_s, fl_t13 h, sh_t13_2 h, gs_nn_s, ar_t h 16 13 6 (by decide) (by omega), fl_t17 h, e16, el, e16', el', ← s1 t rfl, e, gs_bJ_s]
theorem wr_gs_RK (h : gs_Sh m T) (hW : gs_Wr m M) (hK : gs_RK m T n8) : gs_RK M T n8 := by
  have c139 := wr_cell hW 139 (by decide) (by decide)
  have c140 := wr_cell hW 140 (by decide) (by decide)
  have c141 := wr_cell hW 141 (by decide) (by decide)
  have c18 := wr_t h hW 18 (by decide)
  have c19 := wr_t h hW 19 (by decide)
  unfold gs_RK kj pj oj
  rw [c139, c140, c141, c18, c19]
  exact hK
theorem wr_so (hO : gs_So m T n n0 n1 n2 turn n6 n8) (hW : gs_Wr m M) : gs_So M T n n0 n1 n2 turn n6 n8 := by
  obtain ⟨hG, e6, e6', b6, e8, e8', b8, hK, hS⟩ := hO
  have h := hG.1
  refine ⟨wr_ga hG hW, ?_, ?_, b6, (wr_178 h hW).trans e8, ?_, b8, wr_gs_RK h hW hK, ?_⟩
  · rw [wr_t h hW 13 (by decide)]; exact e6
  · rw [wr_cell hW 119 (by decide) (by decide)]; exact e6'
  · rw [wr_cell hW 119 (by decide) (by decide)]; exact e8'
  · unfold sbg sen kj pj oj
    rw [wr_cell hW 134 (by decide) (by decide), wr_cell hW 135 (by decide) (by decide), wr_cell hW 136 (by decide) (by decide), wr_cell hW 137 (by decide) (by decide), wr_cell hW 139 (by decide) (by decide), wr_cell hW 140 (by decide) (by decide), wr_cell hW 141 (by decide) (by decide), wr_t h hW 14 (by decide), wr_t h hW 15 (by decide), wr_t h hW 16 (by decide)]
    exact hS
theorem wr_nmv (hW : gs_Wr m M) : nmv M g = nmv m g := funext fun p => by
  unfold nmv
  rw [wr_gd hW]
theorem wr_sumO (hW : gs_Wr m M) : sumO M g s = sumO m g s := by
  unfold sumO sbg sen kj pj
  rw [wr_nmv hW, wr_cell hW 136 (by decide) (by decide), wr_cell hW 137 (by decide) (by decide), wr_cell hW 139 (by decide) (by decide), wr_cell hW 140 (by decide) (by decide)]
end SRT
