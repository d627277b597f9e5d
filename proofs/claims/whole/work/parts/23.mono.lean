/-! The counts never fall. -/
def gs_le (m m2 : gs_M) : Prop := gs_us m ≤ gs_us m2 ∧ m.1.2.2 ≤ m2.1.2.2
theorem gs_le_nw {m m2 : gs_M} {z : Nat} (h : gs_le (gs_nw m z) m2) : gs_le m m2 := by
  have h1 : m.1.1 + 1 + m.1.2.1 ≤ gs_us m2 := h.1
  have h2 : m.1.2.2 + z ≤ m2.1.2.2 := h.2
  refine ⟨?_, by omega⟩
  show m.1.1 + m.1.2.1 ≤ gs_us m2
  omega
theorem gs_le_call {C : Nat → List gs_V → gs_M → gs_O} {hd : Nat → gs_M → gs_O} {go : gs_Go} {nx k rk : Nat} {as rest : List gs_V} {is : List gs_N} {lo : gs_L} {m : gs_M} {r : gs_R × gs_M}
    (hgo : ∀ (pc : Nat) (is : List gs_N) (lo : gs_L) (st : List gs_V) (m2 : gs_M), go pc is lo st m2 = some r → gs_le m2 r.2) (hcal : ∀ (k : Nat) (as : List gs_V) (m2 : gs_M) (r2 : gs_R × gs_M), C k as m2 = some r2 → gs_le m2 r2.2) (hhd : ∀ (x : Nat) (m2 : gs_M), hd x m2 = some r → gs_le m2 r.2)
    (h : gs_call C hd go nx k rk as rest is lo m = some r) : gs_le m r.2 := by
  obtain ⟨-, r2, hc, hres⟩ := gs_call_ok h
  have h1 := hcal _ _ _ _ hc
  have h2 : gs_le r2.2 r.2 := by
    rcases hres with ⟨v, -, hg⟩ | ⟨x, -, hg⟩
    · exact hgo _ _ _ _ _ hg
    · exact hhd _ _ hg
  exact ⟨Nat.le_trans h1.1 h2.1, Nat.le_trans h1.2 h2.2⟩
theorem gs_le_hd2 {go : gs_Go} {pc : Nat} {lo : gs_L} {x : Nat} {m2 : gs_M} {r : gs_R × gs_M} (hgo : ∀ (pc : Nat) (is : List gs_N) (lo : gs_L) (st : List gs_V) (m2 : gs_M), go pc is lo st m2 = some r → gs_le m2 r.2) : ∀ {hs : List (Nat × Nat × Nat × Nat × Nat × Nat × Nat)}, gs_hd2 hs pc go lo x m2 = some r → gs_le m2 r.2
  | [], h => by
    have h : gs_nt x m2 = some r := h
    cases h
  | (a, b, _, E, p, ix, _) :: t, h => by
    have h : cond (Nat.ble a pc && Nat.blt pc b && Nat.beq x E) (go p [] (gs_rm lo ix) [] m2) (gs_hd2 t pc go lo x m2) = some r := h
    cases hb : (Nat.ble a pc && Nat.blt pc b && Nat.beq x E) with
    | true => rw [hb] at h; exact hgo _ _ _ _ _ h
    | false => rw [hb] at h; exact gs_le_hd2 hgo h
theorem gs_le_hd {go : gs_Go} {pc : Nat} {lo : gs_L} {x : Nat} {m2 : gs_M} {r : gs_R × gs_M} (hgo : ∀ (pc : Nat) (is : List gs_N) (lo : gs_L) (st : List gs_V) (m2 : gs_M), go pc is lo st m2 = some r → gs_le m2 r.2) : ∀ {hs : List (Nat × Nat × Nat × Nat × Nat × Nat × Nat)}, gs_hd hs pc go lo x m2 = some r → gs_le m2 r.2
  | [], h => by
    have h : gs_th x m2 = some r := h
    cases h
    exact ⟨Nat.le_refl _, Nat.le_refl _⟩
  | q :: t, h => gs_le_hd2 (hs := q :: t) hgo h
set_option maxHeartbeats 4000000 in
theorem gs_step_le {X : gs_E} {C : Nat → List gs_V → gs_M → gs_O} {hs : List (Nat × Nat × Nat × Nat × Nat × Nat × Nat)} {go : gs_Go} {pc : Nat} {is : List gs_N} {lo : gs_L} {st : List gs_V} {m : gs_M} {r : gs_R × gs_M}
    (hgo : ∀ (pc : Nat) (is : List gs_N) (lo : gs_L) (st : List gs_V) (m2 : gs_M), go pc is lo st m2 = some r → gs_le m2 r.2) (hcal : ∀ (k : Nat) (as : List gs_V) (m2 : gs_M) (r2 : gs_R × gs_M), C k as m2 = some r2 → gs_le m2 r2.2)
    (ins : gs_N) (h : gs_step X C hs go pc ins is lo st m = some r) : gs_le m r.2 := by
  obtain ⟨i, nx, a1, a2, a3, a4, cv, sw⟩ := ins
  cases i with
  | iconst n =>
    have h : gs_cI cv (fun x => go nx is lo (.inl x :: st) m) = some r := h
    obtain ⟨x, hx1, h⟩ := gs_cI_ok h
    exact hgo _ _ _ _ _ h
  | bipush n =>
    have h : gs_cI cv (fun x => go nx is lo (.inl x :: st) m) = some r := h
    obtain ⟨x, hx1, h⟩ := gs_cI_ok h
    exact hgo _ _ _ _ _ h
  | sipush n =>
    have h : gs_cI cv (fun x => go nx is lo (.inl x :: st) m) = some r := h
    obtain ⟨x, hx1, h⟩ := gs_cI_ok h
    exact hgo _ _ _ _ _ h
  | lconst n =>
    have h : gs_cJ cv (fun x => go nx is lo (.inr (.inl x) :: st) m) = some r := h
    obtain ⟨x, hx1, h⟩ := gs_cJ_ok h
    exact hgo _ _ _ _ _ h
  | iload n =>
    have h : gs_lI lo _ (fun x => go nx is lo (.inl x :: st) m) = some r := h
    obtain ⟨x, hx1, h⟩ := gs_lI_ok h
    exact hgo _ _ _ _ _ h
  | iload_n n =>
    have h : gs_lI lo _ (fun x => go nx is lo (.inl x :: st) m) = some r := h
    obtain ⟨x, hx1, h⟩ := gs_lI_ok h
    exact hgo _ _ _ _ _ h
  | lload n =>
    have h : gs_lJ lo _ (fun x => go nx is lo (.inr (.inl x) :: st) m) = some r := h
    obtain ⟨x, hx1, h⟩ := gs_lJ_ok h
    exact hgo _ _ _ _ _ h
  | lload_n n =>
    have h : gs_lJ lo _ (fun x => go nx is lo (.inr (.inl x) :: st) m) = some r := h
    obtain ⟨x, hx1, h⟩ := gs_lJ_ok h
    exact hgo _ _ _ _ _ h
  | aload n =>
    have h : gs_lA lo _ (fun x => go nx is lo (.inr (.inr x) :: st) m) = some r := h
    obtain ⟨x, hx1, h⟩ := gs_lA_ok h
    exact hgo _ _ _ _ _ h
  | aload_n n =>
    have h : gs_lA lo _ (fun x => go nx is lo (.inr (.inr x) :: st) m) = some r := h
    obtain ⟨x, hx1, h⟩ := gs_lA_ok h
    exact hgo _ _ _ _ _ h
  | iadd =>
    have h : gs_i2 st (fun x y st => go nx is lo (.inl (x + y) :: st) m) = some r := h
    obtain ⟨x, y, st, rfl, h⟩ := gs_i2_ok h
    exact hgo _ _ _ _ _ h
  | isub =>
    have h : gs_i2 st (fun x y st => go nx is lo (.inl (x - y) :: st) m) = some r := h
    obtain ⟨x, y, st, rfl, h⟩ := gs_i2_ok h
    exact hgo _ _ _ _ _ h
  | imul =>
    have h : gs_i2 st (fun x y st => go nx is lo (.inl (x * y) :: st) m) = some r := h
    obtain ⟨x, y, st, rfl, h⟩ := gs_i2_ok h
    exact hgo _ _ _ _ _ h
  | iand =>
    have h : gs_i2 st (fun x y st => go nx is lo (.inl (x &&& y) :: st) m) = some r := h
    obtain ⟨x, y, st, rfl, h⟩ := gs_i2_ok h
    exact hgo _ _ _ _ _ h
  | ior =>
    have h : gs_i2 st (fun x y st => go nx is lo (.inl (x ||| y) :: st) m) = some r := h
    obtain ⟨x, y, st, rfl, h⟩ := gs_i2_ok h
    exact hgo _ _ _ _ _ h
  | ixor =>
    have h : gs_i2 st (fun x y st => go nx is lo (.inl (x ^^^ y) :: st) m) = some r := h
    obtain ⟨x, y, st, rfl, h⟩ := gs_i2_ok h
    exact hgo _ _ _ _ _ h
  | ishl =>
    have h : gs_i2 st (fun x y st => go nx is lo (.inl (x <<< (y &&& 31)) :: st) m) = some r := h
    obtain ⟨x, y, st, rfl, h⟩ := gs_i2_ok h
    exact hgo _ _ _ _ _ h
  | ishr =>
    have h : gs_i2 st (fun x y st => go nx is lo (.inl (x >>> (y &&& 31)) :: st) m) = some r := h
    obtain ⟨x, y, st, rfl, h⟩ := gs_i2_ok h
    exact hgo _ _ _ _ _ h
  | iushr =>
    have h : gs_i2 st (fun x y st => go nx is lo (.inl ((x.toUInt32 >>> (y.toUInt32 &&& Int32.toUInt32 31)).toInt32) :: st) m) = some r := h
    obtain ⟨x, y, st, rfl, h⟩ := gs_i2_ok h
    exact hgo _ _ _ _ _ h
  | idiv =>
    have h : gs_i2 st (fun x y st => gs_nz y (go nx is lo (.inl (x / y) :: st) m)) = some r := h
    obtain ⟨x, y, st, rfl, h⟩ := gs_i2_ok h
    obtain ⟨hy, h⟩ := gs_nz_ok h
    exact hgo _ _ _ _ _ h
  | irem =>
    have h : gs_i2 st (fun x y st => gs_nz y (go nx is lo (.inl (x - x / y * y) :: st) m)) = some r := h
    obtain ⟨x, y, st, rfl, h⟩ := gs_i2_ok h
    obtain ⟨hy, h⟩ := gs_nz_ok h
    exact hgo _ _ _ _ _ h
  | ineg =>
    have h : gs_i1 st (fun x st => go nx is lo (.inl (-x) :: st) m) = some r := h
    obtain ⟨x, st, rfl, h⟩ := gs_i1_ok h
    exact hgo _ _ _ _ _ h
  | ladd =>
    have h : gs_j2 st (fun x y st => go nx is lo (.inr (.inl (x + y)) :: st) m) = some r := h
    obtain ⟨x, y, st, rfl, h⟩ := gs_j2_ok h
    exact hgo _ _ _ _ _ h
  | lsub =>
    have h : gs_j2 st (fun x y st => go nx is lo (.inr (.inl (x - y)) :: st) m) = some r := h
    obtain ⟨x, y, st, rfl, h⟩ := gs_j2_ok h
    exact hgo _ _ _ _ _ h
  | lmul =>
    have h : gs_j2 st (fun x y st => go nx is lo (.inr (.inl (x * y)) :: st) m) = some r := h
    obtain ⟨x, y, st, rfl, h⟩ := gs_j2_ok h
    exact hgo _ _ _ _ _ h
  | land =>
    have h : gs_j2 st (fun x y st => go nx is lo (.inr (.inl (x &&& y)) :: st) m) = some r := h
    obtain ⟨x, y, st, rfl, h⟩ := gs_j2_ok h
    exact hgo _ _ _ _ _ h
  | ldiv =>
    have h : gs_j2 st (fun x y st => gs_nzL y (go nx is lo (.inr (.inl (x / y)) :: st) m)) = some r := h
    obtain ⟨x, y, st, rfl, h⟩ := gs_j2_ok h
    obtain ⟨hy, h⟩ := gs_nzL_ok h
    exact hgo _ _ _ _ _ h
  | lrem =>
    have h : gs_j2 st (fun x y st => gs_nzL y (go nx is lo (.inr (.inl (x - x / y * y)) :: st) m)) = some r := h
    obtain ⟨x, y, st, rfl, h⟩ := gs_j2_ok h
    obtain ⟨hy, h⟩ := gs_nzL_ok h
    exact hgo _ _ _ _ _ h
  | lneg =>
    have h : gs_j1 st (fun x st => go nx is lo (.inr (.inl (-x)) :: st) m) = some r := h
    obtain ⟨x, st, rfl, h⟩ := gs_j1_ok h
    exact hgo _ _ _ _ _ h
  | i2l =>
    have h : gs_i1 st (fun x st => go nx is lo (.inr (.inl x.toInt64) :: st) m) = some r := h
    obtain ⟨x, st, rfl, h⟩ := gs_i1_ok h
    exact hgo _ _ _ _ _ h
  | l2i =>
    have h : gs_j1 st (fun x st => go nx is lo (.inl x.toInt32 :: st) m) = some r := h
    obtain ⟨x, st, rfl, h⟩ := gs_j1_ok h
    exact hgo _ _ _ _ _ h
  | i2b =>
    have h : gs_i1 st (fun x st => go nx is lo (.inl x.toInt8.toInt32 :: st) m) = some r := h
    obtain ⟨x, st, rfl, h⟩ := gs_i1_ok h
    exact hgo _ _ _ _ _ h
  | lcmp =>
    have h : gs_j2 st (fun x y st => go nx is lo (.inl (lg_cmp x y) :: st) m) = some r := h
    obtain ⟨x, y, st, rfl, h⟩ := gs_j2_ok h
    exact hgo _ _ _ _ _ h
  | dup =>
    have h : gs_v1 st (fun v st => cond (gs_two v) none (go nx is lo (v :: v :: st) m)) = some r := h
    obtain ⟨v, st, rfl, h⟩ := gs_v1_ok h
    obtain ⟨hv, h⟩ := gs_cn_ok h
    exact hgo _ _ _ _ _ h
  | dup2 =>
    have h : gs_v2 st (fun v w st => cond (gs_two v || gs_two w) none (go nx is lo (v :: w :: v :: w :: st) m)) = some r := h
    obtain ⟨v, w, st, rfl, h⟩ := gs_v2_ok h
    obtain ⟨hv, h⟩ := gs_cn_ok h
    exact hgo _ _ _ _ _ h
  | ldc2_w n =>
    have h : gs_cJ cv (fun x => go nx is lo (.inr (.inl x) :: st) m) = some r := h
    obtain ⟨x, hx1, h⟩ := gs_cJ_ok h
    exact hgo _ _ _ _ _ h
  | ldc n =>
    match a1, h with
    | 0, h =>
      have h : gs_cI cv (fun x => go nx is lo (.inl x :: st) m) = some r := h
      obtain ⟨x, hx1, h⟩ := gs_cI_ok h
      exact hgo _ _ _ _ _ h
    | q + 1, h => exact hgo _ _ _ _ _ h
  | ldc_w n =>
    match a1, h with
    | 0, h =>
      have h : gs_cI cv (fun x => go nx is lo (.inl x :: st) m) = some r := h
      obtain ⟨x, hx1, h⟩ := gs_cI_ok h
      exact hgo _ _ _ _ _ h
    | q + 1, h => exact hgo _ _ _ _ _ h
  | istore n =>
    have h : gs_i1 st (fun x st => go nx is (gs_st1 lo a1 (.inl x)) st m) = some r := h
    obtain ⟨x, st, rfl, h⟩ := gs_i1_ok h
    exact hgo _ _ _ _ _ h
  | istore_n n =>
    have h : gs_i1 st (fun x st => go nx is (gs_st1 lo a1 (.inl x)) st m) = some r := h
    obtain ⟨x, st, rfl, h⟩ := gs_i1_ok h
    exact hgo _ _ _ _ _ h
  | lstore n =>
    have h : gs_j1 st (fun x st => go nx is (gs_st2 lo a1 (.inr (.inl x))) st m) = some r := h
    obtain ⟨x, st, rfl, h⟩ := gs_j1_ok h
    exact hgo _ _ _ _ _ h
  | lstore_n n =>
    have h : gs_j1 st (fun x st => go nx is (gs_st2 lo a1 (.inr (.inl x))) st m) = some r := h
    obtain ⟨x, st, rfl, h⟩ := gs_j1_ok h
    exact hgo _ _ _ _ _ h
  | astore n =>
    have h : gs_a1 st (fun x st => go nx is (gs_st1 lo a1 (.inr (.inr x))) st m) = some r := h
    obtain ⟨x, st, rfl, h⟩ := gs_a1_ok h
    exact hgo _ _ _ _ _ h
  | astore_n n =>
    have h : gs_a1 st (fun x st => go nx is (gs_st1 lo a1 (.inr (.inr x))) st m) = some r := h
    obtain ⟨x, st, rfl, h⟩ := gs_a1_ok h
    exact hgo _ _ _ _ _ h
  | iinc n d =>
    have h : gs_lI lo a1 (fun x => gs_cI cv (fun y => go nx is (gs_st1 lo a1 (.inl (x + y))) st m)) = some r := h
    obtain ⟨x, hx1, h⟩ := gs_lI_ok h
    obtain ⟨y, hy1, h⟩ := gs_cI_ok h
    exact hgo _ _ _ _ _ h
  | ifCond cn off =>
    cases cn with
    | eq =>
      have h : gs_i1 st (fun x st => if x = 0 then go a1 [] lo st m else go nx is lo st m) = some r := h
      obtain ⟨x, st, rfl, h⟩ := gs_i1_ok h
      have h : (if x = 0 then go a1 [] lo st m else go nx is lo st m) = some r := h
      split at h
      · exact hgo _ _ _ _ _ h
      · exact hgo _ _ _ _ _ h
    | ne =>
      have h : gs_i1 st (fun x st => if x = 0 then go nx is lo st m else go a1 [] lo st m) = some r := h
      obtain ⟨x, st, rfl, h⟩ := gs_i1_ok h
      have h : (if x = 0 then go nx is lo st m else go a1 [] lo st m) = some r := h
      split at h
      · exact hgo _ _ _ _ _ h
      · exact hgo _ _ _ _ _ h
    | lt =>
      have h : gs_i1 st (fun x st => if x < 0 then go a1 [] lo st m else go nx is lo st m) = some r := h
      obtain ⟨x, st, rfl, h⟩ := gs_i1_ok h
      have h : (if x < 0 then go a1 [] lo st m else go nx is lo st m) = some r := h
      split at h
      · exact hgo _ _ _ _ _ h
      · exact hgo _ _ _ _ _ h
    | ge =>
      have h : gs_i1 st (fun x st => if x < 0 then go nx is lo st m else go a1 [] lo st m) = some r := h
      obtain ⟨x, st, rfl, h⟩ := gs_i1_ok h
      have h : (if x < 0 then go nx is lo st m else go a1 [] lo st m) = some r := h
      split at h
      · exact hgo _ _ _ _ _ h
      · exact hgo _ _ _ _ _ h
    | gt =>
      have h : gs_i1 st (fun x st => if 0 < x then go a1 [] lo st m else go nx is lo st m) = some r := h
      obtain ⟨x, st, rfl, h⟩ := gs_i1_ok h
      have h : (if 0 < x then go a1 [] lo st m else go nx is lo st m) = some r := h
      split at h
      · exact hgo _ _ _ _ _ h
      · exact hgo _ _ _ _ _ h
    | le =>
      have h : gs_i1 st (fun x st => if 0 < x then go nx is lo st m else go a1 [] lo st m) = some r := h
      obtain ⟨x, st, rfl, h⟩ := gs_i1_ok h
      have h : (if 0 < x then go nx is lo st m else go a1 [] lo st m) = some r := h
      split at h
      · exact hgo _ _ _ _ _ h
      · exact hgo _ _ _ _ _ h
  | if_icmp cn off =>
    cases cn with
    | eq =>
      have h : gs_i2 st (fun x y st => if x = y then go a1 [] lo st m else go nx is lo st m) = some r := h
      obtain ⟨x, y, st, rfl, h⟩ := gs_i2_ok h
      have h : (if x = y then go a1 [] lo st m else go nx is lo st m) = some r := h
      split at h
      · exact hgo _ _ _ _ _ h
      · exact hgo _ _ _ _ _ h
    | ne =>
      have h : gs_i2 st (fun x y st => if x = y then go nx is lo st m else go a1 [] lo st m) = some r := h
      obtain ⟨x, y, st, rfl, h⟩ := gs_i2_ok h
      have h : (if x = y then go nx is lo st m else go a1 [] lo st m) = some r := h
      split at h
      · exact hgo _ _ _ _ _ h
      · exact hgo _ _ _ _ _ h
    | lt =>
      have h : gs_i2 st (fun x y st => if x < y then go a1 [] lo st m else go nx is lo st m) = some r := h
      obtain ⟨x, y, st, rfl, h⟩ := gs_i2_ok h
      have h : (if x < y then go a1 [] lo st m else go nx is lo st m) = some r := h
      split at h
      · exact hgo _ _ _ _ _ h
      · exact hgo _ _ _ _ _ h
    | ge =>
      have h : gs_i2 st (fun x y st => if x < y then go nx is lo st m else go a1 [] lo st m) = some r := h
      obtain ⟨x, y, st, rfl, h⟩ := gs_i2_ok h
      have h : (if x < y then go nx is lo st m else go a1 [] lo st m) = some r := h
      split at h
      · exact hgo _ _ _ _ _ h
      · exact hgo _ _ _ _ _ h
    | gt =>
      have h : gs_i2 st (fun x y st => if y < x then go a1 [] lo st m else go nx is lo st m) = some r := h
      obtain ⟨x, y, st, rfl, h⟩ := gs_i2_ok h
      have h : (if y < x then go a1 [] lo st m else go nx is lo st m) = some r := h
      split at h
      · exact hgo _ _ _ _ _ h
      · exact hgo _ _ _ _ _ h
    | le =>
      have h : gs_i2 st (fun x y st => if y < x then go nx is lo st m else go a1 [] lo st m) = some r := h
      obtain ⟨x, y, st, rfl, h⟩ := gs_i2_ok h
      have h : (if y < x then go nx is lo st m else go a1 [] lo st m) = some r := h
      split at h
      · exact hgo _ _ _ _ _ h
      · exact hgo _ _ _ _ _ h
  | goto off =>
    exact hgo _ _ _ _ _ h
  | tableswitch d low hi offs =>
    have h : gs_i1 st (fun x st => gs_sw sw (fun t => go t [] lo st m) x a1) = some r := h
    obtain ⟨x, st, rfl, h⟩ := gs_i1_ok h
    have h : gs_sw sw (fun t => go t [] lo st m) x a1 = some r := h
    rw [gs_sw_eq] at h
    exact hgo _ _ _ _ _ h
  | lookupswitch d ps =>
    have h : gs_i1 st (fun x st => gs_sw sw (fun t => go t [] lo st m) x a1) = some r := h
    obtain ⟨x, st, rfl, h⟩ := gs_i1_ok h
    have h : gs_sw sw (fun t => go t [] lo st m) x a1 = some r := h
    rw [gs_sw_eq] at h
    exact hgo _ _ _ _ _ h
  | getfield idx =>
    match a3, h with
    | 0, h =>
      have h : gs_a1 st (fun a st => gs_fld m a a1 (go nx is lo (.inl (m.2.1 a a2) :: st) m)) = some r := h
      obtain ⟨a, st, rfl, h⟩ := gs_a1_ok h
      obtain ⟨-, h⟩ := gs_fld_ok h
      exact hgo _ _ _ _ _ h
    | 1, h =>
      have h : gs_a1 st (fun a st => gs_fld m a a1 (go nx is lo (.inr (.inl (m.2.2.1 a a2)) :: st) m)) = some r := h
      obtain ⟨a, st, rfl, h⟩ := gs_a1_ok h
      obtain ⟨-, h⟩ := gs_fld_ok h
      exact hgo _ _ _ _ _ h
    | 2, h =>
      have h : gs_a1 st (fun a st => gs_fld m a a1 (gs_nn (m.2.2.2 a a2) (fun b => go nx is lo (.inr (.inr b) :: st) m))) = some r := h
      obtain ⟨a, st, rfl, h⟩ := gs_a1_ok h
      obtain ⟨-, h⟩ := gs_fld_ok h
      obtain ⟨b, hb1, h⟩ := gs_nn_ok h
      exact hgo _ _ _ _ _ h
    | q + 3, h =>
      have h : gs_a1 st (fun a st => gs_fld m a a1 (go nx is lo (.inl (m.2.1 a a2) :: st) m)) = some r := h
      obtain ⟨a, st, rfl, h⟩ := gs_a1_ok h
      obtain ⟨-, h⟩ := gs_fld_ok h
      exact hgo _ _ _ _ _ h
  | putfield idx =>
    match a3, h with
    | 0, h =>
      have h : gs_ia st (fun x a st => gs_fld m a a1 (go nx is lo st (gs_sI m a a2 x))) = some r := h
      obtain ⟨x, a, st, rfl, h⟩ := gs_ia_ok h
      obtain ⟨-, h⟩ := gs_fld_ok h
      exact hgo _ _ _ _ (gs_sI m a a2 x) h
    | 1, h =>
      have h : gs_ja st (fun x a st => gs_fld m a a1 (go nx is lo st (gs_sJ m a a2 x))) = some r := h
      obtain ⟨x, a, st, rfl, h⟩ := gs_ja_ok h
      obtain ⟨-, h⟩ := gs_fld_ok h
      exact hgo _ _ _ _ (gs_sJ m a a2 x) h
    | 2, h =>
      have h : gs_aa st (fun x a st => gs_fld m a a1 (cond (Nat.blt (gs_rk x) m.1.1) (go nx is lo st (gs_sR m a a2 x)) none)) = some r := h
      obtain ⟨x, a, st, rfl, h⟩ := gs_aa_ok h
      obtain ⟨-, h⟩ := gs_fld_ok h
      obtain ⟨-, h⟩ := gs_cd_ok h
      exact hgo _ _ _ _ (gs_sR m a a2 x) h
    | q + 3, h =>
      have h : gs_ia st (fun x a st => gs_fld m a a1 (gs_bt x (go nx is lo st (gs_sI m a a2 x)))) = some r := h
      obtain ⟨x, a, st, rfl, h⟩ := gs_ia_ok h
      obtain ⟨-, h⟩ := gs_fld_ok h
      obtain ⟨-, h⟩ := gs_bt_ok h
      exact hgo _ _ _ _ (gs_sI m a a2 x) h
  | getstatic idx =>
    exact hgo _ _ _ _ _ h
  | baload =>
    have h : gs_ia st (fun j a st => gs_ix m a 12 j (fun k => go nx is lo (.inl (m.2.1 a k) :: st) m)) = some r := h
    obtain ⟨j, a, st, rfl, h⟩ := gs_ia_ok h
    obtain ⟨-, -, h⟩ := gs_ix_ok h
    exact hgo _ _ _ _ _ h
  | iaload =>
    match a1, h with
    | 0, h =>
      have h : gs_ia st (fun j a st => gs_ix m a 13 j (fun k => go nx is lo (.inl (m.2.1 a k) :: st) m)) = some r := h
      obtain ⟨j, a, st, rfl, h⟩ := gs_ia_ok h
      obtain ⟨-, -, h⟩ := gs_ix_ok h
      exact hgo _ _ _ _ _ h
    | q + 1, h =>
      have h : gs_ia st (fun j a st => cond (Nat.beq a 100002 && gs_in j X.2.1) (go nx is lo (.inl (X.2.2 j.toNatClampNeg) :: st) m) none) = some r := h
      obtain ⟨j, a, st, rfl, h⟩ := gs_ia_ok h
      obtain ⟨-, h⟩ := gs_cd_ok h
      exact hgo _ _ _ _ _ h
  | laload =>
    match a1, h with
    | 0, h =>
      have h : gs_ia st (fun j a st => gs_ix m a 14 j (fun k => go nx is lo (.inr (.inl (m.2.2.1 a k)) :: st) m)) = some r := h
      obtain ⟨j, a, st, rfl, h⟩ := gs_ia_ok h
      obtain ⟨-, -, h⟩ := gs_ix_ok h
      exact hgo _ _ _ _ _ h
    | q + 1, h =>
      have h : gs_ia st (fun j a st => cond (Nat.beq a 100000 && gs_in j 12) (go nx is lo (.inr (.inl (gs_digits.getD j.toNatClampNeg 0)) :: st) m) none) = some r := h
      obtain ⟨j, a, st, rfl, h⟩ := gs_ia_ok h
      obtain ⟨-, h⟩ := gs_cd_ok h
      exact hgo _ _ _ _ _ h
  | aaload =>
    have h : gs_ia st (fun j a st => gs_ix m a (cond (Nat.beq (gs_kind a) 15) 15 16) j (fun k => gs_nn (m.2.2.2 a k) (fun b => go nx is lo (.inr (.inr b) :: st) m))) = some r := h
    obtain ⟨j, a, st, rfl, h⟩ := gs_ia_ok h
    obtain ⟨-, -, h⟩ := gs_ix_ok h
    obtain ⟨b, hb1, h⟩ := gs_nn_ok h
    exact hgo _ _ _ _ _ h
  | iastore =>
    have h : gs_iia st (fun x j a st => gs_ix m a 13 j (fun k => go nx is lo st (gs_sI m a k x))) = some r := h
    obtain ⟨x, j, a, st, rfl, h⟩ := gs_iia_ok h
    obtain ⟨-, -, h⟩ := gs_ix_ok h
    have h9 := hgo _ _ _ _ _ h
    exact h9
  | bastore =>
    have h : gs_iia st (fun x j a st => gs_ix m a 12 j (fun k => go nx is lo st (gs_sI m a k x.toInt8.toInt32))) = some r := h
    obtain ⟨x, j, a, st, rfl, h⟩ := gs_iia_ok h
    obtain ⟨-, -, h⟩ := gs_ix_ok h
    have h9 := hgo _ _ _ _ _ h
    exact h9
  | lastore =>
    have h : gs_jia st (fun x j a st => gs_ix m a 14 j (fun k => go nx is lo st (gs_sJ m a k x))) = some r := h
    obtain ⟨x, j, a, st, rfl, h⟩ := gs_jia_ok h
    obtain ⟨-, -, h⟩ := gs_ix_ok h
    have h9 := hgo _ _ _ _ _ h
    exact h9
  | aastore =>
    have h : gs_aia st (fun x j a st => cond (gs_ok x (cond (Nat.beq (gs_kind a) 15) 0 2) m.1.1) (gs_ix m a (cond (Nat.beq (gs_kind a) 15) 15 16) j (fun k => go nx is lo st (gs_sR m a k x))) none) = some r := h
    obtain ⟨x, j, a, st, rfl, h⟩ := gs_aia_ok h
    obtain ⟨-, h⟩ := gs_cd_ok h
    obtain ⟨-, -, h⟩ := gs_ix_ok h
    have h9 := hgo _ _ _ _ _ h
    exact h9
  | arraylength =>
    match a1, h with
    | 0, h =>
      have h : gs_a1 st (fun a st => cond (Nat.ble 12 (gs_kind a) && Nat.ble (gs_kind a) 14 && Nat.blt (gs_rk a) m.1.1) (go nx is lo (.inl (Int32.ofNat (gs_len a)) :: st) m) none) = some r := h
      obtain ⟨a, st, rfl, h⟩ := gs_a1_ok h
      obtain ⟨-, h⟩ := gs_cd_ok h
      exact hgo _ _ _ _ _ h
    | q + 1, h =>
      have h : gs_a1 st (fun a st => cond (Nat.beq a 100002) (go nx is lo (.inl (Int32.ofNat X.2.1) :: st) m) none) = some r := h
      obtain ⟨a, st, rfl, h⟩ := gs_a1_ok h
      obtain ⟨-, h⟩ := gs_cd_ok h
      exact hgo _ _ _ _ _ h
  | newarray ty =>
    have h : gs_i1 st (fun x st => cond (Nat.beq m.1.2.1 0 && Nat.beq (gs_kind (gs_pm m.1.1)) a1 && !(decide (x < 0)) && Nat.beq x.toNatClampNeg (gs_len (gs_pm m.1.1))) (go nx is lo (.inr (.inr (gs_pm m.1.1)) :: st) (gs_nw m (gs_len (gs_pm m.1.1)))) none) = some r := h
    obtain ⟨x, st, rfl, h⟩ := gs_i1_ok h
    obtain ⟨-, h⟩ := gs_cd_ok h
    exact gs_le_nw (hgo _ _ _ _ _ h)
  | anewarray idx =>
    have h : gs_i1 st (fun x st => cond (Nat.beq m.1.2.1 0 && Nat.beq (gs_kind (gs_pm m.1.1)) a1 && !(decide (x < 0)) && Nat.beq x.toNatClampNeg (gs_len (gs_pm m.1.1))) (go nx is lo (.inr (.inr (gs_pm m.1.1)) :: st) (gs_nw m (gs_len (gs_pm m.1.1)))) none) = some r := h
    obtain ⟨x, st, rfl, h⟩ := gs_i1_ok h
    obtain ⟨-, h⟩ := gs_cd_ok h
    exact gs_le_nw (hgo _ _ _ _ _ h)
  | new idx =>
    have h : cond (Nat.ble 100 a1) (cond (Nat.ble (gs_cs st) 8) (some (.inr (a1 - 100), gs_gb m)) none) (cond (Nat.beq m.1.2.1 0 && Nat.beq (gs_kind (gs_pm m.1.1)) a1) (go nx is lo (.inr (.inr (gs_pm m.1.1)) :: st) (gs_nw m a2)) none) = some r := h
    cases hb : Nat.ble 100 a1 with
    | true =>
      rw [hb] at h
      have h : cond (Nat.ble (gs_cs st) 8) (some (Sum.inr (a1 - 100), gs_gb m)) none = some r := h
      obtain ⟨-, h⟩ := gs_cd_ok h
      cases h
      exact ⟨by show m.1.1 + m.1.2.1 ≤ m.1.1 + (m.1.2.1 + 1); omega, by show m.1.2.2 ≤ m.1.2.2 + 6; omega⟩
    | false =>
      rw [hb] at h
      obtain ⟨-, h⟩ := gs_cd_ok h
      exact gs_le_nw (hgo _ _ _ _ _ h)
  | ireturn =>
    match a1, h with
    | 0, h =>
      have h : gs_i1 st (fun x st => gs_e0 st (gs_rI x m)) = some r := h
      obtain ⟨x, st, rfl, h⟩ := gs_i1_ok h
      obtain ⟨rfl, h⟩ := gs_e0_ok h
      cases h
      exact ⟨Nat.le_refl _, Nat.le_refl _⟩
    | 1, h =>
      have h : gs_i1 st (fun x st => gs_e0 st (gs_bt x (gs_rI x m))) = some r := h
      obtain ⟨x, st, rfl, h⟩ := gs_i1_ok h
      obtain ⟨rfl, h⟩ := gs_e0_ok h
      obtain ⟨-, h⟩ := gs_bt_ok h
      cases h
      exact ⟨Nat.le_refl _, Nat.le_refl _⟩
    | q + 2, h =>
      have h : gs_i1 st (fun x st => gs_e0 st (gs_rI x m)) = some r := h
      obtain ⟨x, st, rfl, h⟩ := gs_i1_ok h
      obtain ⟨rfl, h⟩ := gs_e0_ok h
      cases h
      exact ⟨Nat.le_refl _, Nat.le_refl _⟩
  | lreturn =>
    have h : gs_j1 st (fun x st => gs_e0 st (gs_rJ x m)) = some r := h
    obtain ⟨x, st, rfl, h⟩ := gs_j1_ok h
    obtain ⟨rfl, h⟩ := gs_e0_ok h
    cases h
    exact ⟨Nat.le_refl _, Nat.le_refl _⟩
  | areturn =>
    have h : gs_a1 st (fun x st => gs_e0 st (gs_rA x m)) = some r := h
    obtain ⟨x, st, rfl, h⟩ := gs_a1_ok h
    obtain ⟨rfl, h⟩ := gs_e0_ok h
    cases h
    exact ⟨Nat.le_refl _, Nat.le_refl _⟩
  | return_ =>
    have h : gs_e0 st (gs_rU m) = some r := h
    obtain ⟨rfl, h⟩ := gs_e0_ok h
    cases h
    exact ⟨Nat.le_refl _, Nat.le_refl _⟩
  | invokestatic idx =>
    have h : gs_pp (gs_pop a2 [] st) (fun as rest => gs_call C gs_nt go nx a1 a3 as rest is lo m) = some r := h
    obtain ⟨as, rest, hp, h⟩ := gs_pp_ok h
    exact gs_le_call hgo hcal (fun x m2 h => by cases h) h
  | invokevirtual idx =>
    unfold gs_step at h
    dsimp only at h
    split at h
    · obtain ⟨a, st, rfl, h⟩ := gs_a1_ok h
      obtain ⟨-, h⟩ := gs_cd_ok h
      exact hgo _ _ _ _ _ h
    · obtain ⟨j, a, st, rfl, h⟩ := gs_ia_ok h
      obtain ⟨-, h⟩ := gs_cd_ok h
      exact hgo _ _ _ _ _ h
    · obtain ⟨as, rest, hp, h⟩ := gs_pp_ok h
      obtain ⟨b, t, rfl, h⟩ := gs_rc_ok h
      obtain ⟨-, h⟩ := gs_fld_ok h
      exact gs_le_call hgo hcal (fun x m2 h => gs_le_hd hgo h) h
  | invokespecial idx =>
    unfold gs_step at h
    dsimp only at h
    split at h
    · obtain ⟨a, st, rfl, h⟩ := gs_a1_ok h
      obtain ⟨-, h⟩ := gs_cd_ok h
      exact hgo _ _ _ _ _ h
    · obtain ⟨as, rest, hp, h⟩ := gs_pp_ok h
      obtain ⟨b, t, rfl, h⟩ := gs_rc_ok h
      exact gs_le_call hgo hcal (fun x m2 h => by cases h) h
  | _ => cases h
theorem gs_run_le {X : gs_E} {C : Nat → List gs_V → gs_M → gs_O} {T : gs_T} {K : Nat → gs_L → List gs_V → gs_M → gs_O} {r : gs_R × gs_M} (hcal : ∀ (k : Nat) (as : List gs_V) (m2 : gs_M) (r2 : gs_R × gs_M), C k as m2 = some r2 → gs_le m2 r2.2) (hK : ∀ (pc : Nat) (lo : gs_L) (st : List gs_V) (m : gs_M), K pc lo st m = some r → gs_le m r.2) :
    ∀ (n pc : Nat) (is : List gs_N) (lo : gs_L) (st : List gs_V) (m : gs_M), gs_run X C T K n pc is lo st m = some r → gs_le m r.2
  | 0, pc, is, lo, st, m, h => by cases is <;> cases h
  | n + 1, pc, [], lo, st, m, h => by
    unfold gs_run at h
    split at h
    · exact hK _ _ _ _ h
    · split at h
      · exact gs_run_le hcal hK n _ _ _ _ _ h
      · cases h
  | n + 1, pc, i :: is, lo, st, m, h => by
    unfold gs_run at h
    exact gs_step_le (fun pc is lo st m2 h => gs_run_le hcal hK n pc is lo st m2 h) hcal i h
theorem gs_iter_le {X : gs_E} {C : Nat → List gs_V → gs_M → gs_O} {T : gs_T} {r : gs_R × gs_M} (hcal : ∀ (k : Nat) (as : List gs_V) (m2 : gs_M) (r2 : gs_R × gs_M), C k as m2 = some r2 → gs_le m2 r2.2) : ∀ (n pc : Nat) (lo : gs_L) (st : List gs_V) (m : gs_M), gs_iter X C T n pc lo st m = some r → gs_le m r.2
  | 0, _, _, _, _, h => by cases h
  | n + 1, pc, lo, st, m, h => by
    unfold gs_iter at h
    split at h
    · exact gs_run_le hcal (gs_iter_le hcal n) _ _ _ _ _ _ h
    · cases h
theorem gs_exec_le {X : gs_E} : ∀ (d k : Nat) (as : List gs_V) (m : gs_M) (r : gs_R × gs_M), gs_exec X d k as m = some r → gs_le m r.2
  | 0, _, _, _, _, h => by cases h
  | d + 1, k, as, m, r, h => by
    have h : gs_ent X (gs_exec X d) (gs_tab k) as m = some r := h
    unfold gs_ent at h
    obtain ⟨-, h⟩ := gs_cd_ok h
    split at h
    · exact gs_run_le (gs_exec_le d) (gs_iter_le (gs_exec_le d) _) _ _ _ _ _ _ h
    · cases h
