theorem gs_i1_ok {st : List gs_V} {f : Int32 → List gs_V → gs_O} {r : gs_R × gs_M} (h : gs_i1 st f = some r) : ∃ (x : Int32) (st' : List gs_V), st = .inl x :: st' ∧ f x st' = some r := by
  unfold gs_i1 at h
  split at h
  · exact ⟨_, _, rfl, h⟩
  · cases h
theorem gs_i2_ok {st : List gs_V} {f : Int32 → Int32 → List gs_V → gs_O} {r : gs_R × gs_M} (h : gs_i2 st f = some r) : ∃ (x : Int32) (y : Int32) (st' : List gs_V), st = .inl y :: .inl x :: st' ∧ f x y st' = some r := by
  unfold gs_i2 at h
  split at h
  · exact ⟨_, _, _, rfl, h⟩
  · cases h
theorem gs_j1_ok {st : List gs_V} {f : Int64 → List gs_V → gs_O} {r : gs_R × gs_M} (h : gs_j1 st f = some r) : ∃ (x : Int64) (st' : List gs_V), st = .inr (.inl x) :: st' ∧ f x st' = some r := by
  unfold gs_j1 at h
  split at h
  · exact ⟨_, _, rfl, h⟩
  · cases h
theorem gs_j2_ok {st : List gs_V} {f : Int64 → Int64 → List gs_V → gs_O} {r : gs_R × gs_M} (h : gs_j2 st f = some r) : ∃ (x : Int64) (y : Int64) (st' : List gs_V), st = .inr (.inl y) :: .inr (.inl x) :: st' ∧ f x y st' = some r := by
  unfold gs_j2 at h
  split at h
  · exact ⟨_, _, _, rfl, h⟩
  · cases h
theorem gs_a1_ok {st : List gs_V} {f : Nat → List gs_V → gs_O} {r : gs_R × gs_M} (h : gs_a1 st f = some r) : ∃ (x : Nat) (st' : List gs_V), st = .inr (.inr x) :: st' ∧ f x st' = some r := by
  unfold gs_a1 at h
  split at h
  · exact ⟨_, _, rfl, h⟩
  · cases h
theorem gs_ia_ok {st : List gs_V} {f : Int32 → Nat → List gs_V → gs_O} {r : gs_R × gs_M} (h : gs_ia st f = some r) : ∃ (y : Int32) (x : Nat) (st' : List gs_V), st = .inl y :: .inr (.inr x) :: st' ∧ f y x st' = some r := by
  unfold gs_ia at h
  split at h
  · exact ⟨_, _, _, rfl, h⟩
  · cases h
theorem gs_ja_ok {st : List gs_V} {f : Int64 → Nat → List gs_V → gs_O} {r : gs_R × gs_M} (h : gs_ja st f = some r) : ∃ (y : Int64) (x : Nat) (st' : List gs_V), st = .inr (.inl y) :: .inr (.inr x) :: st' ∧ f y x st' = some r := by
  unfold gs_ja at h
  split at h
  · exact ⟨_, _, _, rfl, h⟩
  · cases h
theorem gs_aa_ok {st : List gs_V} {f : Nat → Nat → List gs_V → gs_O} {r : gs_R × gs_M} (h : gs_aa st f = some r) : ∃ (y : Nat) (x : Nat) (st' : List gs_V), st = .inr (.inr y) :: .inr (.inr x) :: st' ∧ f y x st' = some r := by
  unfold gs_aa at h
  split at h
  · exact ⟨_, _, _, rfl, h⟩
  · cases h
theorem gs_iia_ok {st : List gs_V} {f : Int32 → Int32 → Nat → List gs_V → gs_O} {r : gs_R × gs_M} (h : gs_iia st f = some r) : ∃ (x : Int32) (j : Int32) (a : Nat) (st' : List gs_V), st = .inl x :: .inl j :: .inr (.inr a) :: st' ∧ f x j a st' = some r := by
  unfold gs_iia at h
  split at h
  · exact ⟨_, _, _, _, rfl, h⟩
  · cases h
theorem gs_jia_ok {st : List gs_V} {f : Int64 → Int32 → Nat → List gs_V → gs_O} {r : gs_R × gs_M} (h : gs_jia st f = some r) : ∃ (x : Int64) (j : Int32) (a : Nat) (st' : List gs_V), st = .inr (.inl x) :: .inl j :: .inr (.inr a) :: st' ∧ f x j a st' = some r := by
  unfold gs_jia at h
  split at h
  · exact ⟨_, _, _, _, rfl, h⟩
  · cases h
theorem gs_aia_ok {st : List gs_V} {f : Nat → Int32 → Nat → List gs_V → gs_O} {r : gs_R × gs_M} (h : gs_aia st f = some r) : ∃ (x : Nat) (j : Int32) (a : Nat) (st' : List gs_V), st = .inr (.inr x) :: .inl j :: .inr (.inr a) :: st' ∧ f x j a st' = some r := by
  unfold gs_aia at h
  split at h
  · exact ⟨_, _, _, _, rfl, h⟩
  · cases h
theorem gs_v1_ok {st : List gs_V} {f : gs_V → List gs_V → gs_O} {r : gs_R × gs_M} (h : gs_v1 st f = some r) : ∃ (v : gs_V) (st' : List gs_V), st = v :: st' ∧ f v st' = some r := by
  unfold gs_v1 at h
  split at h
  · exact ⟨_, _, rfl, h⟩
  · cases h
theorem gs_v2_ok {st : List gs_V} {f : gs_V → gs_V → List gs_V → gs_O} {r : gs_R × gs_M} (h : gs_v2 st f = some r) : ∃ (v : gs_V) (w : gs_V) (st' : List gs_V), st = v :: w :: st' ∧ f v w st' = some r := by
  unfold gs_v2 at h
  split at h
  · exact ⟨_, _, _, rfl, h⟩
  · cases h
theorem gs_lI_ok {lo : gs_L} {i : Nat} {f : Int32 → gs_O} {r : gs_R × gs_M} (h : gs_lI lo i f = some r) : ∃ x : Int32, gs_lk lo i = some (.inl x) ∧ f x = some r := by
  unfold gs_lI at h
  split at h
  · next x hx => exact ⟨_, hx, h⟩
  · cases h
theorem gs_lJ_ok {lo : gs_L} {i : Nat} {f : Int64 → gs_O} {r : gs_R × gs_M} (h : gs_lJ lo i f = some r) : ∃ x : Int64, gs_lk lo i = some (.inr (.inl x)) ∧ f x = some r := by
  unfold gs_lJ at h
  split at h
  · next x hx => exact ⟨_, hx, h⟩
  · cases h
theorem gs_lA_ok {lo : gs_L} {i : Nat} {f : Nat → gs_O} {r : gs_R × gs_M} (h : gs_lA lo i f = some r) : ∃ x : Nat, gs_lk lo i = some (.inr (.inr x)) ∧ f x = some r := by
  unfold gs_lA at h
  split at h
  · next x hx => exact ⟨_, hx, h⟩
  · cases h
theorem gs_cI_ok {v : gs_V} {f : Int32 → gs_O} {r : gs_R × gs_M} (h : gs_cI v f = some r) : ∃ x : Int32, v = .inl x ∧ f x = some r := by
  unfold gs_cI at h
  split at h
  · exact ⟨_, rfl, h⟩
  · cases h
theorem gs_cJ_ok {v : gs_V} {f : Int64 → gs_O} {r : gs_R × gs_M} (h : gs_cJ v f = some r) : ∃ x : Int64, v = .inr (.inl x) ∧ f x = some r := by
  unfold gs_cJ at h
  split at h
  · exact ⟨_, rfl, h⟩
  · cases h
theorem gs_e0_ok {st : List gs_V} {k : gs_O} {r : gs_R × gs_M} (h : gs_e0 st k = some r) : st = [] ∧ k = some r := by
  unfold gs_e0 at h
  split at h
  · exact ⟨rfl, h⟩
  · cases h
theorem gs_fld_ok {m : gs_M} {a c : Nat} {k : gs_O} {r : gs_R × gs_M} (h : gs_fld m a c k = some r) : (gs_kind a = c ∧ gs_rk a < m.1.1) ∧ k = some r := by
  unfold gs_fld at h
  cases hb : gs_ok a c m.1.1 with
  | true => rw [hb] at h; exact ⟨gs_ok_iff hb, h⟩
  | false => rw [hb] at h; cases h
theorem gs_ix_ok {m : gs_M} {a c : Nat} {i : Int32} {k : Nat → gs_O} {r : gs_R × gs_M} (h : gs_ix m a c i k = some r) : (gs_kind a = c ∧ gs_rk a < m.1.1) ∧ vp_in i (gs_len a) ∧ k i.toNatClampNeg = some r := by
  unfold gs_ix at h
  cases hb : (gs_ok a c m.1.1 && gs_in i (gs_len a)) with
  | true =>
    rw [hb] at h
    simp only [Bool.and_eq_true] at hb
    exact ⟨gs_ok_iff hb.1, gs_in_iff hb.2, h⟩
  | false => rw [hb] at h; cases h
theorem gs_nn_ok {o : Option Nat} {k : Nat → gs_O} {r : gs_R × gs_M} (h : gs_nn o k = some r) : ∃ a, o = some a ∧ k a = some r := by
  unfold gs_nn at h
  split at h
  · exact ⟨_, rfl, h⟩
  · cases h
theorem gs_bt_ok {x : Int32} {k : gs_O} {r : gs_R × gs_M} (h : gs_bt x k = some r) : (x = 0 ∨ x = 1) ∧ k = some r := by
  unfold gs_bt at h
  split at h
  · next hx => exact ⟨hx, h⟩
  · cases h
theorem gs_nz_ok {y : Int32} {k : gs_O} {r : gs_R × gs_M} (h : gs_nz y k = some r) : ¬ y = 0 ∧ k = some r := by
  unfold gs_nz at h
  split at h
  · cases h
  · next hx => exact ⟨hx, h⟩
theorem gs_nzL_ok {y : Int64} {k : gs_O} {r : gs_R × gs_M} (h : gs_nzL y k = some r) : ¬ y = 0 ∧ k = some r := by
  unfold gs_nzL at h
  split at h
  · cases h
  · next hx => exact ⟨hx, h⟩
theorem gs_cd_ok {b : Bool} {k : gs_O} {r : gs_R × gs_M} (h : cond b k none = some r) : b = true ∧ k = some r := by
  cases b with
  | true => exact ⟨rfl, h⟩
  | false => cases h
theorem gs_cn_ok {b : Bool} {k : gs_O} {r : gs_R × gs_M} (h : cond b none k = some r) : b = false ∧ k = some r := by
  cases b with
  | false => exact ⟨rfl, h⟩
  | true => cases h
/-- a switch's target -/
def gs_swl : List (Int32 × Nat) → Int32 → Nat → Nat
  | [], _, d => d
  | q :: t, x, d => if x = q.1 then q.2 else gs_swl t x d
theorem gs_sw_eq (f : Nat → gs_O) (x : Int32) (d : Nat) : ∀ sw : List (Int32 × Nat), gs_sw sw f x d = f (gs_swl sw x d)
  | [] => rfl
  | q :: t => by
    unfold gs_sw gs_swl
    split
    · rfl
    · exact gs_sw_eq f x d t

