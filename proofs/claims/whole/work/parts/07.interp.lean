/-! A pure machine over the tables: what a method answers and leaves, or none. -/
/-- the number of the cell that is made as the n-th, and back -/
def gs_pm (n : Nat) : Nat := if n < 3 then n else if n < 52 then n + 64 else if n < 116 then n - 49 else n
def gs_rk (a : Nat) : Nat := if a < 3 then a else if a < 67 then a + 49 else if a < 116 then a - 64 else a
theorem gs_rk_pm (n : Nat) : gs_rk (gs_pm n) = n := by
  unfold gs_rk gs_pm
  repeat' split
  all_goals omega
theorem gs_pm_rk (a : Nat) : gs_pm (gs_rk a) = a := by
  unfold gs_rk gs_pm
  repeat' split
  all_goals omega
theorem gs_rk_lt {a : Nat} (h : a < 153) : gs_rk a < 153 := by
  unfold gs_rk
  repeat' split
  all_goals omega
theorem gs_lt_rk {a : Nat} (h : gs_rk a < 153) : a < 153 := by
  unfold gs_rk at h
  repeat' split at h
  all_goals omega
theorem gs_pm_inj {a b : Nat} (h : gs_pm a = gs_pm b) : a = b := by rw [← gs_rk_pm a, h, gs_rk_pm]
theorem gs_rk_inj {a b : Nat} (h : gs_rk a = gs_rk b) : a = b := by rw [← gs_pm_rk a, h, gs_pm_rk]
def gs_up2 {α : Type} (f : Nat → Nat → α) (a j : Nat) (x : α) : Nat → Nat → α := fun b i => if b = a then (if i = j then x else f b i) else f b i
def gs_up1 {α : Type} (f : Nat → Nat → α) (a : Nat) (g : Nat → α) : Nat → Nat → α := fun b => if b = a then g else f b
def gs_sI (m : gs_M) (a j : Nat) (x : Int32) : gs_M := (m.1, gs_up2 m.2.1 a j x, m.2.2)
def gs_sJ (m : gs_M) (a j : Nat) (x : Int64) : gs_M := (m.1, m.2.1, gs_up2 m.2.2.1 a j x, m.2.2.2)
def gs_sR (m : gs_M) (a j : Nat) (r : Nat) : gs_M := (m.1, m.2.1, m.2.2.1, gs_up2 m.2.2.2 a j (some r))
def gs_nw (m : gs_M) (z : Nat) : gs_M := ((m.1.1 + 1, m.1.2.1, m.1.2.2 + z), gs_up1 m.2.1 (gs_pm m.1.1) (fun _ => 0), gs_up1 m.2.2.1 (gs_pm m.1.1) (fun _ => 0), gs_up1 m.2.2.2 (gs_pm m.1.1) (fun _ => none))
def gs_gb (m : gs_M) : gs_M := ((m.1.1, m.1.2.1 + 1, m.1.2.2 + 6), m.2)
def gs_two (v : gs_V) : Bool := match v with
  | .inr (.inl _) => true
  | _ => false
def gs_lk : gs_L → Nat → Option gs_V
  | [], _ => none
  | q :: t, i => cond (Nat.beq q.1 i) (some q.2) (gs_lk t i)
def gs_rm : gs_L → Nat → gs_L
  | [], _ => []
  | q :: t, i => cond (Nat.beq q.1 i || (Nat.beq (q.1 + 1) i && gs_two q.2)) (gs_rm t i) (q :: gs_rm t i)
def gs_st1 (lo : gs_L) (i : Nat) (v : gs_V) : gs_L := (i, v) :: gs_rm lo i
def gs_st2 (lo : gs_L) (i : Nat) (v : gs_V) : gs_L := (i, v) :: gs_rm (gs_rm lo (i + 1)) i
def gs_pick : List Nat → gs_L → gs_L
  | [], _ => []
  | k :: ks, lo => match gs_lk lo k with
    | some v => (k, v) :: gs_pick ks lo
    | none => gs_pick ks lo
def gs_args : Nat → List gs_V → gs_L
  | _, [] => []
  | i, v :: vs => (i, v) :: gs_args (cond (gs_two v) (i + 2) (i + 1)) vs
def gs_fb : List (Nat × List gs_N) → Nat → Option (List gs_N)
  | [], _ => none
  | q :: t, pc => cond (Nat.beq q.1 pc) (some q.2) (gs_fb t pc)
def gs_fs : List (Nat × List Nat) → Nat → Option (List Nat)
  | [], _ => none
  | q :: t, pc => cond (Nat.beq q.1 pc) (some q.2) (gs_fs t pc)
def gs_pop : Nat → List gs_V → List gs_V → Option (List gs_V × List gs_V)
  | 0, acc, st => some (acc, st)
  | _ + 1, _, [] => none
  | n + 1, acc, v :: st => gs_pop n (v :: acc) st
def gs_cs : List gs_V → Nat
  | [] => 0
  | v :: t => cond (gs_two v) (gs_cs t + 2) (gs_cs t + 1)
def gs_ok (a c n : Nat) : Bool := Nat.beq (gs_kind a) c && Nat.blt (gs_rk a) n
def gs_in (i : Int32) (n : Nat) : Bool := !(decide (i < 0)) && Nat.blt i.toNatClampNeg n
def gs_fld (m : gs_M) (a c : Nat) (k : gs_O) : gs_O := cond (gs_ok a c m.1.1) k none
def gs_nn (r : Option Nat) (k : Nat → gs_O) : gs_O := match r with
  | some a => k a
  | none => none
def gs_ix (m : gs_M) (a c : Nat) (i : Int32) (k : Nat → gs_O) : gs_O := cond (gs_ok a c m.1.1 && gs_in i (gs_len a)) (k i.toNatClampNeg) none
def gs_bt (x : Int32) (k : gs_O) : gs_O := if x = 0 ∨ x = 1 then k else none
def gs_nz (y : Int32) (k : gs_O) : gs_O := if y = 0 then none else k
def gs_nzL (y : Int64) (k : gs_O) : gs_O := if y = 0 then none else k
def gs_th (e : Nat) (m : gs_M) : gs_O := some (.inr e, m)
def gs_rI (x : Int32) (m : gs_M) : gs_O := some (.inl (some (.inl x)), m)
def gs_rJ (x : Int64) (m : gs_M) : gs_O := some (.inl (some (.inr (.inl x))), m)
def gs_rU (m : gs_M) : gs_O := some (.inl none, m)
def gs_rA (x : Nat) (m : gs_M) : gs_O := some (.inl (some (.inr (.inr x))), m)
def gs_bI (o : gs_O) (h : Nat → gs_M → gs_O) (k : Int32 → gs_M → gs_O) : gs_O := match o with
  | some (.inl (some (.inl x)), m) => k x m
  | some (.inr e, m) => h e m
  | _ => none
def gs_bJ (o : gs_O) (h : Nat → gs_M → gs_O) (k : Int64 → gs_M → gs_O) : gs_O := match o with
  | some (.inl (some (.inr (.inl x))), m) => k x m
  | some (.inr e, m) => h e m
  | _ => none
def gs_bA (o : gs_O) (h : Nat → gs_M → gs_O) (k : Nat → gs_M → gs_O) : gs_O := match o with
  | some (.inl (some (.inr (.inr x))), m) => k x m
  | some (.inr e, m) => h e m
  | _ => none
def gs_bU (o : gs_O) (h : Nat → gs_M → gs_O) (k : gs_M → gs_O) : gs_O := match o with
  | some (.inl none, m) => k m
  | some (.inr e, m) => h e m
  | _ => none
abbrev gs_sw : List (Int32 × Nat) → (Nat → gs_O) → Int32 → Nat → gs_O
  | [], f, _, d => f d
  | q :: t, f, x, d => if x = q.1 then f q.2 else gs_sw t f x d
/-- what the constants are: the long row of a class, a text's signs -/
def gs_digits : List Int64 := [285311670611, 25937424601, 2357947691, 214358881, 19487171, 1771561, 161051, 14641, 1331, 121, 11, 1]
abbrev gs_Go : Type := Nat → List gs_N → gs_L → List gs_V → gs_M → gs_O
def gs_nt (_ : Nat) (_ : gs_M) : gs_O := none
/-- what a table catches; what it doesn't isn't spoken of -/
abbrev gs_hd2 (hs : List (Nat × Nat × Nat × Nat × Nat × Nat × Nat)) (pc : Nat) (go : gs_Go) (lo : gs_L) : Nat → gs_M → gs_O := match hs with
  | [] => gs_nt
  | (a, b, _, E, p, ix, _) :: t => fun e m => cond (Nat.ble a pc && Nat.blt pc b && Nat.beq e E) (go p [] (gs_rm lo ix) [] m) (gs_hd2 t pc go lo e m)
abbrev gs_hd (hs : List (Nat × Nat × Nat × Nat × Nat × Nat × Nat)) (pc : Nat) (go : gs_Go) (lo : gs_L) : Nat → gs_M → gs_O := match hs with
  | [] => gs_th
  | q :: t => gs_hd2 (q :: t) pc go lo
abbrev gs_call (C : Nat → List gs_V → gs_M → gs_O) (hd : Nat → gs_M → gs_O) (go : gs_Go) (nx k rk : Nat) (as rest : List gs_V) (is : List gs_N) (lo : gs_L) (m : gs_M) : gs_O :=
  cond (Nat.ble (gs_cs rest) 8) (match rk with
    | 0 => gs_bI (C k as m) hd (fun x m => go nx is lo (.inl x :: rest) m)
    | 1 => gs_bJ (C k as m) hd (fun x m => go nx is lo (.inr (.inl x) :: rest) m)
    | 3 => gs_bA (C k as m) hd (fun x m => go nx is lo (.inr (.inr x) :: rest) m)
    | _ => gs_bU (C k as m) hd (fun m => go nx is lo rest m)) none
/-- fuel of loops; the script of the law: how long, its ints -/
abbrev gs_E : Type := Nat × Nat × (Nat → Int32)
def gs_words : List Int32 := [114, 101, 105, 103, 110, 32, 103, 97, 116, 101, 32, 98, 111, 111, 107, 32, 102, 114, 111, 109, 32, 103, 117, 101, 115, 116, 32, 114, 111, 99, 107, 32, 105, 110, 32, 110, 101, 97, 114, 32, 108, 97, 115, 116, 115, 32, 98, 114, 105, 103, 104, 116, 32, 109, 111, 118, 101, 115, 32, 119, 111, 114, 116, 104, 32, 116, 97, 105, 108, 32, 99, 108, 111, 117, 100, 32, 112, 108, 97, 116, 101, 32, 115, 108, 111, 119, 32, 116, 105, 99, 107, 32, 115, 111, 114, 116, 32, 119, 97, 116, 99, 104, 32, 116, 117, 114, 110, 32, 112, 114, 105, 99, 101, 32, 108, 105, 109, 105, 116, 32, 98, 108, 117, 114, 32, 110, 111, 114, 116, 104, 32, 115, 111, 117, 116, 104, 32, 101, 97, 115, 116, 32, 119, 101, 115, 116, 32, 111, 114, 32, 97, 110, 100, 32, 110, 111, 116, 32, 105, 110, 99, 104, 101, 115, 32, 109, 111, 110, 116, 104, 32]
abbrev gs_i1 (st : List gs_V) (f : Int32 → List gs_V → gs_O) : gs_O := match st with
  | .inl x :: st => f x st
  | _ => none
abbrev gs_i2 (st : List gs_V) (f : Int32 → Int32 → List gs_V → gs_O) : gs_O := match st with
  | .inl y :: .inl x :: st => f x y st
  | _ => none
abbrev gs_j1 (st : List gs_V) (f : Int64 → List gs_V → gs_O) : gs_O := match st with
  | .inr (.inl x) :: st => f x st
  | _ => none
abbrev gs_j2 (st : List gs_V) (f : Int64 → Int64 → List gs_V → gs_O) : gs_O := match st with
  | .inr (.inl y) :: .inr (.inl x) :: st => f x y st
  | _ => none
abbrev gs_a1 (st : List gs_V) (f : Nat → List gs_V → gs_O) : gs_O := match st with
  | .inr (.inr x) :: st => f x st
  | _ => none
abbrev gs_ia (st : List gs_V) (f : Int32 → Nat → List gs_V → gs_O) : gs_O := match st with
  | .inl y :: .inr (.inr x) :: st => f y x st
  | _ => none
abbrev gs_ja (st : List gs_V) (f : Int64 → Nat → List gs_V → gs_O) : gs_O := match st with
  | .inr (.inl y) :: .inr (.inr x) :: st => f y x st
  | _ => none
abbrev gs_aa (st : List gs_V) (f : Nat → Nat → List gs_V → gs_O) : gs_O := match st with
  | .inr (.inr y) :: .inr (.inr x) :: st => f y x st
  | _ => none
abbrev gs_iia (st : List gs_V) (f : Int32 → Int32 → Nat → List gs_V → gs_O) : gs_O := match st with
  | .inl x :: .inl j :: .inr (.inr a) :: st => f x j a st
  | _ => none
abbrev gs_jia (st : List gs_V) (f : Int64 → Int32 → Nat → List gs_V → gs_O) : gs_O := match st with
  | .inr (.inl x) :: .inl j :: .inr (.inr a) :: st => f x j a st
  | _ => none
abbrev gs_aia (st : List gs_V) (f : Nat → Int32 → Nat → List gs_V → gs_O) : gs_O := match st with
  | .inr (.inr x) :: .inl j :: .inr (.inr a) :: st => f x j a st
  | _ => none
abbrev gs_v1 (st : List gs_V) (f : gs_V → List gs_V → gs_O) : gs_O := match st with
  | v :: st => f v st
  | _ => none
abbrev gs_v2 (st : List gs_V) (f : gs_V → gs_V → List gs_V → gs_O) : gs_O := match st with
  | v :: w :: st => f v w st
  | _ => none
abbrev gs_e0 (st : List gs_V) (k : gs_O) : gs_O := match st with
  | [] => k
  | _ => none
abbrev gs_lI (lo : gs_L) (i : Nat) (f : Int32 → gs_O) : gs_O := match gs_lk lo i with
  | some (.inl x) => f x
  | _ => none
abbrev gs_lJ (lo : gs_L) (i : Nat) (f : Int64 → gs_O) : gs_O := match gs_lk lo i with
  | some (.inr (.inl x)) => f x
  | _ => none
abbrev gs_lA (lo : gs_L) (i : Nat) (f : Nat → gs_O) : gs_O := match gs_lk lo i with
  | some (.inr (.inr x)) => f x
  | _ => none
abbrev gs_cI (v : gs_V) (f : Int32 → gs_O) : gs_O := match v with
  | .inl x => f x
  | _ => none
abbrev gs_cJ (v : gs_V) (f : Int64 → gs_O) : gs_O := match v with
  | .inr (.inl x) => f x
  | _ => none
abbrev gs_pp (o : Option (List gs_V × List gs_V)) (f : List gs_V → List gs_V → gs_O) : gs_O := match o with
  | some q => f q.1 q.2
  | none => none
abbrev gs_rc (as : List gs_V) (f : Nat → gs_O) : gs_O := match as with
  | .inr (.inr b) :: _ => f b
  | _ => none
def gs_step (X : gs_E) (C : Nat → List gs_V → gs_M → gs_O) (hs : List (Nat × Nat × Nat × Nat × Nat × Nat × Nat)) (go : gs_Go) (pc : Nat) (ins : gs_N) (is : List gs_N) (lo : gs_L) (st : List gs_V) (m : gs_M) : gs_O :=
  match ins with
  | (i, nx, a1, a2, a3, a4, cv, sw) =>
  match i with
  | .iconst _ => gs_cI cv (fun x => go nx is lo (.inl x :: st) m)
  | .bipush _ => gs_cI cv (fun x => go nx is lo (.inl x :: st) m)
  | .sipush _ => gs_cI cv (fun x => go nx is lo (.inl x :: st) m)
  | .lconst _ => gs_cJ cv (fun x => go nx is lo (.inr (.inl x) :: st) m)
  | .ldc2_w _ => gs_cJ cv (fun x => go nx is lo (.inr (.inl x) :: st) m)
  | .ldc _ => match a1 with
    | 0 => gs_cI cv (fun x => go nx is lo (.inl x :: st) m)
    | _ => go nx is lo (.inr (.inr 100001) :: st) m
  | .ldc_w _ => match a1 with
    | 0 => gs_cI cv (fun x => go nx is lo (.inl x :: st) m)
    | _ => go nx is lo (.inr (.inr 100001) :: st) m
  | .iload _ => gs_lI lo a1 (fun x => go nx is lo (.inl x :: st) m)
  | .iload_n _ => gs_lI lo a1 (fun x => go nx is lo (.inl x :: st) m)
  | .lload _ => gs_lJ lo a1 (fun x => go nx is lo (.inr (.inl x) :: st) m)
  | .lload_n _ => gs_lJ lo a1 (fun x => go nx is lo (.inr (.inl x) :: st) m)
  | .aload _ => gs_lA lo a1 (fun x => go nx is lo (.inr (.inr x) :: st) m)
  | .aload_n _ => gs_lA lo a1 (fun x => go nx is lo (.inr (.inr x) :: st) m)
  | .istore _ => gs_i1 st (fun x st => go nx is (gs_st1 lo a1 (.inl x)) st m)
  | .istore_n _ => gs_i1 st (fun x st => go nx is (gs_st1 lo a1 (.inl x)) st m)
  | .lstore _ => gs_j1 st (fun x st => go nx is (gs_st2 lo a1 (.inr (.inl x))) st m)
  | .lstore_n _ => gs_j1 st (fun x st => go nx is (gs_st2 lo a1 (.inr (.inl x))) st m)
  | .astore _ => gs_a1 st (fun x st => go nx is (gs_st1 lo a1 (.inr (.inr x))) st m)
  | .astore_n _ => gs_a1 st (fun x st => go nx is (gs_st1 lo a1 (.inr (.inr x))) st m)
  | .iinc _ _ => gs_lI lo a1 (fun x => gs_cI cv (fun y => go nx is (gs_st1 lo a1 (.inl (x + y))) st m))
  | .iadd => gs_i2 st (fun x y st => go nx is lo (.inl (x + y) :: st) m)
  | .isub => gs_i2 st (fun x y st => go nx is lo (.inl (x - y) :: st) m)
  | .imul => gs_i2 st (fun x y st => go nx is lo (.inl (x * y) :: st) m)
  | .iand => gs_i2 st (fun x y st => go nx is lo (.inl (x &&& y) :: st) m)
  | .ior => gs_i2 st (fun x y st => go nx is lo (.inl (x ||| y) :: st) m)
  | .ixor => gs_i2 st (fun x y st => go nx is lo (.inl (x ^^^ y) :: st) m)
  | .ishl => gs_i2 st (fun x y st => go nx is lo (.inl (x <<< (y &&& 31)) :: st) m)
  | .ishr => gs_i2 st (fun x y st => go nx is lo (.inl (x >>> (y &&& 31)) :: st) m)
  | .iushr => gs_i2 st (fun x y st => go nx is lo (.inl ((x.toUInt32 >>> (y.toUInt32 &&& Int32.toUInt32 31)).toInt32) :: st) m)
  | .idiv => gs_i2 st (fun x y st => gs_nz y (go nx is lo (.inl (x / y) :: st) m))
  | .irem => gs_i2 st (fun x y st => gs_nz y (go nx is lo (.inl (x - x / y * y) :: st) m))
  | .ineg => gs_i1 st (fun x st => go nx is lo (.inl (-x) :: st) m)
  | .ladd => gs_j2 st (fun x y st => go nx is lo (.inr (.inl (x + y)) :: st) m)
  | .lsub => gs_j2 st (fun x y st => go nx is lo (.inr (.inl (x - y)) :: st) m)
  | .lmul => gs_j2 st (fun x y st => go nx is lo (.inr (.inl (x * y)) :: st) m)
  | .land => gs_j2 st (fun x y st => go nx is lo (.inr (.inl (x &&& y)) :: st) m)
  | .ldiv => gs_j2 st (fun x y st => gs_nzL y (go nx is lo (.inr (.inl (x / y)) :: st) m))
  | .lrem => gs_j2 st (fun x y st => gs_nzL y (go nx is lo (.inr (.inl (x - x / y * y)) :: st) m))
  | .lneg => gs_j1 st (fun x st => go nx is lo (.inr (.inl (-x)) :: st) m)
  | .i2l => gs_i1 st (fun x st => go nx is lo (.inr (.inl x.toInt64) :: st) m)
  | .l2i => gs_j1 st (fun x st => go nx is lo (.inl x.toInt32 :: st) m)
  | .i2b => gs_i1 st (fun x st => go nx is lo (.inl x.toInt8.toInt32 :: st) m)
  | .lcmp => gs_j2 st (fun x y st => go nx is lo (.inl (lg_cmp x y) :: st) m)
  | .dup => gs_v1 st (fun v st => cond (gs_two v) none (go nx is lo (v :: v :: st) m))
  | .dup2 => gs_v2 st (fun v w st => cond (gs_two v || gs_two w) none (go nx is lo (v :: w :: v :: w :: st) m))
  | .ifCond .eq _ => gs_i1 st (fun x st => if x = 0 then go a1 [] lo st m else go nx is lo st m)
  | .ifCond .ne _ => gs_i1 st (fun x st => if x = 0 then go nx is lo st m else go a1 [] lo st m)
  | .ifCond .lt _ => gs_i1 st (fun x st => if x < 0 then go a1 [] lo st m else go nx is lo st m)
  | .ifCond .ge _ => gs_i1 st (fun x st => if x < 0 then go nx is lo st m else go a1 [] lo st m)
  | .ifCond .gt _ => gs_i1 st (fun x st => if 0 < x then go a1 [] lo st m else go nx is lo st m)
  | .ifCond .le _ => gs_i1 st (fun x st => if 0 < x then go nx is lo st m else go a1 [] lo st m)
  | .if_icmp .eq _ => gs_i2 st (fun x y st => if x = y then go a1 [] lo st m else go nx is lo st m)
  | .if_icmp .ne _ => gs_i2 st (fun x y st => if x = y then go nx is lo st m else go a1 [] lo st m)
  | .if_icmp .lt _ => gs_i2 st (fun x y st => if x < y then go a1 [] lo st m else go nx is lo st m)
  | .if_icmp .ge _ => gs_i2 st (fun x y st => if x < y then go nx is lo st m else go a1 [] lo st m)
  | .if_icmp .gt _ => gs_i2 st (fun x y st => if y < x then go a1 [] lo st m else go nx is lo st m)
  | .if_icmp .le _ => gs_i2 st (fun x y st => if y < x then go nx is lo st m else go a1 [] lo st m)
  | .goto _ => go a1 [] lo st m
  | .tableswitch _ _ _ _ => gs_i1 st (fun x st => gs_sw sw (fun t => go t [] lo st m) x a1)
  | .lookupswitch _ _ => gs_i1 st (fun x st => gs_sw sw (fun t => go t [] lo st m) x a1)
  | .getfield _ => gs_a1 st (fun a st => gs_fld m a a1 (match a3 with
      | 1 => go nx is lo (.inr (.inl (m.2.2.1 a a2)) :: st) m
      | 2 => gs_nn (m.2.2.2 a a2) (fun b => go nx is lo (.inr (.inr b) :: st) m)
      | _ => go nx is lo (.inl (m.2.1 a a2) :: st) m))
  | .putfield _ => match a3 with
    | 0 => gs_ia st (fun x a st => gs_fld m a a1 (go nx is lo st (gs_sI m a a2 x)))
    | 1 => gs_ja st (fun x a st => gs_fld m a a1 (go nx is lo st (gs_sJ m a a2 x)))
    | 2 => gs_aa st (fun x a st => gs_fld m a a1 (cond (Nat.blt (gs_rk x) m.1.1) (go nx is lo st (gs_sR m a a2 x)) none))
    | _ => gs_ia st (fun x a st => gs_fld m a a1 (gs_bt x (go nx is lo st (gs_sI m a a2 x))))
  | .getstatic _ => go nx is lo (.inr (.inr 100000) :: st) m
  | .iaload => gs_ia st (fun j a st => match a1 with
      | 0 => gs_ix m a 13 j (fun k => go nx is lo (.inl (m.2.1 a k) :: st) m)
      | _ => cond (Nat.beq a 100002 && gs_in j X.2.1) (go nx is lo (.inl (X.2.2 j.toNatClampNeg) :: st) m) none)
  | .baload => gs_ia st (fun j a st => gs_ix m a 12 j (fun k => go nx is lo (.inl (m.2.1 a k) :: st) m))
  | .laload => gs_ia st (fun j a st => match a1 with
      | 0 => gs_ix m a 14 j (fun k => go nx is lo (.inr (.inl (m.2.2.1 a k)) :: st) m)
      | _ => cond (Nat.beq a 100000 && gs_in j 12) (go nx is lo (.inr (.inl (gs_digits.getD j.toNatClampNeg 0)) :: st) m) none)
  | .aaload => gs_ia st (fun j a st => gs_ix m a (cond (Nat.beq (gs_kind a) 15) 15 16) j (fun k => gs_nn (m.2.2.2 a k) (fun b => go nx is lo (.inr (.inr b) :: st) m)))
  | .iastore => gs_iia st (fun x j a st => gs_ix m a 13 j (fun k => go nx is lo st (gs_sI m a k x)))
  | .bastore => gs_iia st (fun x j a st => gs_ix m a 12 j (fun k => go nx is lo st (gs_sI m a k x.toInt8.toInt32)))
  | .lastore => gs_jia st (fun x j a st => gs_ix m a 14 j (fun k => go nx is lo st (gs_sJ m a k x)))
  | .aastore => gs_aia st (fun x j a st => cond (gs_ok x (cond (Nat.beq (gs_kind a) 15) 0 2) m.1.1) (gs_ix m a (cond (Nat.beq (gs_kind a) 15) 15 16) j (fun k => go nx is lo st (gs_sR m a k x))) none)
  | .arraylength => gs_a1 st (fun a st => match a1 with
      | 0 => cond (Nat.ble 12 (gs_kind a) && Nat.ble (gs_kind a) 14 && Nat.blt (gs_rk a) m.1.1) (go nx is lo (.inl (Int32.ofNat (gs_len a)) :: st) m) none
      | _ => cond (Nat.beq a 100002) (go nx is lo (.inl (Int32.ofNat X.2.1) :: st) m) none)
  | .newarray _ => gs_i1 st (fun x st => cond (Nat.beq m.1.2.1 0 && Nat.beq (gs_kind (gs_pm m.1.1)) a1 && !(decide (x < 0)) && Nat.beq x.toNatClampNeg (gs_len (gs_pm m.1.1))) (go nx is lo (.inr (.inr (gs_pm m.1.1)) :: st) (gs_nw m (gs_len (gs_pm m.1.1)))) none)
  | .anewarray _ => gs_i1 st (fun x st => cond (Nat.beq m.1.2.1 0 && Nat.beq (gs_kind (gs_pm m.1.1)) a1 && !(decide (x < 0)) && Nat.beq x.toNatClampNeg (gs_len (gs_pm m.1.1))) (go nx is lo (.inr (.inr (gs_pm m.1.1)) :: st) (gs_nw m (gs_len (gs_pm m.1.1)))) none)
  | .new _ => cond (Nat.ble 100 a1) (cond (Nat.ble (gs_cs st) 8) (some (.inr (a1 - 100), gs_gb m)) none) (cond (Nat.beq m.1.2.1 0 && Nat.beq (gs_kind (gs_pm m.1.1)) a1) (go nx is lo (.inr (.inr (gs_pm m.1.1)) :: st) (gs_nw m a2)) none)
  | .invokevirtual _ => match a4 with
    | 90 => gs_a1 st (fun a st => cond (Nat.beq a 100001 && Nat.ble (gs_cs st) 8) (go nx is lo (.inl 171 :: st) m) none)
    | 91 => gs_ia st (fun j a st => cond (Nat.beq a 100001 && Nat.ble (gs_cs st) 8 && gs_in j 171) (go nx is lo (.inl (gs_words.getD j.toNatClampNeg 0) :: st) m) none)
    | _ => gs_pp (gs_pop a2 [] st) (fun as rest => gs_rc as (fun b => gs_fld m b a4 (gs_call C (gs_hd hs pc go lo) go nx a1 a3 as rest is lo m)))
  | .invokestatic _ => gs_pp (gs_pop a2 [] st) (fun as rest => gs_call C gs_nt go nx a1 a3 as rest is lo m)
  | .invokespecial _ => match a4 with
    | 92 => gs_a1 st (fun _ st => cond (Nat.ble (gs_cs st) 8) (go nx is lo st m) none)
    | _ => gs_pp (gs_pop a2 [] st) (fun as rest => gs_rc as (fun _ => gs_call C gs_nt go nx a1 a3 as rest is lo m))
  | .ireturn => gs_i1 st (fun x st => gs_e0 st (match a1 with
      | 1 => gs_bt x (gs_rI x m)
      | _ => gs_rI x m))
  | .lreturn => gs_j1 st (fun x st => gs_e0 st (gs_rJ x m))
  | .areturn => gs_a1 st (fun x st => gs_e0 st (gs_rA x m))
  | .return_ => gs_e0 st (gs_rU m)
  | _ => none
def gs_run (X : gs_E) (C : Nat → List gs_V → gs_M → gs_O) (T : gs_T) (K : Nat → gs_L → List gs_V → gs_M → gs_O) : Nat → gs_Go
  | 0, _, _, _, _, _ => none
  | n + 1, pc, [], lo, st, m => match gs_fs T.2.2.1 pc with
    | some ks => K pc (gs_pick ks lo) st m
    | none => match gs_fb T.2.1 pc with
      | some is => gs_run X C T K n pc is lo st m
      | none => none
  | n + 1, pc, i :: is, lo, st, m => gs_step X C T.1 (gs_run X C T K n) pc i is lo st m
def gs_iter (X : gs_E) (C : Nat → List gs_V → gs_M → gs_O) (T : gs_T) : Nat → Nat → gs_L → List gs_V → gs_M → gs_O
  | 0, _, _, _, _ => none
  | n + 1, pc, lo, st, m => match gs_fb T.2.1 pc with
    | some is => gs_run X C T (gs_iter X C T n) 2000 pc is lo st m
    | none => none
def gs_ent (X : gs_E) (C : Nat → List gs_V → gs_M → gs_O) (T : gs_T) (as : List gs_V) (m : gs_M) : gs_O := cond (Nat.ble (gs_cs as) T.2.2.2) (match gs_fb T.2.1 0 with
  | some is => gs_run X C T (gs_iter X C T X.1) 2000 0 is (gs_args 0 as) [] m
  | none => none) none
def gs_exec (X : gs_E) : Nat → Nat → List gs_V → gs_M → gs_O
  | 0, _, _, _ => none
  | d + 1, k, as, m => gs_ent X (gs_exec X d) (gs_tab k) as m
