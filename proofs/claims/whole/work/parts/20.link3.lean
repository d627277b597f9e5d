def gs_oi : List (Nat × Nat) := [(11, 1), (5, 3), (8, 3), (3, 3), (6, 3), (10, 3), (2, 3), (0, 3), (9, 3), (4, 5), (1, 3), (12, 1)]
def gs_oiw (x : Nat × Nat) : Cond := .methodLink (gs_own x.1) x.2 objectInit
set_option maxRecDepth 1000000 in
theorem gs_oi_0 : ∀ w ∈ ([(11, 1), (5, 3), (8, 3), (3, 3), (6, 3), (10, 3), (2, 3), (0, 3), (9, 3), (4, 5), (1, 3), (12, 1)] : List (Nat × Nat)).map gs_oiw, gs_gw w := gs_sk_ok [164, 7, 5, 5, 26, 26, 24, 81, 136, 121, 55, 869] _ lw_tbl (by decide +kernel)
theorem gs_oi_ok {x : Nat × Nat} (h : x ∈ gs_oi) : gs_gw (gs_oiw x) := gs_oi_0 _ (List.mem_map.mpr ⟨x, h, rfl⟩)
def gs_un : List (Nat × Nat × String) := [(13, 8, "GuestStars"), (11, 7, "GuestStars$Reader"), (5, 15, "GuestStars$Tale"), (8, 9, "GuestStars$Names"), (8, 29, "GuestStars$Rules"), (8, 36, "GuestStars$Watches"), (8, 43, "GuestStars$Guest"), (8, 49, "GuestStars$Cloud"), (5, 22, "GuestStars$Tape"), (11, 16, "GuestStars$Pairing"), (11, 23, "GuestStars$Events"), (11, 30, "GuestStars$Tale"), (5, 76, "java/lang/IllegalArgumentException"), (11, 108, "java/lang/IndexOutOfBoundsException"), (11, 115, "java/util/NoSuchElementException"), (13, 18, "GuestStarsModel")]
set_option maxRecDepth 1000000 in
theorem gs_un_0 : ∀ w ∈ ([(13, 8, "GuestStars"), (11, 7, "GuestStars$Reader"), (5, 15, "GuestStars$Tale"), (8, 9, "GuestStars$Names"), (8, 29, "GuestStars$Rules"), (8, 36, "GuestStars$Watches"), (8, 43, "GuestStars$Guest"), (8, 49, "GuestStars$Cloud"), (5, 22, "GuestStars$Tape"), (11, 16, "GuestStars$Pairing"), (11, 23, "GuestStars$Events"), (11, 30, "GuestStars$Tale"), (5, 76, "java/lang/IllegalArgumentException"), (11, 108, "java/lang/IndexOutOfBoundsException"), (11, 115, "java/util/NoSuchElementException"), (13, 18, "GuestStarsModel")] : List (Nat × Nat × String)).map gs_uw, gs_gw w := gs_sk_ok [159, 7, 5, 5, 26, 26, 21, 1, 219, 121, 55, 10, 95, 729, 15, 16] _ lw_tbl (by decide +kernel)
theorem gs_un_ok {x : Nat × Nat × String} (h : x ∈ gs_un) : gs_gw (gs_uw x) := gs_un_0 _ (List.mem_map.mpr ⟨x, h, rfl⟩)
set_option maxRecDepth 100000 in
theorem gs_iw_0 : gs_gw (.instantiable (gs_cl? 0).1 (gs_cl? 0).2.2) ∧ gs_gw (.initialized (gs_cl? 0).1) := ⟨⟨List.mem_of_getElem? (i := 341) rfl, rfl⟩, ⟨List.mem_of_getElem? (i := 140) rfl, rfl⟩⟩
set_option maxRecDepth 100000 in
theorem gs_iw_1 : gs_gw (.instantiable (gs_cl? 1).1 (gs_cl? 1).2.2) ∧ gs_gw (.initialized (gs_cl? 1).1) := ⟨⟨List.mem_of_getElem? (i := 656) rfl, rfl⟩, ⟨List.mem_of_getElem? (i := 147) rfl, rfl⟩⟩
set_option maxRecDepth 100000 in
theorem gs_iw_2 : gs_gw (.instantiable (gs_cl? 2).1 (gs_cl? 2).2.2) ∧ gs_gw (.initialized (gs_cl? 2).1) := ⟨⟨List.mem_of_getElem? (i := 259) rfl, rfl⟩, ⟨List.mem_of_getElem? (i := 139) rfl, rfl⟩⟩
set_option maxRecDepth 100000 in
theorem gs_iw_3 : gs_gw (.instantiable (gs_cl? 3).1 (gs_cl? 3).2.2) ∧ gs_gw (.initialized (gs_cl? 3).1) := ⟨⟨List.mem_of_getElem? (i := 180) rfl, rfl⟩, ⟨List.mem_of_getElem? (i := 136) rfl, rfl⟩⟩
set_option maxRecDepth 100000 in
theorem gs_iw_4 : gs_gw (.instantiable (gs_cl? 4).1 (gs_cl? 4).2.2) ∧ gs_gw (.initialized (gs_cl? 4).1) := ⟨⟨List.mem_of_getElem? (i := 600) rfl, rfl⟩, ⟨List.mem_of_getElem? (i := 146) rfl, rfl⟩⟩
set_option maxRecDepth 100000 in
theorem gs_iw_5 : gs_gw (.instantiable (gs_cl? 5).1 (gs_cl? 5).2.2) ∧ gs_gw (.initialized (gs_cl? 5).1) := ⟨⟨List.mem_of_getElem? (i := 168) rfl, rfl⟩, ⟨List.mem_of_getElem? (i := 134) rfl, rfl⟩⟩
set_option maxRecDepth 100000 in
theorem gs_iw_6 : gs_gw (.instantiable (gs_cl? 6).1 (gs_cl? 6).2.2) ∧ gs_gw (.initialized (gs_cl? 6).1) := ⟨⟨List.mem_of_getElem? (i := 207) rfl, rfl⟩, ⟨List.mem_of_getElem? (i := 137) rfl, rfl⟩⟩
set_option maxRecDepth 100000 in
theorem gs_iw_7 : gs_gw (.instantiable (gs_cl? 7).1 (gs_cl? 7).2.2) ∧ gs_gw (.initialized (gs_cl? 7).1) := ⟨⟨List.mem_of_getElem? (i := 174) rfl, rfl⟩, ⟨List.mem_of_getElem? (i := 135) rfl, rfl⟩⟩
set_option maxRecDepth 100000 in
theorem gs_iw_8 : gs_gw (.instantiable (gs_cl? 8).1 (gs_cl? 8).2.2) ∧ gs_gw (.initialized (gs_cl? 8).1) := ⟨⟨List.mem_of_getElem? (i := 478) rfl, rfl⟩, ⟨List.mem_of_getElem? (i := 141) rfl, rfl⟩⟩
set_option maxRecDepth 100000 in
theorem gs_iw_9 : gs_gw (.instantiable (gs_cl? 9).1 (gs_cl? 9).2.2) ∧ gs_gw (.initialized (gs_cl? 9).1) := ⟨⟨List.mem_of_getElem? (i := 234) rfl, rfl⟩, ⟨List.mem_of_getElem? (i := 138) rfl, rfl⟩⟩
set_option maxRecDepth 100000 in
theorem gs_iw_10 : gs_gw (.instantiable (gs_cl? 10).1 (gs_cl? 10).2.2) ∧ gs_gw (.initialized (gs_cl? 10).1) := ⟨⟨List.mem_of_getElem? (i := 160) rfl, rfl⟩, ⟨List.mem_of_getElem? (i := 133) rfl, rfl⟩⟩
set_option maxRecDepth 100000 in
theorem gs_iw_11 : gs_gw (.instantiable (gs_cl? 11).1 (gs_cl? 11).2.2) ∧ gs_gw (.initialized (gs_cl? 11).1) := ⟨⟨List.mem_of_getElem? (i := 1526) rfl, rfl⟩, ⟨List.mem_of_getElem? (i := 148) rfl, rfl⟩⟩
theorem gs_iw {c : Nat} (h : c < 12) : gs_gw (.instantiable (gs_cl? c).1 (gs_cl? c).2.2) ∧ gs_gw (.initialized (gs_cl? c).1) := by
  rcases (show c = 0 ∨ c = 1 ∨ c = 2 ∨ c = 3 ∨ c = 4 ∨ c = 5 ∨ c = 6 ∨ c = 7 ∨ c = 8 ∨ c = 9 ∨ c = 10 ∨ c = 11 by omega) with rfl | rfl | rfl | rfl | rfl | rfl | rfl | rfl | rfl | rfl | rfl | rfl
  · exact gs_iw_0
  · exact gs_iw_1
  · exact gs_iw_2
  · exact gs_iw_3
  · exact gs_iw_4
  · exact gs_iw_5
  · exact gs_iw_6
  · exact gs_iw_7
  · exact gs_iw_8
  · exact gs_iw_9
  · exact gs_iw_10
  · exact gs_iw_11
set_option maxRecDepth 100000 in
theorem gs_ac_byte : gs_gw (.arrayClass .byte) := ⟨List.mem_of_getElem? (i := 561) rfl, rfl⟩
set_option maxRecDepth 100000 in
theorem gs_ac_int : gs_gw (.arrayClass .int) := ⟨List.mem_of_getElem? (i := 205) rfl, rfl⟩
set_option maxRecDepth 100000 in
theorem gs_ac_long : gs_gw (.arrayClass .long) := ⟨List.mem_of_getElem? (i := 232) rfl, rfl⟩
set_option maxRecDepth 100000 in
theorem gs_oj1 : gs_gw (.instanceMethod objectInit) := ⟨List.mem_of_getElem? (i := 165) rfl, rfl⟩
set_option maxRecDepth 100000 in
theorem gs_oj2 : gs_gw (.code objectInit ⟨#[0xb1]⟩ 1 none) := ⟨List.mem_of_getElem? (i := 166) rfl, rfl⟩
/-- class, entry, exception, text, constructor -/
def gs_xt : List (Nat × Nat × Nat × Nat × Nat) := [(5, 76, 0, 78, 80), (11, 108, 1, 110, 112), (11, 115, 2, 117, 119)]
def gs_xc (o : Nat) (cc : ByteArray) (pc idx E : Nat) : Bool := gs_xt.any (fun x => Nat.beq x.1 o && Nat.beq x.2.1 idx && Nat.beq x.2.2.1 E && decide (decode cc pc = .ok (.new idx, 3)) && decide (decode cc (pc + 3) = .ok (.dup, 1)) && decide (decode cc (pc + 4) = .ok (.ldc x.2.2.2.1, 2)) && decide (decode cc (pc + 6) = .ok (.invokespecial x.2.2.2.2, 3)) && decide (decode cc (pc + 9) = .ok (.athrow, 1)))
def gs_ck3 (o : Nat) (cc : ByteArray) (pc : Nat) (ins : gs_N) : Bool := match ins with
  | (i, nx, a1, a2, a3, a4, cv, sw) => match i with
  | .new idx => cond (Nat.ble 100 a1) (gs_xc o cc pc idx (a1 - 100)) (gs_dn cc pc nx (.new idx) 3 && Nat.blt a1 12 && decide ((o, idx, (gs_cl? a1).1) ∈ gs_un) && Nat.beq a2 (gs_cl? a1).2.2)
  | .newarray ty => gs_dn cc pc nx (.newarray ty) 2 && ((Nat.beq a1 12 && decide (newarray.typeOf ty = .byte)) || (Nat.beq a1 13 && decide (newarray.typeOf ty = .int)) || (Nat.beq a1 14 && decide (newarray.typeOf ty = .long)))
  | .anewarray idx => gs_dn cc pc nx (.anewarray idx) 3 && ((Nat.beq a1 15 && decide ((o, idx, "GuestStars$Cloud") ∈ gs_un)) || (Nat.beq a1 16 && decide ((o, idx, "GuestStars$Guest") ∈ gs_un)))
  | .aastore => gs_dn cc pc nx .aastore 1
  | .invokespecial idx => Nat.blt a4 90 || (Nat.beq a4 92 && gs_dn cc pc nx (.invokespecial idx) 3 && decide ((o, idx) ∈ gs_oi))
  | .invokevirtual idx => Nat.blt a4 90 || (gs_dn cc pc nx (.invokevirtual idx) 3 && Nat.beq o 9 && ((Nat.beq a4 90 && Nat.beq idx 21) || (Nat.beq a4 91 && Nat.beq idx 27)))
  | .ldc idx => Nat.beq a1 0 || (gs_dn cc pc nx (.ldc idx) 2 && Nat.beq o 9 && Nat.beq idx 19)
  | .ldc_w _ => Nat.beq a1 0
  | .getstatic idx => gs_dn cc pc nx (.getstatic idx) 3 && Nat.beq o 4 && Nat.beq idx 87
  | .laload => Nat.beq a1 0 || gs_dn cc pc nx .laload 1
  | .iaload => Nat.beq a1 0 || gs_dn cc pc nx .iaload 1
  | .arraylength => Nat.beq a1 0 || gs_dn cc pc nx .arraylength 1
  | _ => true

set_option maxRecDepth 100000 in
theorem gs_dw : gs_gw (.fieldLink RX4 87 RX4 "DIGITS" "[J") := ⟨List.mem_of_getElem? (i := 1233) rfl, rfl⟩
