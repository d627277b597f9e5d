section
-- ===== PART A: goes FIRST, ahead of the names: the tables' words, and 'selects' of the private methods out of them =====
/-- a private method of a class that the tables say can be made, by its rows of tables_1 -/
def lw_okq (q : MethodName × Nat) : Prop := (q.1.cls ≠ "java/lang/invoke/MethodHandle" ∧ q.1.cls ≠ "java/lang/invoke/VarHandle") ∧ Cond.instantiable q.1.cls q.2 ∈ tables_1 ∧ Cond.privateMethod q.1 ∈ tables_1 ∧ Cond.instanceMethod q.1 ∈ tables_1
theorem lw_p0 : lw_okq (⟨"GuestStars$Tape", "takeWord", "()V"⟩, 8) := ⟨⟨by decide +kernel, by decide +kernel⟩, List.mem_of_getElem? (i := 42) (by decide +kernel), List.mem_of_getElem? (i := 601) (by decide +kernel), List.mem_of_getElem? (i := 602) (by decide +kernel)⟩
theorem lw_p1 : lw_okq (⟨"GuestStars$Tape", "takeNumber", "()V"⟩, 8) := ⟨⟨by decide +kernel, by decide +kernel⟩, List.mem_of_getElem? (i := 42) (by decide +kernel), List.mem_of_getElem? (i := 605) (by decide +kernel), List.mem_of_getElem? (i := 606) (by decide +kernel)⟩
theorem lw_p2 : lw_okq (⟨"GuestStars$Tape", "widenSign", "()V"⟩, 8) := ⟨⟨by decide +kernel, by decide +kernel⟩, List.mem_of_getElem? (i := 42) (by decide +kernel), List.mem_of_getElem? (i := 612) (by decide +kernel), List.mem_of_getElem? (i := 613) (by decide +kernel)⟩
theorem lw_p3 : lw_okq (⟨"GuestStars$Reader", "readLine", "()V"⟩, 11) := ⟨⟨by decide +kernel, by decide +kernel⟩, List.mem_of_getElem? (i := 36) (by decide +kernel), List.mem_of_getElem? (i := 616) (by decide +kernel), List.mem_of_getElem? (i := 617) (by decide +kernel)⟩
theorem lw_p4 : lw_okq (⟨"GuestStars$Reader", "readReign", "()V"⟩, 11) := ⟨⟨by decide +kernel, by decide +kernel⟩, List.mem_of_getElem? (i := 36) (by decide +kernel), List.mem_of_getElem? (i := 620) (by decide +kernel), List.mem_of_getElem? (i := 621) (by decide +kernel)⟩
theorem lw_p5 : lw_okq (⟨"GuestStars$Reader", "begin", "(II)V"⟩, 11) := ⟨⟨by decide +kernel, by decide +kernel⟩, List.mem_of_getElem? (i := 36) (by decide +kernel), List.mem_of_getElem? (i := 624) (by decide +kernel), List.mem_of_getElem? (i := 625) (by decide +kernel)⟩
theorem lw_p6 : lw_okq (⟨"GuestStars$Reader", "fail", "(I)V"⟩, 11) := ⟨⟨by decide +kernel, by decide +kernel⟩, List.mem_of_getElem? (i := 36) (by decide +kernel), List.mem_of_getElem? (i := 628) (by decide +kernel), List.mem_of_getElem? (i := 629) (by decide +kernel)⟩
theorem lw_p7 : lw_okq (⟨"java/lang/Throwable", "fillInStackTrace", "(I)Ljava/lang/Throwable;"⟩, 6) := ⟨⟨by decide +kernel, by decide +kernel⟩, List.mem_of_getElem? (i := 670) (by decide +kernel), List.mem_of_getElem? (i := 668) (by decide +kernel), List.mem_of_getElem? (i := 669) (by decide +kernel)⟩
theorem lw_p8 : lw_okq (⟨"GuestStars$Reader", "newName", "(LGuestStars$Names;)I"⟩, 11) := ⟨⟨by decide +kernel, by decide +kernel⟩, List.mem_of_getElem? (i := 36) (by decide +kernel), List.mem_of_getElem? (i := 700) (by decide +kernel), List.mem_of_getElem? (i := 701) (by decide +kernel)⟩
theorem lw_p9 : lw_okq (⟨"GuestStars$Reader", "number", "(II)I"⟩, 11) := ⟨⟨by decide +kernel, by decide +kernel⟩, List.mem_of_getElem? (i := 36) (by decide +kernel), List.mem_of_getElem? (i := 708) (by decide +kernel), List.mem_of_getElem? (i := 709) (by decide +kernel)⟩
theorem lw_p10 : lw_okq (⟨"GuestStars$Reader", "readGate", "()V"⟩, 11) := ⟨⟨by decide +kernel, by decide +kernel⟩, List.mem_of_getElem? (i := 36) (by decide +kernel), List.mem_of_getElem? (i := 716) (by decide +kernel), List.mem_of_getElem? (i := 717) (by decide +kernel)⟩
theorem lw_p11 : lw_okq (⟨"GuestStars$Reader", "readBook", "()V"⟩, 11) := ⟨⟨by decide +kernel, by decide +kernel⟩, List.mem_of_getElem? (i := 36) (by decide +kernel), List.mem_of_getElem? (i := 720) (by decide +kernel), List.mem_of_getElem? (i := 721) (by decide +kernel)⟩
theorem lw_p12 : lw_okq (⟨"GuestStars$Reader", "toldName", "(LGuestStars$Names;)I"⟩, 11) := ⟨⟨by decide +kernel, by decide +kernel⟩, List.mem_of_getElem? (i := 36) (by decide +kernel), List.mem_of_getElem? (i := 724) (by decide +kernel), List.mem_of_getElem? (i := 725) (by decide +kernel)⟩
theorem lw_p13 : lw_okq (⟨"GuestStars$Reader", "startGuest", "()V"⟩, 11) := ⟨⟨by decide +kernel, by decide +kernel⟩, List.mem_of_getElem? (i := 36) (by decide +kernel), List.mem_of_getElem? (i := 728) (by decide +kernel), List.mem_of_getElem? (i := 729) (by decide +kernel)⟩
theorem lw_p14 : lw_okq (⟨"GuestStars$Reader", "readDetails", "()V"⟩, 11) := ⟨⟨by decide +kernel, by decide +kernel⟩, List.mem_of_getElem? (i := 36) (by decide +kernel), List.mem_of_getElem? (i := 736) (by decide +kernel), List.mem_of_getElem? (i := 737) (by decide +kernel)⟩
theorem lw_p15 : lw_okq (⟨"GuestStars$Reader", "tellOnce", "(I)I"⟩, 11) := ⟨⟨by decide +kernel, by decide +kernel⟩, List.mem_of_getElem? (i := 36) (by decide +kernel), List.mem_of_getElem? (i := 740) (by decide +kernel), List.mem_of_getElem? (i := 741) (by decide +kernel)⟩
def lw_privs_1 : List (MethodName × Nat) := [(⟨"GuestStars$Tape", "takeWord", "()V"⟩, 8), (⟨"GuestStars$Tape", "takeNumber", "()V"⟩, 8), (⟨"GuestStars$Tape", "widenSign", "()V"⟩, 8), (⟨"GuestStars$Reader", "readLine", "()V"⟩, 11), (⟨"GuestStars$Reader", "readReign", "()V"⟩, 11), (⟨"GuestStars$Reader", "begin", "(II)V"⟩, 11), (⟨"GuestStars$Reader", "fail", "(I)V"⟩, 11), (⟨"java/lang/Throwable", "fillInStackTrace", "(I)Ljava/lang/Throwable;"⟩, 6), (⟨"GuestStars$Reader", "newName", "(LGuestStars$Names;)I"⟩, 11), (⟨"GuestStars$Reader", "number", "(II)I"⟩, 11), (⟨"GuestStars$Reader", "readGate", "()V"⟩, 11), (⟨"GuestStars$Reader", "readBook", "()V"⟩, 11), (⟨"GuestStars$Reader", "toldName", "(LGuestStars$Names;)I"⟩, 11), (⟨"GuestStars$Reader", "startGuest", "()V"⟩, 11), (⟨"GuestStars$Reader", "readDetails", "()V"⟩, 11), (⟨"GuestStars$Reader", "tellOnce", "(I)I"⟩, 11)]
theorem lw_r1 : ∀ q ∈ lw_privs_1, lw_okq q := List.forall_mem_cons.mpr ⟨lw_p0, List.forall_mem_cons.mpr ⟨lw_p1, List.forall_mem_cons.mpr ⟨lw_p2, List.forall_mem_cons.mpr ⟨lw_p3, List.forall_mem_cons.mpr ⟨lw_p4, List.forall_mem_cons.mpr ⟨lw_p5, List.forall_mem_cons.mpr ⟨lw_p6, List.forall_mem_cons.mpr ⟨lw_p7, List.forall_mem_cons.mpr ⟨lw_p8, List.forall_mem_cons.mpr ⟨lw_p9, List.forall_mem_cons.mpr ⟨lw_p10, List.forall_mem_cons.mpr ⟨lw_p11, List.forall_mem_cons.mpr ⟨lw_p12, List.forall_mem_cons.mpr ⟨lw_p13, List.forall_mem_cons.mpr ⟨lw_p14, List.forall_mem_cons.mpr ⟨lw_p15, fun _ h => absurd h List.not_mem_nil⟩⟩⟩⟩⟩⟩⟩⟩⟩⟩⟩⟩⟩⟩⟩⟩
theorem lw_p16 : lw_okq (⟨"GuestStars$Reader", "readSides", "()I"⟩, 11) := ⟨⟨by decide +kernel, by decide +kernel⟩, List.mem_of_getElem? (i := 36) (by decide +kernel), List.mem_of_getElem? (i := 744) (by decide +kernel), List.mem_of_getElem? (i := 745) (by decide +kernel)⟩
theorem lw_p17 : lw_okq (⟨"GuestStars$Reader", "startRock", "()V"⟩, 11) := ⟨⟨by decide +kernel, by decide +kernel⟩, List.mem_of_getElem? (i := 36) (by decide +kernel), List.mem_of_getElem? (i := 758) (by decide +kernel), List.mem_of_getElem? (i := 759) (by decide +kernel)⟩
theorem lw_p18 : lw_okq (⟨"GuestStars$Reader", "readCloud", "()V"⟩, 11) := ⟨⟨by decide +kernel, by decide +kernel⟩, List.mem_of_getElem? (i := 36) (by decide +kernel), List.mem_of_getElem? (i := 762) (by decide +kernel), List.mem_of_getElem? (i := 763) (by decide +kernel)⟩
theorem lw_p19 : lw_okq (⟨"GuestStars$Reader", "take", "(I)V"⟩, 11) := ⟨⟨by decide +kernel, by decide +kernel⟩, List.mem_of_getElem? (i := 36) (by decide +kernel), List.mem_of_getElem? (i := 766) (by decide +kernel), List.mem_of_getElem? (i := 767) (by decide +kernel)⟩
theorem lw_p20 : lw_okq (⟨"GuestStars$Reader", "readSort", "()V"⟩, 11) := ⟨⟨by decide +kernel, by decide +kernel⟩, List.mem_of_getElem? (i := 36) (by decide +kernel), List.mem_of_getElem? (i := 770) (by decide +kernel), List.mem_of_getElem? (i := 771) (by decide +kernel)⟩
theorem lw_p21 : lw_okq (⟨"GuestStars$Reader", "readOperand", "()V"⟩, 11) := ⟨⟨by decide +kernel, by decide +kernel⟩, List.mem_of_getElem? (i := 36) (by decide +kernel), List.mem_of_getElem? (i := 774) (by decide +kernel), List.mem_of_getElem? (i := 775) (by decide +kernel)⟩
theorem lw_p22 : lw_okq (⟨"GuestStars$Reader", "pushPending", "(I)V"⟩, 11) := ⟨⟨by decide +kernel, by decide +kernel⟩, List.mem_of_getElem? (i := 36) (by decide +kernel), List.mem_of_getElem? (i := 778) (by decide +kernel), List.mem_of_getElem? (i := 779) (by decide +kernel)⟩
theorem lw_p23 : lw_okq (⟨"GuestStars$Reader", "countKnot", "()V"⟩, 11) := ⟨⟨by decide +kernel, by decide +kernel⟩, List.mem_of_getElem? (i := 36) (by decide +kernel), List.mem_of_getElem? (i := 782) (by decide +kernel), List.mem_of_getElem? (i := 783) (by decide +kernel)⟩
theorem lw_p24 : lw_okq (⟨"GuestStars$Reader", "readOperator", "()Z"⟩, 11) := ⟨⟨by decide +kernel, by decide +kernel⟩, List.mem_of_getElem? (i := 36) (by decide +kernel), List.mem_of_getElem? (i := 793) (by decide +kernel), List.mem_of_getElem? (i := 794) (by decide +kernel)⟩
theorem lw_p25 : lw_okq (⟨"GuestStars$Reader", "settlePending", "(I)V"⟩, 11) := ⟨⟨by decide +kernel, by decide +kernel⟩, List.mem_of_getElem? (i := 36) (by decide +kernel), List.mem_of_getElem? (i := 797) (by decide +kernel), List.mem_of_getElem? (i := 798) (by decide +kernel)⟩
theorem lw_p26 : lw_okq (⟨"GuestStars$Reader", "readWatch", "()V"⟩, 11) := ⟨⟨by decide +kernel, by decide +kernel⟩, List.mem_of_getElem? (i := 36) (by decide +kernel), List.mem_of_getElem? (i := 808) (by decide +kernel), List.mem_of_getElem? (i := 809) (by decide +kernel)⟩
theorem lw_p27 : lw_okq (⟨"GuestStars$Reader", "readSetting", "(I)I"⟩, 11) := ⟨⟨by decide +kernel, by decide +kernel⟩, List.mem_of_getElem? (i := 36) (by decide +kernel), List.mem_of_getElem? (i := 816) (by decide +kernel), List.mem_of_getElem? (i := 817) (by decide +kernel)⟩
theorem lw_p28 : lw_okq (⟨"GuestStars$Cloud", "cornerAge", "(IIII)I"⟩, 11) := ⟨⟨by decide +kernel, by decide +kernel⟩, List.mem_of_getElem? (i := 398) (by decide +kernel), List.mem_of_getElem? (i := 829) (by decide +kernel), List.mem_of_getElem? (i := 830) (by decide +kernel)⟩
theorem lw_p29 : lw_okq (⟨"GuestStars", "forgetReckoned", "()V"⟩, 10) := ⟨⟨by decide +kernel, by decide +kernel⟩, List.mem_of_getElem? (i := 28) (by decide +kernel), List.mem_of_getElem? (i := 843) (by decide +kernel), List.mem_of_getElem? (i := 844) (by decide +kernel)⟩
theorem lw_p30 : lw_okq (⟨"GuestStars", "isGuest", "(I)Z"⟩, 10) := ⟨⟨by decide +kernel, by decide +kernel⟩, List.mem_of_getElem? (i := 28) (by decide +kernel), List.mem_of_getElem? (i := 872) (by decide +kernel), List.mem_of_getElem? (i := 873) (by decide +kernel)⟩
theorem lw_p31 : lw_okq (⟨"GuestStars$Tale", "dayIn", "(III)I"⟩, 14) := ⟨⟨by decide +kernel, by decide +kernel⟩, List.mem_of_getElem? (i := 233) (by decide +kernel), List.mem_of_getElem? (i := 884) (by decide +kernel), List.mem_of_getElem? (i := 885) (by decide +kernel)⟩
def lw_privs_2 : List (MethodName × Nat) := [(⟨"GuestStars$Reader", "readSides", "()I"⟩, 11), (⟨"GuestStars$Reader", "startRock", "()V"⟩, 11), (⟨"GuestStars$Reader", "readCloud", "()V"⟩, 11), (⟨"GuestStars$Reader", "take", "(I)V"⟩, 11), (⟨"GuestStars$Reader", "readSort", "()V"⟩, 11), (⟨"GuestStars$Reader", "readOperand", "()V"⟩, 11), (⟨"GuestStars$Reader", "pushPending", "(I)V"⟩, 11), (⟨"GuestStars$Reader", "countKnot", "()V"⟩, 11), (⟨"GuestStars$Reader", "readOperator", "()Z"⟩, 11), (⟨"GuestStars$Reader", "settlePending", "(I)V"⟩, 11), (⟨"GuestStars$Reader", "readWatch", "()V"⟩, 11), (⟨"GuestStars$Reader", "readSetting", "(I)I"⟩, 11), (⟨"GuestStars$Cloud", "cornerAge", "(IIII)I"⟩, 11), (⟨"GuestStars", "forgetReckoned", "()V"⟩, 10), (⟨"GuestStars", "isGuest", "(I)Z"⟩, 10), (⟨"GuestStars$Tale", "dayIn", "(III)I"⟩, 14)]
theorem lw_r2 : ∀ q ∈ lw_privs_2, lw_okq q := List.forall_mem_cons.mpr ⟨lw_p16, List.forall_mem_cons.mpr ⟨lw_p17, List.forall_mem_cons.mpr ⟨lw_p18, List.forall_mem_cons.mpr ⟨lw_p19, List.forall_mem_cons.mpr ⟨lw_p20, List.forall_mem_cons.mpr ⟨lw_p21, List.forall_mem_cons.mpr ⟨lw_p22, List.forall_mem_cons.mpr ⟨lw_p23, List.forall_mem_cons.mpr ⟨lw_p24, List.forall_mem_cons.mpr ⟨lw_p25, List.forall_mem_cons.mpr ⟨lw_p26, List.forall_mem_cons.mpr ⟨lw_p27, List.forall_mem_cons.mpr ⟨lw_p28, List.forall_mem_cons.mpr ⟨lw_p29, List.forall_mem_cons.mpr ⟨lw_p30, List.forall_mem_cons.mpr ⟨lw_p31, fun _ h => absurd h List.not_mem_nil⟩⟩⟩⟩⟩⟩⟩⟩⟩⟩⟩⟩⟩⟩⟩⟩
theorem lw_p32 : lw_okq (⟨"GuestStars$Tale", "sortValue", "(LGuestStars$Guest;I)J"⟩, 14) := ⟨⟨by decide +kernel, by decide +kernel⟩, List.mem_of_getElem? (i := 233) (by decide +kernel), List.mem_of_getElem? (i := 939) (by decide +kernel), List.mem_of_getElem? (i := 940) (by decide +kernel)⟩
theorem lw_p33 : lw_okq (⟨"GuestStars$Rules", "apply", "(IJJ)J"⟩, 5) := ⟨⟨by decide +kernel, by decide +kernel⟩, List.mem_of_getElem? (i := 265) (by decide +kernel), List.mem_of_getElem? (i := 949) (by decide +kernel), List.mem_of_getElem? (i := 950) (by decide +kernel)⟩
theorem lw_p34 : lw_okq (⟨"GuestStars$Rules", "within", "(J)J"⟩, 5) := ⟨⟨by decide +kernel, by decide +kernel⟩, List.mem_of_getElem? (i := 265) (by decide +kernel), List.mem_of_getElem? (i := 953) (by decide +kernel), List.mem_of_getElem? (i := 954) (by decide +kernel)⟩
theorem lw_p35 : lw_okq (⟨"GuestStars$Rules", "product", "(JJ)J"⟩, 5) := ⟨⟨by decide +kernel, by decide +kernel⟩, List.mem_of_getElem? (i := 265) (by decide +kernel), List.mem_of_getElem? (i := 959) (by decide +kernel), List.mem_of_getElem? (i := 960) (by decide +kernel)⟩
theorem lw_p36 : lw_okq (⟨"GuestStars$Rules", "quotient", "(JJ)J"⟩, 5) := ⟨⟨by decide +kernel, by decide +kernel⟩, List.mem_of_getElem? (i := 265) (by decide +kernel), List.mem_of_getElem? (i := 966) (by decide +kernel), List.mem_of_getElem? (i := 967) (by decide +kernel)⟩
theorem lw_p37 : lw_okq (⟨"GuestStars", "isSort", "(I)Z"⟩, 10) := ⟨⟨by decide +kernel, by decide +kernel⟩, List.mem_of_getElem? (i := 28) (by decide +kernel), List.mem_of_getElem? (i := 990) (by decide +kernel), List.mem_of_getElem? (i := 991) (by decide +kernel)⟩
theorem lw_p38 : lw_okq (⟨"GuestStars", "isCloud", "(I)Z"⟩, 10) := ⟨⟨by decide +kernel, by decide +kernel⟩, List.mem_of_getElem? (i := 28) (by decide +kernel), List.mem_of_getElem? (i := 1013) (by decide +kernel), List.mem_of_getElem? (i := 1014) (by decide +kernel)⟩
theorem lw_p39 : lw_okq (⟨"GuestStars$Tale", "readingToll", "(LGuestStars$Guest;LGuestStars$Cloud;I)I"⟩, 14) := ⟨⟨by decide +kernel, by decide +kernel⟩, List.mem_of_getElem? (i := 233) (by decide +kernel), List.mem_of_getElem? (i := 1039) (by decide +kernel), List.mem_of_getElem? (i := 1040) (by decide +kernel)⟩
theorem lw_p40 : lw_okq (⟨"GuestStars", "reckonPairs", "()V"⟩, 10) := ⟨⟨by decide +kernel, by decide +kernel⟩, List.mem_of_getElem? (i := 28) (by decide +kernel), List.mem_of_getElem? (i := 1067) (by decide +kernel), List.mem_of_getElem? (i := 1068) (by decide +kernel)⟩
theorem lw_p41 : lw_okq (⟨"GuestStars", "trusted", "()I"⟩, 10) := ⟨⟨by decide +kernel, by decide +kernel⟩, List.mem_of_getElem? (i := 28) (by decide +kernel), List.mem_of_getElem? (i := 1071) (by decide +kernel), List.mem_of_getElem? (i := 1072) (by decide +kernel)⟩
theorem lw_p42 : lw_okq (⟨"GuestStars$Pairing", "seatGuest", "(I)V"⟩, 15) := ⟨⟨by decide +kernel, by decide +kernel⟩, List.mem_of_getElem? (i := 165) (by decide +kernel), List.mem_of_getElem? (i := 1086) (by decide +kernel), List.mem_of_getElem? (i := 1087) (by decide +kernel)⟩
theorem lw_p43 : lw_okq (⟨"GuestStars$Pairing", "reachFrom", "(II)I"⟩, 15) := ⟨⟨by decide +kernel, by decide +kernel⟩, List.mem_of_getElem? (i := 165) (by decide +kernel), List.mem_of_getElem? (i := 1091) (by decide +kernel), List.mem_of_getElem? (i := 1092) (by decide +kernel)⟩
theorem lw_p44 : lw_okq (⟨"GuestStars$Pairing", "costOf", "(II)J"⟩, 15) := ⟨⟨by decide +kernel, by decide +kernel⟩, List.mem_of_getElem? (i := 165) (by decide +kernel), List.mem_of_getElem? (i := 1095) (by decide +kernel), List.mem_of_getElem? (i := 1096) (by decide +kernel)⟩
theorem lw_p45 : lw_okq (⟨"GuestStars$Pairing", "isAble", "(II)Z"⟩, 15) := ⟨⟨by decide +kernel, by decide +kernel⟩, List.mem_of_getElem? (i := 165) (by decide +kernel), List.mem_of_getElem? (i := 1102) (by decide +kernel), List.mem_of_getElem? (i := 1103) (by decide +kernel)⟩
theorem lw_p46 : lw_okq (⟨"GuestStars$Pairing", "liftBy", "(JI)V"⟩, 15) := ⟨⟨by decide +kernel, by decide +kernel⟩, List.mem_of_getElem? (i := 165) (by decide +kernel), List.mem_of_getElem? (i := 1108) (by decide +kernel), List.mem_of_getElem? (i := 1109) (by decide +kernel)⟩
theorem lw_p47 : lw_okq (⟨"GuestStars$Pairing", "keepPairs", "()V"⟩, 15) := ⟨⟨by decide +kernel, by decide +kernel⟩, List.mem_of_getElem? (i := 165) (by decide +kernel), List.mem_of_getElem? (i := 1112) (by decide +kernel), List.mem_of_getElem? (i := 1113) (by decide +kernel)⟩
def lw_privs_3 : List (MethodName × Nat) := [(⟨"GuestStars$Tale", "sortValue", "(LGuestStars$Guest;I)J"⟩, 14), (⟨"GuestStars$Rules", "apply", "(IJJ)J"⟩, 5), (⟨"GuestStars$Rules", "within", "(J)J"⟩, 5), (⟨"GuestStars$Rules", "product", "(JJ)J"⟩, 5), (⟨"GuestStars$Rules", "quotient", "(JJ)J"⟩, 5), (⟨"GuestStars", "isSort", "(I)Z"⟩, 10), (⟨"GuestStars", "isCloud", "(I)Z"⟩, 10), (⟨"GuestStars$Tale", "readingToll", "(LGuestStars$Guest;LGuestStars$Cloud;I)I"⟩, 14), (⟨"GuestStars", "reckonPairs", "()V"⟩, 10), (⟨"GuestStars", "trusted", "()I"⟩, 10), (⟨"GuestStars$Pairing", "seatGuest", "(I)V"⟩, 15), (⟨"GuestStars$Pairing", "reachFrom", "(II)I"⟩, 15), (⟨"GuestStars$Pairing", "costOf", "(II)J"⟩, 15), (⟨"GuestStars$Pairing", "isAble", "(II)Z"⟩, 15), (⟨"GuestStars$Pairing", "liftBy", "(JI)V"⟩, 15), (⟨"GuestStars$Pairing", "keepPairs", "()V"⟩, 15)]
theorem lw_r3 : ∀ q ∈ lw_privs_3, lw_okq q := List.forall_mem_cons.mpr ⟨lw_p32, List.forall_mem_cons.mpr ⟨lw_p33, List.forall_mem_cons.mpr ⟨lw_p34, List.forall_mem_cons.mpr ⟨lw_p35, List.forall_mem_cons.mpr ⟨lw_p36, List.forall_mem_cons.mpr ⟨lw_p37, List.forall_mem_cons.mpr ⟨lw_p38, List.forall_mem_cons.mpr ⟨lw_p39, List.forall_mem_cons.mpr ⟨lw_p40, List.forall_mem_cons.mpr ⟨lw_p41, List.forall_mem_cons.mpr ⟨lw_p42, List.forall_mem_cons.mpr ⟨lw_p43, List.forall_mem_cons.mpr ⟨lw_p44, List.forall_mem_cons.mpr ⟨lw_p45, List.forall_mem_cons.mpr ⟨lw_p46, List.forall_mem_cons.mpr ⟨lw_p47, fun _ h => absurd h List.not_mem_nil⟩⟩⟩⟩⟩⟩⟩⟩⟩⟩⟩⟩⟩⟩⟩⟩
theorem lw_p48 : lw_okq (⟨"GuestStars", "reckonEvents", "()V"⟩, 10) := ⟨⟨by decide +kernel, by decide +kernel⟩, List.mem_of_getElem? (i := 28) (by decide +kernel), List.mem_of_getElem? (i := 1138) (by decide +kernel), List.mem_of_getElem? (i := 1139) (by decide +kernel)⟩
theorem lw_p49 : lw_okq (⟨"GuestStars$Events", "join", "(II)V"⟩, 1) := ⟨⟨by decide +kernel, by decide +kernel⟩, List.mem_of_getElem? (i := 222) (by decide +kernel), List.mem_of_getElem? (i := 1147) (by decide +kernel), List.mem_of_getElem? (i := 1148) (by decide +kernel)⟩
theorem lw_p50 : lw_okq (⟨"GuestStars", "isBook", "(I)Z"⟩, 10) := ⟨⟨by decide +kernel, by decide +kernel⟩, List.mem_of_getElem? (i := 28) (by decide +kernel), List.mem_of_getElem? (i := 1183) (by decide +kernel), List.mem_of_getElem? (i := 1184) (by decide +kernel)⟩
theorem lw_p51 : lw_okq (⟨"GuestStars", "isDoubted", "(I)Z"⟩, 10) := ⟨⟨by decide +kernel, by decide +kernel⟩, List.mem_of_getElem? (i := 28) (by decide +kernel), List.mem_of_getElem? (i := 1302) (by decide +kernel), List.mem_of_getElem? (i := 1303) (by decide +kernel)⟩
theorem lw_p52 : lw_okq (⟨"GuestStars", "roll", "()I"⟩, 10) := ⟨⟨by decide +kernel, by decide +kernel⟩, List.mem_of_getElem? (i := 28) (by decide +kernel), List.mem_of_getElem? (i := 1314) (by decide +kernel), List.mem_of_getElem? (i := 1315) (by decide +kernel)⟩
theorem lw_p53 : lw_okq (⟨"GuestStars", "drawPlaces", "()V"⟩, 10) := ⟨⟨by decide +kernel, by decide +kernel⟩, List.mem_of_getElem? (i := 28) (by decide +kernel), List.mem_of_getElem? (i := 1329) (by decide +kernel), List.mem_of_getElem? (i := 1330) (by decide +kernel)⟩
theorem lw_p54 : lw_okq (⟨"GuestStars$Pairing", "findsCloud", "(II)Z"⟩, 15) := ⟨⟨by decide +kernel, by decide +kernel⟩, List.mem_of_getElem? (i := 165) (by decide +kernel), List.mem_of_getElem? (i := 1341) (by decide +kernel), List.mem_of_getElem? (i := 1342) (by decide +kernel)⟩
theorem lw_p55 : lw_okq (⟨"GuestStarsModel", "plain", "()V"⟩, 60) := ⟨⟨by decide +kernel, by decide +kernel⟩, List.mem_of_getElem? (i := 1391) (by decide +kernel), List.mem_of_getElem? (i := 1397) (by decide +kernel), List.mem_of_getElem? (i := 1398) (by decide +kernel)⟩
theorem lw_p56 : lw_okq (⟨"GuestStarsModel", "keep", "()V"⟩, 60) := ⟨⟨by decide +kernel, by decide +kernel⟩, List.mem_of_getElem? (i := 1391) (by decide +kernel), List.mem_of_getElem? (i := 1401) (by decide +kernel), List.mem_of_getElem? (i := 1402) (by decide +kernel)⟩
theorem lw_p57 : lw_okq (⟨"GuestStarsModel", "take", "()V"⟩, 60) := ⟨⟨by decide +kernel, by decide +kernel⟩, List.mem_of_getElem? (i := 1391) (by decide +kernel), List.mem_of_getElem? (i := 1601) (by decide +kernel), List.mem_of_getElem? (i := 1602) (by decide +kernel)⟩
theorem lw_p58 : lw_okq (⟨"GuestStarsModel", "isSmall", "(I)Z"⟩, 60) := ⟨⟨by decide +kernel, by decide +kernel⟩, List.mem_of_getElem? (i := 1391) (by decide +kernel), List.mem_of_getElem? (i := 1605) (by decide +kernel), List.mem_of_getElem? (i := 1606) (by decide +kernel)⟩
theorem lw_p59 : lw_okq (⟨"GuestStarsModel", "wordAt", "(II)I"⟩, 60) := ⟨⟨by decide +kernel, by decide +kernel⟩, List.mem_of_getElem? (i := 1391) (by decide +kernel), List.mem_of_getElem? (i := 1609) (by decide +kernel), List.mem_of_getElem? (i := 1610) (by decide +kernel)⟩
theorem lw_p60 : lw_okq (⟨"GuestStarsModel", "packed", "(II)I"⟩, 60) := ⟨⟨by decide +kernel, by decide +kernel⟩, List.mem_of_getElem? (i := 1391) (by decide +kernel), List.mem_of_getElem? (i := 1613) (by decide +kernel), List.mem_of_getElem? (i := 1614) (by decide +kernel)⟩
theorem lw_p61 : lw_okq (⟨"GuestStarsModel", "isDigit", "(I)Z"⟩, 60) := ⟨⟨by decide +kernel, by decide +kernel⟩, List.mem_of_getElem? (i := 1391) (by decide +kernel), List.mem_of_getElem? (i := 1617) (by decide +kernel), List.mem_of_getElem? (i := 1618) (by decide +kernel)⟩
theorem lw_p62 : lw_okq (⟨"GuestStarsModel", "takeSign", "()V"⟩, 60) := ⟨⟨by decide +kernel, by decide +kernel⟩, List.mem_of_getElem? (i := 1391) (by decide +kernel), List.mem_of_getElem? (i := 1621) (by decide +kernel), List.mem_of_getElem? (i := 1622) (by decide +kernel)⟩
theorem lw_p63 : lw_okq (⟨"GuestStarsModel", "lineRead", "()Z"⟩, 60) := ⟨⟨by decide +kernel, by decide +kernel⟩, List.mem_of_getElem? (i := 1391) (by decide +kernel), List.mem_of_getElem? (i := 1625) (by decide +kernel), List.mem_of_getElem? (i := 1626) (by decide +kernel)⟩
def lw_privs_4 : List (MethodName × Nat) := [(⟨"GuestStars", "reckonEvents", "()V"⟩, 10), (⟨"GuestStars$Events", "join", "(II)V"⟩, 1), (⟨"GuestStars", "isBook", "(I)Z"⟩, 10), (⟨"GuestStars", "isDoubted", "(I)Z"⟩, 10), (⟨"GuestStars", "roll", "()I"⟩, 10), (⟨"GuestStars", "drawPlaces", "()V"⟩, 10), (⟨"GuestStars$Pairing", "findsCloud", "(II)Z"⟩, 15), (⟨"GuestStarsModel", "plain", "()V"⟩, 60), (⟨"GuestStarsModel", "keep", "()V"⟩, 60), (⟨"GuestStarsModel", "take", "()V"⟩, 60), (⟨"GuestStarsModel", "isSmall", "(I)Z"⟩, 60), (⟨"GuestStarsModel", "wordAt", "(II)I"⟩, 60), (⟨"GuestStarsModel", "packed", "(II)I"⟩, 60), (⟨"GuestStarsModel", "isDigit", "(I)Z"⟩, 60), (⟨"GuestStarsModel", "takeSign", "()V"⟩, 60), (⟨"GuestStarsModel", "lineRead", "()Z"⟩, 60)]
theorem lw_r4 : ∀ q ∈ lw_privs_4, lw_okq q := List.forall_mem_cons.mpr ⟨lw_p48, List.forall_mem_cons.mpr ⟨lw_p49, List.forall_mem_cons.mpr ⟨lw_p50, List.forall_mem_cons.mpr ⟨lw_p51, List.forall_mem_cons.mpr ⟨lw_p52, List.forall_mem_cons.mpr ⟨lw_p53, List.forall_mem_cons.mpr ⟨lw_p54, List.forall_mem_cons.mpr ⟨lw_p55, List.forall_mem_cons.mpr ⟨lw_p56, List.forall_mem_cons.mpr ⟨lw_p57, List.forall_mem_cons.mpr ⟨lw_p58, List.forall_mem_cons.mpr ⟨lw_p59, List.forall_mem_cons.mpr ⟨lw_p60, List.forall_mem_cons.mpr ⟨lw_p61, List.forall_mem_cons.mpr ⟨lw_p62, List.forall_mem_cons.mpr ⟨lw_p63, fun _ h => absurd h List.not_mem_nil⟩⟩⟩⟩⟩⟩⟩⟩⟩⟩⟩⟩⟩⟩⟩⟩
theorem lw_p64 : lw_okq (⟨"GuestStarsModel", "wrong", "(I)Z"⟩, 60) := ⟨⟨by decide +kernel, by decide +kernel⟩, List.mem_of_getElem? (i := 1391) (by decide +kernel), List.mem_of_getElem? (i := 1629) (by decide +kernel), List.mem_of_getElem? (i := 1630) (by decide +kernel)⟩
theorem lw_p65 : lw_okq (⟨"GuestStarsModel", "reignLine", "()Z"⟩, 60) := ⟨⟨by decide +kernel, by decide +kernel⟩, List.mem_of_getElem? (i := 1391) (by decide +kernel), List.mem_of_getElem? (i := 1636) (by decide +kernel), List.mem_of_getElem? (i := 1637) (by decide +kernel)⟩
theorem lw_p66 : lw_okq (⟨"GuestStarsModel", "newName", "([III)Z"⟩, 60) := ⟨⟨by decide +kernel, by decide +kernel⟩, List.mem_of_getElem? (i := 1391) (by decide +kernel), List.mem_of_getElem? (i := 1640) (by decide +kernel), List.mem_of_getElem? (i := 1641) (by decide +kernel)⟩
theorem lw_p67 : lw_okq (⟨"GuestStarsModel", "find", "([IIII)I"⟩, 60) := ⟨⟨by decide +kernel, by decide +kernel⟩, List.mem_of_getElem? (i := 1391) (by decide +kernel), List.mem_of_getElem? (i := 1644) (by decide +kernel), List.mem_of_getElem? (i := 1645) (by decide +kernel)⟩
theorem lw_p68 : lw_okq (⟨"GuestStarsModel", "number", "(II)Z"⟩, 60) := ⟨⟨by decide +kernel, by decide +kernel⟩, List.mem_of_getElem? (i := 1391) (by decide +kernel), List.mem_of_getElem? (i := 1648) (by decide +kernel), List.mem_of_getElem? (i := 1649) (by decide +kernel)⟩
theorem lw_p69 : lw_okq (⟨"GuestStarsModel", "gateLine", "()Z"⟩, 60) := ⟨⟨by decide +kernel, by decide +kernel⟩, List.mem_of_getElem? (i := 1391) (by decide +kernel), List.mem_of_getElem? (i := 1655) (by decide +kernel), List.mem_of_getElem? (i := 1656) (by decide +kernel)⟩
theorem lw_p70 : lw_okq (⟨"GuestStarsModel", "bookLine", "()Z"⟩, 60) := ⟨⟨by decide +kernel, by decide +kernel⟩, List.mem_of_getElem? (i := 1391) (by decide +kernel), List.mem_of_getElem? (i := 1659) (by decide +kernel), List.mem_of_getElem? (i := 1660) (by decide +kernel)⟩
theorem lw_p71 : lw_okq (⟨"GuestStarsModel", "isKey", "(I)Z"⟩, 60) := ⟨⟨by decide +kernel, by decide +kernel⟩, List.mem_of_getElem? (i := 1391) (by decide +kernel), List.mem_of_getElem? (i := 1663) (by decide +kernel), List.mem_of_getElem? (i := 1664) (by decide +kernel)⟩
theorem lw_p72 : lw_okq (⟨"GuestStarsModel", "oldName", "([III)Z"⟩, 60) := ⟨⟨by decide +kernel, by decide +kernel⟩, List.mem_of_getElem? (i := 1391) (by decide +kernel), List.mem_of_getElem? (i := 1667) (by decide +kernel), List.mem_of_getElem? (i := 1668) (by decide +kernel)⟩
theorem lw_p73 : lw_okq (⟨"GuestStarsModel", "guestLine", "(Z)Z"⟩, 60) := ⟨⟨by decide +kernel, by decide +kernel⟩, List.mem_of_getElem? (i := 1391) (by decide +kernel), List.mem_of_getElem? (i := 1671) (by decide +kernel), List.mem_of_getElem? (i := 1672) (by decide +kernel)⟩
theorem lw_p74 : lw_okq (⟨"GuestStarsModel", "newGuest", "()I"⟩, 60) := ⟨⟨by decide +kernel, by decide +kernel⟩, List.mem_of_getElem? (i := 1391) (by decide +kernel), List.mem_of_getElem? (i := 1675) (by decide +kernel), List.mem_of_getElem? (i := 1676) (by decide +kernel)⟩
theorem lw_p75 : lw_okq (⟨"GuestStarsModel", "plainGuest", "(I)V"⟩, 60) := ⟨⟨by decide +kernel, by decide +kernel⟩, List.mem_of_getElem? (i := 1391) (by decide +kernel), List.mem_of_getElem? (i := 1679) (by decide +kernel), List.mem_of_getElem? (i := 1680) (by decide +kernel)⟩
theorem lw_p76 : lw_okq (⟨"GuestStarsModel", "guestWord", "()I"⟩, 60) := ⟨⟨by decide +kernel, by decide +kernel⟩, List.mem_of_getElem? (i := 1391) (by decide +kernel), List.mem_of_getElem? (i := 1683) (by decide +kernel), List.mem_of_getElem? (i := 1684) (by decide +kernel)⟩
theorem lw_p77 : lw_okq (⟨"GuestStarsModel", "guestHas", "(II)Z"⟩, 60) := ⟨⟨by decide +kernel, by decide +kernel⟩, List.mem_of_getElem? (i := 1391) (by decide +kernel), List.mem_of_getElem? (i := 1687) (by decide +kernel), List.mem_of_getElem? (i := 1688) (by decide +kernel)⟩
theorem lw_p78 : lw_okq (⟨"GuestStarsModel", "nearRead", "(I)Z"⟩, 60) := ⟨⟨by decide +kernel, by decide +kernel⟩, List.mem_of_getElem? (i := 1391) (by decide +kernel), List.mem_of_getElem? (i := 1691) (by decide +kernel), List.mem_of_getElem? (i := 1692) (by decide +kernel)⟩
theorem lw_p79 : lw_okq (⟨"GuestStarsModel", "kept", "(III)Z"⟩, 60) := ⟨⟨by decide +kernel, by decide +kernel⟩, List.mem_of_getElem? (i := 1391) (by decide +kernel), List.mem_of_getElem? (i := 1695) (by decide +kernel), List.mem_of_getElem? (i := 1696) (by decide +kernel)⟩
def lw_privs_5 : List (MethodName × Nat) := [(⟨"GuestStarsModel", "wrong", "(I)Z"⟩, 60), (⟨"GuestStarsModel", "reignLine", "()Z"⟩, 60), (⟨"GuestStarsModel", "newName", "([III)Z"⟩, 60), (⟨"GuestStarsModel", "find", "([IIII)I"⟩, 60), (⟨"GuestStarsModel", "number", "(II)Z"⟩, 60), (⟨"GuestStarsModel", "gateLine", "()Z"⟩, 60), (⟨"GuestStarsModel", "bookLine", "()Z"⟩, 60), (⟨"GuestStarsModel", "isKey", "(I)Z"⟩, 60), (⟨"GuestStarsModel", "oldName", "([III)Z"⟩, 60), (⟨"GuestStarsModel", "guestLine", "(Z)Z"⟩, 60), (⟨"GuestStarsModel", "newGuest", "()I"⟩, 60), (⟨"GuestStarsModel", "plainGuest", "(I)V"⟩, 60), (⟨"GuestStarsModel", "guestWord", "()I"⟩, 60), (⟨"GuestStarsModel", "guestHas", "(II)Z"⟩, 60), (⟨"GuestStarsModel", "nearRead", "(I)Z"⟩, 60), (⟨"GuestStarsModel", "kept", "(III)Z"⟩, 60)]
theorem lw_r5 : ∀ q ∈ lw_privs_5, lw_okq q := List.forall_mem_cons.mpr ⟨lw_p64, List.forall_mem_cons.mpr ⟨lw_p65, List.forall_mem_cons.mpr ⟨lw_p66, List.forall_mem_cons.mpr ⟨lw_p67, List.forall_mem_cons.mpr ⟨lw_p68, List.forall_mem_cons.mpr ⟨lw_p69, List.forall_mem_cons.mpr ⟨lw_p70, List.forall_mem_cons.mpr ⟨lw_p71, List.forall_mem_cons.mpr ⟨lw_p72, List.forall_mem_cons.mpr ⟨lw_p73, List.forall_mem_cons.mpr ⟨lw_p74, List.forall_mem_cons.mpr ⟨lw_p75, List.forall_mem_cons.mpr ⟨lw_p76, List.forall_mem_cons.mpr ⟨lw_p77, List.forall_mem_cons.mpr ⟨lw_p78, List.forall_mem_cons.mpr ⟨lw_p79, fun _ h => absurd h List.not_mem_nil⟩⟩⟩⟩⟩⟩⟩⟩⟩⟩⟩⟩⟩⟩⟩⟩
theorem lw_p80 : lw_okq (⟨"GuestStarsModel", "isSide", "()Z"⟩, 60) := ⟨⟨by decide +kernel, by decide +kernel⟩, List.mem_of_getElem? (i := 1391) (by decide +kernel), List.mem_of_getElem? (i := 1699) (by decide +kernel), List.mem_of_getElem? (i := 1700) (by decide +kernel)⟩
theorem lw_p81 : lw_okq (⟨"GuestStarsModel", "cloudLine", "()Z"⟩, 60) := ⟨⟨by decide +kernel, by decide +kernel⟩, List.mem_of_getElem? (i := 1391) (by decide +kernel), List.mem_of_getElem? (i := 1703) (by decide +kernel), List.mem_of_getElem? (i := 1704) (by decide +kernel)⟩
theorem lw_p82 : lw_okq (⟨"GuestStarsModel", "sortLine", "()Z"⟩, 60) := ⟨⟨by decide +kernel, by decide +kernel⟩, List.mem_of_getElem? (i := 1391) (by decide +kernel), List.mem_of_getElem? (i := 1707) (by decide +kernel), List.mem_of_getElem? (i := 1708) (by decide +kernel)⟩
theorem lw_p83 : lw_okq (⟨"GuestStarsModel", "sumRead", "()Z"⟩, 60) := ⟨⟨by decide +kernel, by decide +kernel⟩, List.mem_of_getElem? (i := 1391) (by decide +kernel), List.mem_of_getElem? (i := 1711) (by decide +kernel), List.mem_of_getElem? (i := 1712) (by decide +kernel)⟩
theorem lw_p84 : lw_okq (⟨"GuestStarsModel", "isSign", "(I)Z"⟩, 60) := ⟨⟨by decide +kernel, by decide +kernel⟩, List.mem_of_getElem? (i := 1391) (by decide +kernel), List.mem_of_getElem? (i := 1715) (by decide +kernel), List.mem_of_getElem? (i := 1716) (by decide +kernel)⟩
theorem lw_p85 : lw_okq (⟨"GuestStarsModel", "leafRead", "()Z"⟩, 60) := ⟨⟨by decide +kernel, by decide +kernel⟩, List.mem_of_getElem? (i := 1391) (by decide +kernel), List.mem_of_getElem? (i := 1719) (by decide +kernel), List.mem_of_getElem? (i := 1720) (by decide +kernel)⟩
theorem lw_p86 : lw_okq (⟨"GuestStarsModel", "waitsFor", "(I)V"⟩, 60) := ⟨⟨by decide +kernel, by decide +kernel⟩, List.mem_of_getElem? (i := 1391) (by decide +kernel), List.mem_of_getElem? (i := 1723) (by decide +kernel), List.mem_of_getElem? (i := 1724) (by decide +kernel)⟩
theorem lw_p87 : lw_okq (⟨"GuestStarsModel", "isCounted", "()Z"⟩, 60) := ⟨⟨by decide +kernel, by decide +kernel⟩, List.mem_of_getElem? (i := 1391) (by decide +kernel), List.mem_of_getElem? (i := 1727) (by decide +kernel), List.mem_of_getElem? (i := 1728) (by decide +kernel)⟩
theorem lw_p88 : lw_okq (⟨"GuestStarsModel", "grown", "(III)V"⟩, 60) := ⟨⟨by decide +kernel, by decide +kernel⟩, List.mem_of_getElem? (i := 1391) (by decide +kernel), List.mem_of_getElem? (i := 1731) (by decide +kernel), List.mem_of_getElem? (i := 1732) (by decide +kernel)⟩
theorem lw_p89 : lw_okq (⟨"GuestStarsModel", "signs", "()Z"⟩, 60) := ⟨⟨by decide +kernel, by decide +kernel⟩, List.mem_of_getElem? (i := 1391) (by decide +kernel), List.mem_of_getElem? (i := 1735) (by decide +kernel), List.mem_of_getElem? (i := 1736) (by decide +kernel)⟩
theorem lw_p90 : lw_okq (⟨"GuestStarsModel", "bind", "(I)V"⟩, 60) := ⟨⟨by decide +kernel, by decide +kernel⟩, List.mem_of_getElem? (i := 1391) (by decide +kernel), List.mem_of_getElem? (i := 1739) (by decide +kernel), List.mem_of_getElem? (i := 1740) (by decide +kernel)⟩
theorem lw_p91 : lw_okq (⟨"GuestStarsModel", "dropHeld", "()I"⟩, 60) := ⟨⟨by decide +kernel, by decide +kernel⟩, List.mem_of_getElem? (i := 1391) (by decide +kernel), List.mem_of_getElem? (i := 1746) (by decide +kernel), List.mem_of_getElem? (i := 1747) (by decide +kernel)⟩
theorem lw_p92 : lw_okq (⟨"GuestStarsModel", "watchLine", "()Z"⟩, 60) := ⟨⟨by decide +kernel, by decide +kernel⟩, List.mem_of_getElem? (i := 1391) (by decide +kernel), List.mem_of_getElem? (i := 1750) (by decide +kernel), List.mem_of_getElem? (i := 1751) (by decide +kernel)⟩
theorem lw_p93 : lw_okq (⟨"GuestStarsModel", "ruleLine", "(I)Z"⟩, 60) := ⟨⟨by decide +kernel, by decide +kernel⟩, List.mem_of_getElem? (i := 1391) (by decide +kernel), List.mem_of_getElem? (i := 1754) (by decide +kernel), List.mem_of_getElem? (i := 1755) (by decide +kernel)⟩
theorem lw_p94 : lw_okq (⟨"GuestStarsModel", "isGuest", "(I)Z"⟩, 60) := ⟨⟨by decide +kernel, by decide +kernel⟩, List.mem_of_getElem? (i := 1391) (by decide +kernel), List.mem_of_getElem? (i := 1770) (by decide +kernel), List.mem_of_getElem? (i := 1771) (by decide +kernel)⟩
theorem lw_p95 : lw_okq (⟨"GuestStarsModel", "sortOf", "(I)I"⟩, 60) := ⟨⟨by decide +kernel, by decide +kernel⟩, List.mem_of_getElem? (i := 1391) (by decide +kernel), List.mem_of_getElem? (i := 1774) (by decide +kernel), List.mem_of_getElem? (i := 1775) (by decide +kernel)⟩
def lw_privs_6 : List (MethodName × Nat) := [(⟨"GuestStarsModel", "isSide", "()Z"⟩, 60), (⟨"GuestStarsModel", "cloudLine", "()Z"⟩, 60), (⟨"GuestStarsModel", "sortLine", "()Z"⟩, 60), (⟨"GuestStarsModel", "sumRead", "()Z"⟩, 60), (⟨"GuestStarsModel", "isSign", "(I)Z"⟩, 60), (⟨"GuestStarsModel", "leafRead", "()Z"⟩, 60), (⟨"GuestStarsModel", "waitsFor", "(I)V"⟩, 60), (⟨"GuestStarsModel", "isCounted", "()Z"⟩, 60), (⟨"GuestStarsModel", "grown", "(III)V"⟩, 60), (⟨"GuestStarsModel", "signs", "()Z"⟩, 60), (⟨"GuestStarsModel", "bind", "(I)V"⟩, 60), (⟨"GuestStarsModel", "dropHeld", "()I"⟩, 60), (⟨"GuestStarsModel", "watchLine", "()Z"⟩, 60), (⟨"GuestStarsModel", "ruleLine", "(I)Z"⟩, 60), (⟨"GuestStarsModel", "isGuest", "(I)Z"⟩, 60), (⟨"GuestStarsModel", "sortOf", "(I)I"⟩, 60)]
theorem lw_r6 : ∀ q ∈ lw_privs_6, lw_okq q := List.forall_mem_cons.mpr ⟨lw_p80, List.forall_mem_cons.mpr ⟨lw_p81, List.forall_mem_cons.mpr ⟨lw_p82, List.forall_mem_cons.mpr ⟨lw_p83, List.forall_mem_cons.mpr ⟨lw_p84, List.forall_mem_cons.mpr ⟨lw_p85, List.forall_mem_cons.mpr ⟨lw_p86, List.forall_mem_cons.mpr ⟨lw_p87, List.forall_mem_cons.mpr ⟨lw_p88, List.forall_mem_cons.mpr ⟨lw_p89, List.forall_mem_cons.mpr ⟨lw_p90, List.forall_mem_cons.mpr ⟨lw_p91, List.forall_mem_cons.mpr ⟨lw_p92, List.forall_mem_cons.mpr ⟨lw_p93, List.forall_mem_cons.mpr ⟨lw_p94, List.forall_mem_cons.mpr ⟨lw_p95, fun _ h => absurd h List.not_mem_nil⟩⟩⟩⟩⟩⟩⟩⟩⟩⟩⟩⟩⟩⟩⟩⟩
theorem lw_p96 : lw_okq (⟨"GuestStarsModel", "sumFor", "(II)J"⟩, 60) := ⟨⟨by decide +kernel, by decide +kernel⟩, List.mem_of_getElem? (i := 1391) (by decide +kernel), List.mem_of_getElem? (i := 1778) (by decide +kernel), List.mem_of_getElem? (i := 1779) (by decide +kernel)⟩
theorem lw_p97 : lw_okq (⟨"GuestStarsModel", "valueOf", "(I)J"⟩, 60) := ⟨⟨by decide +kernel, by decide +kernel⟩, List.mem_of_getElem? (i := 1391) (by decide +kernel), List.mem_of_getElem? (i := 1782) (by decide +kernel), List.mem_of_getElem? (i := 1783) (by decide +kernel)⟩
theorem lw_p98 : lw_okq (⟨"GuestStarsModel", "bounded", "(J)J"⟩, 60) := ⟨⟨by decide +kernel, by decide +kernel⟩, List.mem_of_getElem? (i := 1391) (by decide +kernel), List.mem_of_getElem? (i := 1786) (by decide +kernel), List.mem_of_getElem? (i := 1787) (by decide +kernel)⟩
theorem lw_p99 : lw_okq (⟨"GuestStarsModel", "times", "(JJ)J"⟩, 60) := ⟨⟨by decide +kernel, by decide +kernel⟩, List.mem_of_getElem? (i := 1391) (by decide +kernel), List.mem_of_getElem? (i := 1792) (by decide +kernel), List.mem_of_getElem? (i := 1793) (by decide +kernel)⟩
theorem lw_p100 : lw_okq (⟨"GuestStarsModel", "oddsOf", "(II)J"⟩, 60) := ⟨⟨by decide +kernel, by decide +kernel⟩, List.mem_of_getElem? (i := 1391) (by decide +kernel), List.mem_of_getElem? (i := 1804) (by decide +kernel), List.mem_of_getElem? (i := 1805) (by decide +kernel)⟩
theorem lw_p101 : lw_okq (⟨"GuestStarsModel", "fails", "(I)I"⟩, 60) := ⟨⟨by decide +kernel, by decide +kernel⟩, List.mem_of_getElem? (i := 1391) (by decide +kernel), List.mem_of_getElem? (i := 1819) (by decide +kernel), List.mem_of_getElem? (i := 1820) (by decide +kernel)⟩
theorem lw_p102 : lw_okq (⟨"GuestStarsModel", "roundOf", "(I)I"⟩, 60) := ⟨⟨by decide +kernel, by decide +kernel⟩, List.mem_of_getElem? (i := 1391) (by decide +kernel), List.mem_of_getElem? (i := 1831) (by decide +kernel), List.mem_of_getElem? (i := 1832) (by decide +kernel)⟩
theorem lw_p103 : lw_okq (⟨"GuestStarsModel", "dayOf", "(I)I"⟩, 60) := ⟨⟨by decide +kernel, by decide +kernel⟩, List.mem_of_getElem? (i := 1391) (by decide +kernel), List.mem_of_getElem? (i := 1839) (by decide +kernel), List.mem_of_getElem? (i := 1840) (by decide +kernel)⟩
theorem lw_p104 : lw_okq (⟨"GuestStarsModel", "isRock", "(I)Z"⟩, 60) := ⟨⟨by decide +kernel, by decide +kernel⟩, List.mem_of_getElem? (i := 1391) (by decide +kernel), List.mem_of_getElem? (i := 1843) (by decide +kernel), List.mem_of_getElem? (i := 1844) (by decide +kernel)⟩
theorem lw_p105 : lw_okq (⟨"GuestStarsModel", "dayIn", "(III)I"⟩, 60) := ⟨⟨by decide +kernel, by decide +kernel⟩, List.mem_of_getElem? (i := 1391) (by decide +kernel), List.mem_of_getElem? (i := 1847) (by decide +kernel), List.mem_of_getElem? (i := 1848) (by decide +kernel)⟩
theorem lw_p106 : lw_okq (⟨"GuestStarsModel", "monthsOf", "(I)I"⟩, 60) := ⟨⟨by decide +kernel, by decide +kernel⟩, List.mem_of_getElem? (i := 1391) (by decide +kernel), List.mem_of_getElem? (i := 1858) (by decide +kernel), List.mem_of_getElem? (i := 1859) (by decide +kernel)⟩
theorem lw_p107 : lw_okq (⟨"GuestStarsModel", "yearsOf", "(II)I"⟩, 60) := ⟨⟨by decide +kernel, by decide +kernel⟩, List.mem_of_getElem? (i := 1391) (by decide +kernel), List.mem_of_getElem? (i := 1866) (by decide +kernel), List.mem_of_getElem? (i := 1867) (by decide +kernel)⟩
theorem lw_p108 : lw_okq (⟨"GuestStarsModel", "hasGate", "(I)Z"⟩, 60) := ⟨⟨by decide +kernel, by decide +kernel⟩, List.mem_of_getElem? (i := 1391) (by decide +kernel), List.mem_of_getElem? (i := 1881) (by decide +kernel), List.mem_of_getElem? (i := 1882) (by decide +kernel)⟩
theorem lw_p109 : lw_okq (⟨"GuestStarsModel", "placeX", "(II)I"⟩, 60) := ⟨⟨by decide +kernel, by decide +kernel⟩, List.mem_of_getElem? (i := 1391) (by decide +kernel), List.mem_of_getElem? (i := 1885) (by decide +kernel), List.mem_of_getElem? (i := 1886) (by decide +kernel)⟩
theorem lw_p110 : lw_okq (⟨"GuestStarsModel", "sideOf", "(II)I"⟩, 60) := ⟨⟨by decide +kernel, by decide +kernel⟩, List.mem_of_getElem? (i := 1391) (by decide +kernel), List.mem_of_getElem? (i := 1889) (by decide +kernel), List.mem_of_getElem? (i := 1890) (by decide +kernel)⟩
theorem lw_p111 : lw_okq (⟨"GuestStarsModel", "placeY", "(II)I"⟩, 60) := ⟨⟨by decide +kernel, by decide +kernel⟩, List.mem_of_getElem? (i := 1391) (by decide +kernel), List.mem_of_getElem? (i := 1893) (by decide +kernel), List.mem_of_getElem? (i := 1894) (by decide +kernel)⟩
def lw_privs_7 : List (MethodName × Nat) := [(⟨"GuestStarsModel", "sumFor", "(II)J"⟩, 60), (⟨"GuestStarsModel", "valueOf", "(I)J"⟩, 60), (⟨"GuestStarsModel", "bounded", "(J)J"⟩, 60), (⟨"GuestStarsModel", "times", "(JJ)J"⟩, 60), (⟨"GuestStarsModel", "oddsOf", "(II)J"⟩, 60), (⟨"GuestStarsModel", "fails", "(I)I"⟩, 60), (⟨"GuestStarsModel", "roundOf", "(I)I"⟩, 60), (⟨"GuestStarsModel", "dayOf", "(I)I"⟩, 60), (⟨"GuestStarsModel", "isRock", "(I)Z"⟩, 60), (⟨"GuestStarsModel", "dayIn", "(III)I"⟩, 60), (⟨"GuestStarsModel", "monthsOf", "(I)I"⟩, 60), (⟨"GuestStarsModel", "yearsOf", "(II)I"⟩, 60), (⟨"GuestStarsModel", "hasGate", "(I)Z"⟩, 60), (⟨"GuestStarsModel", "placeX", "(II)I"⟩, 60), (⟨"GuestStarsModel", "sideOf", "(II)I"⟩, 60), (⟨"GuestStarsModel", "placeY", "(II)I"⟩, 60)]
theorem lw_r7 : ∀ q ∈ lw_privs_7, lw_okq q := List.forall_mem_cons.mpr ⟨lw_p96, List.forall_mem_cons.mpr ⟨lw_p97, List.forall_mem_cons.mpr ⟨lw_p98, List.forall_mem_cons.mpr ⟨lw_p99, List.forall_mem_cons.mpr ⟨lw_p100, List.forall_mem_cons.mpr ⟨lw_p101, List.forall_mem_cons.mpr ⟨lw_p102, List.forall_mem_cons.mpr ⟨lw_p103, List.forall_mem_cons.mpr ⟨lw_p104, List.forall_mem_cons.mpr ⟨lw_p105, List.forall_mem_cons.mpr ⟨lw_p106, List.forall_mem_cons.mpr ⟨lw_p107, List.forall_mem_cons.mpr ⟨lw_p108, List.forall_mem_cons.mpr ⟨lw_p109, List.forall_mem_cons.mpr ⟨lw_p110, List.forall_mem_cons.mpr ⟨lw_p111, fun _ h => absurd h List.not_mem_nil⟩⟩⟩⟩⟩⟩⟩⟩⟩⟩⟩⟩⟩⟩⟩⟩
theorem lw_p112 : lw_okq (⟨"GuestStarsModel", "isCloud", "(I)Z"⟩, 60) := ⟨⟨by decide +kernel, by decide +kernel⟩, List.mem_of_getElem? (i := 1391) (by decide +kernel), List.mem_of_getElem? (i := 1901) (by decide +kernel), List.mem_of_getElem? (i := 1902) (by decide +kernel)⟩
theorem lw_p113 : lw_okq (⟨"GuestStarsModel", "layCloud", "(I)V"⟩, 60) := ⟨⟨by decide +kernel, by decide +kernel⟩, List.mem_of_getElem? (i := 1391) (by decide +kernel), List.mem_of_getElem? (i := 1906) (by decide +kernel), List.mem_of_getElem? (i := 1907) (by decide +kernel)⟩
theorem lw_p114 : lw_okq (⟨"GuestStarsModel", "layBorn", "(IIIII)V"⟩, 60) := ⟨⟨by decide +kernel, by decide +kernel⟩, List.mem_of_getElem? (i := 1391) (by decide +kernel), List.mem_of_getElem? (i := 1910) (by decide +kernel), List.mem_of_getElem? (i := 1911) (by decide +kernel)⟩
theorem lw_p115 : lw_okq (⟨"GuestStarsModel", "tollOf", "(II)I"⟩, 60) := ⟨⟨by decide +kernel, by decide +kernel⟩, List.mem_of_getElem? (i := 1391) (by decide +kernel), List.mem_of_getElem? (i := 1924) (by decide +kernel), List.mem_of_getElem? (i := 1925) (by decide +kernel)⟩
theorem lw_p116 : lw_okq (⟨"GuestStarsModel", "placeToll", "(II)I"⟩, 60) := ⟨⟨by decide +kernel, by decide +kernel⟩, List.mem_of_getElem? (i := 1391) (by decide +kernel), List.mem_of_getElem? (i := 1928) (by decide +kernel), List.mem_of_getElem? (i := 1929) (by decide +kernel)⟩
theorem lw_p117 : lw_okq (⟨"GuestStarsModel", "layPairs", "()V"⟩, 60) := ⟨⟨by decide +kernel, by decide +kernel⟩, List.mem_of_getElem? (i := 1391) (by decide +kernel), List.mem_of_getElem? (i := 1949) (by decide +kernel), List.mem_of_getElem? (i := 1950) (by decide +kernel)⟩
theorem lw_p118 : lw_okq (⟨"GuestStarsModel", "layTolls", "()V"⟩, 60) := ⟨⟨by decide +kernel, by decide +kernel⟩, List.mem_of_getElem? (i := 1391) (by decide +kernel), List.mem_of_getElem? (i := 1953) (by decide +kernel), List.mem_of_getElem? (i := 1954) (by decide +kernel)⟩
theorem lw_p119 : lw_okq (⟨"GuestStarsModel", "counts", "(I)Z"⟩, 60) := ⟨⟨by decide +kernel, by decide +kernel⟩, List.mem_of_getElem? (i := 1391) (by decide +kernel), List.mem_of_getElem? (i := 1957) (by decide +kernel), List.mem_of_getElem? (i := 1958) (by decide +kernel)⟩
theorem lw_p120 : lw_okq (⟨"GuestStarsModel", "knownMany", "()I"⟩, 60) := ⟨⟨by decide +kernel, by decide +kernel⟩, List.mem_of_getElem? (i := 1391) (by decide +kernel), List.mem_of_getElem? (i := 1961) (by decide +kernel), List.mem_of_getElem? (i := 1962) (by decide +kernel)⟩
theorem lw_p121 : lw_okq (⟨"GuestStarsModel", "pairMany", "()I"⟩, 60) := ⟨⟨by decide +kernel, by decide +kernel⟩, List.mem_of_getElem? (i := 1391) (by decide +kernel), List.mem_of_getElem? (i := 1967) (by decide +kernel), List.mem_of_getElem? (i := 1968) (by decide +kernel)⟩
theorem lw_p122 : lw_okq (⟨"GuestStarsModel", "isOne", "(II)Z"⟩, 60) := ⟨⟨by decide +kernel, by decide +kernel⟩, List.mem_of_getElem? (i := 1391) (by decide +kernel), List.mem_of_getElem? (i := 1979) (by decide +kernel), List.mem_of_getElem? (i := 1980) (by decide +kernel)⟩
theorem lw_p123 : lw_okq (⟨"GuestStarsModel", "layEvents", "()V"⟩, 60) := ⟨⟨by decide +kernel, by decide +kernel⟩, List.mem_of_getElem? (i := 1391) (by decide +kernel), List.mem_of_getElem? (i := 1991) (by decide +kernel), List.mem_of_getElem? (i := 1992) (by decide +kernel)⟩
theorem lw_p124 : lw_okq (⟨"GuestStarsModel", "slipsOf", "(II)I"⟩, 60) := ⟨⟨by decide +kernel, by decide +kernel⟩, List.mem_of_getElem? (i := 1391) (by decide +kernel), List.mem_of_getElem? (i := 2003) (by decide +kernel), List.mem_of_getElem? (i := 2004) (by decide +kernel)⟩
theorem lw_p125 : lw_okq (⟨"GuestStarsModel", "isFrom", "(II)Z"⟩, 60) := ⟨⟨by decide +kernel, by decide +kernel⟩, List.mem_of_getElem? (i := 1391) (by decide +kernel), List.mem_of_getElem? (i := 2011) (by decide +kernel), List.mem_of_getElem? (i := 2012) (by decide +kernel)⟩
theorem lw_p126 : lw_okq (⟨"GuestStarsModel", "copiedOf", "(I)I"⟩, 60) := ⟨⟨by decide +kernel, by decide +kernel⟩, List.mem_of_getElem? (i := 1391) (by decide +kernel), List.mem_of_getElem? (i := 2019) (by decide +kernel), List.mem_of_getElem? (i := 2020) (by decide +kernel)⟩
theorem lw_p127 : lw_okq (⟨"GuestStarsModel", "goers", "(I)I"⟩, 60) := ⟨⟨by decide +kernel, by decide +kernel⟩, List.mem_of_getElem? (i := 1391) (by decide +kernel), List.mem_of_getElem? (i := 2032) (by decide +kernel), List.mem_of_getElem? (i := 2033) (by decide +kernel)⟩
def lw_privs_8 : List (MethodName × Nat) := [(⟨"GuestStarsModel", "isCloud", "(I)Z"⟩, 60), (⟨"GuestStarsModel", "layCloud", "(I)V"⟩, 60), (⟨"GuestStarsModel", "layBorn", "(IIIII)V"⟩, 60), (⟨"GuestStarsModel", "tollOf", "(II)I"⟩, 60), (⟨"GuestStarsModel", "placeToll", "(II)I"⟩, 60), (⟨"GuestStarsModel", "layPairs", "()V"⟩, 60), (⟨"GuestStarsModel", "layTolls", "()V"⟩, 60), (⟨"GuestStarsModel", "counts", "(I)Z"⟩, 60), (⟨"GuestStarsModel", "knownMany", "()I"⟩, 60), (⟨"GuestStarsModel", "pairMany", "()I"⟩, 60), (⟨"GuestStarsModel", "isOne", "(II)Z"⟩, 60), (⟨"GuestStarsModel", "layEvents", "()V"⟩, 60), (⟨"GuestStarsModel", "slipsOf", "(II)I"⟩, 60), (⟨"GuestStarsModel", "isFrom", "(II)Z"⟩, 60), (⟨"GuestStarsModel", "copiedOf", "(I)I"⟩, 60), (⟨"GuestStarsModel", "goers", "(I)I"⟩, 60)]
theorem lw_r8 : ∀ q ∈ lw_privs_8, lw_okq q := List.forall_mem_cons.mpr ⟨lw_p112, List.forall_mem_cons.mpr ⟨lw_p113, List.forall_mem_cons.mpr ⟨lw_p114, List.forall_mem_cons.mpr ⟨lw_p115, List.forall_mem_cons.mpr ⟨lw_p116, List.forall_mem_cons.mpr ⟨lw_p117, List.forall_mem_cons.mpr ⟨lw_p118, List.forall_mem_cons.mpr ⟨lw_p119, List.forall_mem_cons.mpr ⟨lw_p120, List.forall_mem_cons.mpr ⟨lw_p121, List.forall_mem_cons.mpr ⟨lw_p122, List.forall_mem_cons.mpr ⟨lw_p123, List.forall_mem_cons.mpr ⟨lw_p124, List.forall_mem_cons.mpr ⟨lw_p125, List.forall_mem_cons.mpr ⟨lw_p126, List.forall_mem_cons.mpr ⟨lw_p127, fun _ h => absurd h List.not_mem_nil⟩⟩⟩⟩⟩⟩⟩⟩⟩⟩⟩⟩⟩⟩⟩⟩
theorem lw_p128 : lw_okq (⟨"GuestStarsModel", "goesWith", "(I)I"⟩, 60) := ⟨⟨by decide +kernel, by decide +kernel⟩, List.mem_of_getElem? (i := 1391) (by decide +kernel), List.mem_of_getElem? (i := 2036) (by decide +kernel), List.mem_of_getElem? (i := 2037) (by decide +kernel)⟩
theorem lw_p129 : lw_okq (⟨"GuestStarsModel", "shareOf", "(I)I"⟩, 60) := ⟨⟨by decide +kernel, by decide +kernel⟩, List.mem_of_getElem? (i := 1391) (by decide +kernel), List.mem_of_getElem? (i := 2044) (by decide +kernel), List.mem_of_getElem? (i := 2045) (by decide +kernel)⟩
theorem lw_p130 : lw_okq (⟨"GuestStarsModel", "chanceFor", "(II)I"⟩, 60) := ⟨⟨by decide +kernel, by decide +kernel⟩, List.mem_of_getElem? (i := 1391) (by decide +kernel), List.mem_of_getElem? (i := 2071) (by decide +kernel), List.mem_of_getElem? (i := 2072) (by decide +kernel)⟩
theorem lw_p131 : lw_okq (⟨"GuestStarsModel", "drawn", "(I)I"⟩, 60) := ⟨⟨by decide +kernel, by decide +kernel⟩, List.mem_of_getElem? (i := 1391) (by decide +kernel), List.mem_of_getElem? (i := 2100) (by decide +kernel), List.mem_of_getElem? (i := 2101) (by decide +kernel)⟩
def lw_privs_9 : List (MethodName × Nat) := [(⟨"GuestStarsModel", "goesWith", "(I)I"⟩, 60), (⟨"GuestStarsModel", "shareOf", "(I)I"⟩, 60), (⟨"GuestStarsModel", "chanceFor", "(II)I"⟩, 60), (⟨"GuestStarsModel", "drawn", "(I)I"⟩, 60)]
theorem lw_r9 : ∀ q ∈ lw_privs_9, lw_okq q := List.forall_mem_cons.mpr ⟨lw_p128, List.forall_mem_cons.mpr ⟨lw_p129, List.forall_mem_cons.mpr ⟨lw_p130, List.forall_mem_cons.mpr ⟨lw_p131, fun _ h => absurd h List.not_mem_nil⟩⟩⟩⟩
def lw_privs : List (MethodName × Nat) := lw_privs_1 ++ (lw_privs_2 ++ (lw_privs_3 ++ (lw_privs_4 ++ (lw_privs_5 ++ (lw_privs_6 ++ (lw_privs_7 ++ (lw_privs_8 ++ (lw_privs_9))))))))
def lw_tbl : List Cond := k2_sels lw_privs ++ tables_1
theorem lw_privs_ok : ∀ q ∈ lw_privs, lw_okq q := by
  show ∀ q ∈ lw_privs_1 ++ (lw_privs_2 ++ (lw_privs_3 ++ (lw_privs_4 ++ (lw_privs_5 ++ (lw_privs_6 ++ (lw_privs_7 ++ (lw_privs_8 ++ (lw_privs_9)))))))), lw_okq q
  exact List.forall_mem_append.mpr ⟨lw_r1, List.forall_mem_append.mpr ⟨lw_r2, List.forall_mem_append.mpr ⟨lw_r3, List.forall_mem_append.mpr ⟨lw_r4, List.forall_mem_append.mpr ⟨lw_r5, List.forall_mem_append.mpr ⟨lw_r6, List.forall_mem_append.mpr ⟨lw_r7, List.forall_mem_append.mpr ⟨lw_r8, lw_r9⟩⟩⟩⟩⟩⟩⟩⟩
end
section
/-! ===== BEGIN words of one list among another's, by their places ===== -/
theorem goodIn_r {big : List Cond} (ws : List Cond) (ps : List Nat) (hp : ws = ps.filterMap (fun i => big[i]?)) (h : ws.all goodWord = true) : GoodIn big ws := by
  intro w hw
  have h1 := List.all_eq_true.mp h w hw
  rw [hp] at hw
  obtain ⟨i, -, hi⟩ := List.mem_filterMap.mp hw
  have hm : w ∈ big := by first | exact List.mem_of_getElem? hi | exact List.getElem?_mem hi
  exact ⟨hm, good_of_word h1⟩
theorem goodIn_app {big a b : List Cond} (ha : GoodIn big a) (hb : GoodIn big b) : GoodIn big (a ++ b) := fun w h => (List.mem_append.mp h).elim (ha w) (hb w)
theorem goodIn_ca {big a b : List Cond} {c : Cond} (ha : GoodIn big (c :: a)) (hb : GoodIn big b) : GoodIn big (c :: (a ++ b)) := fun w h => (List.mem_cons.mp h).elim (fun e => ha w (List.mem_cons.mpr (Or.inl e))) (fun h => (List.mem_append.mp h).elim (fun h => ha w (List.mem_cons.mpr (Or.inr h))) (hb w))
theorem goodIn_sub {big ws : List Cond} (hm : ∀ w ∈ ws, w ∈ big) (h : ws.all goodWord = true) : GoodIn big ws := fun w hw => ⟨hm w hw, good_of_word (List.all_eq_true.mp h w hw)⟩
/-! ===== END ===== -/

/-! ===== BEGIN exceptions that leave a method, and their catching by the caller (launches without stack traces) ===== -/
section VXA
/-! The laws vx_back, vx_callV, vx_callS, vx_callSW, vx_throw0, vx_throwS follow proofs of the library, with one case more: JvmDerived/Free/Laws.lean (Back.of_free), Shelf42/LK1.lean (callV, callS), Shelf/KitTraced.lean (throwNew0V, throwNewS). -/
/-- where a method has thrown q: the class by its name, the cell, what was written, the world -/
def vx_T (XC : String → State → State → Prop) (st : State) (q : Addr) (t : State) (mc ms : Nat) (free : Addr → Prop) : Prop :=
  ∃ (E : String) (ce : Cell) (L : List Loc), XC E st t ∧ t.heap[q]? = some ce ∧ ce.vm = .none ∧ st.vm.findClass E = some ce.cls ∧ st.WarmedH t.vm ∧ st.sameButNew ({ t with vm := st.vm } : State) L mc ms ∧ ∀ z ∈ L, free z.base
def vx_Q (Qc : Array Value → State → Outcome → State → Prop) (XC : String → State → State → Prop) (mc ms : Nat) (free : Addr → Prop) : Array Value → State → Outcome → State → Prop := fun a st o t =>
  (Qc a st o t ∧ ∃ L, FrameEnd st o t L mc ms ∧ ∀ q ∈ L, free q.base) ∨ ∃ q, o = .threw q ∧ vx_T XC st q t mc ms free
/-- a callee that returns or throws -/
def vx_Met (l : Launch) (y : MethodName) (ws : List Cond) (rm : Room) (Pc : Array Value → State → Prop) (Qc : Array Value → State → Outcome → State → Prop) (XC : String → State → State → Prop) (mc ms : Nat) (free : Addr → Prop) : Prop :=
  MetFree l y (headSpec ws rm) Pc (fun _ _ _ _ _ => True) (vx_Q Qc XC mc ms free)
def vx_Post (XC : String → State → State → Prop) (mc ms : Nat) (free : Addr → Prop) : Pt → Array Value → Addr → Pt → Prop := fun A a q B =>
  ∃ (g : JFrame) (mk : MethodId) (t : State) (L : List Loc) (E : String) (ce : Cell), B.U.heap = t.heap ∧ B.U.vm = t.vm ∧ XC E (A.U.calling g mk a) t ∧ t.heap[q]? = some ce ∧ ce.vm = .none ∧ A.U.vm.findClass E = some ce.cls ∧ B.locs = A.locs ++ L ∧ (∀ z ∈ L, free z.base) ∧ B.cells = A.cells + mc ∧ B.slots = A.slots + ms
def vx_Back (l : Launch) (R : Room) (p : Program) (e : Env) (below : List Frame) (s : State) (sargs : Array Value) (y : MethodName) (len W9 : Nat)
    (Pre : Pt → Array Value → Prop) (Post : Pt → Array Value → Option Value → Pt → Prop) (PostX : Pt → Array Value → Addr → Pt → Prop) : Prop :=
  ∀ (m : MethodId) (meth : Method) (c : Code) (A : Pt) (g : JFrame) (ig : Instr) (mk : MethodId) (a : Array Value),
    Stand p l e R s m sargs below meth c A.U A.locs A.cells A.slots → g.method = m → g.locals.size = c.maxLocals → decode c.code g.pc = .ok (ig, len) →
    2 * g.monitorRoom + (g.stack.map fun v => v.category).sum ≤ W9 → A.U.methodNamed? y = some mk → Pre A a →
    (∃ (v : Option Value) (B : Pt), Stand p l e R s m sargs below meth c B.U B.locs B.cells B.slots ∧ Post A a v B ∧
      Steps p.tables e below (doInvoke e (A.U.setTop g) [] mk a).1 (B.U.setTop { g with pc := g.pc + len, stack := v.toList ++ g.stack })) ∨
    (∃ (q : Addr) (B : Pt), Stand p l e R s m sargs below meth c B.U B.locs B.cells B.slots ∧ PostX A a q B ∧
      Steps p.tables e below (doInvoke e (A.U.setTop g) [] mk a).1 ((B.U.setTop g).pushFrame (.throwing q)))
section Payer
variable {l : Launch} {R : Room} {p : Program} {e : Env} {below : List Frame} {s : State} {sargs : Array Value} {y : MethodName} {len W9 : Nat}
theorem vx_back {ws : List Cond} {rm : Room} {Pc : Array Value → State → Prop} {Qc : Array Value → State → Outcome → State → Prop} {XC : String → State → State → Prop} {mc ms : Nat} {free : Addr → Prop} {bytes : ByteArray} {maxL : Nat} {ret : Option FieldType}
    (hM : vx_Met l y ws rm Pc Qc XC mc ms free) (hblind : FrameBlind Pc) (hrc : rm.cells = mc) (hrs : rm.slots = ms)
    (hframes : rm.frames + 1 ≤ R.frames) (hlocals : W9 + (maxL + 11) + rm.locals ≤ R.locals)
    (hws : ∀ w ∈ ws, ∀ a' U, s.WarmedH U.vm → w.before a' U = true) (hcode : Cond.code y bytes maxL ret ∈ ws) (hinit : ∀ a' U, s.WarmedH U.vm → (Cond.initialized y.cls).before a' U = true) :
    vx_Back l R p e below s sargs y len W9 (PreOf R mc ms Pc) (PostOf Qc mc ms free) (vx_Post XC mc ms free) := by
  intro m meth c A g ig mk a X hg hsize hdg hW hn hp
  have h1 : (headSpec ws rm).pre.before a A.U = true := atoms_intro fun w hw => hws w hw _ _ X.warmed
  have h2 : (Cond.code y bytes maxL ret).before a A.U = true := hws _ hcode _ _ X.warmed
  have h3 : (Cond.initialized y.cls).before a A.U = true := hinit _ _ X.warmed
  have h4 : A.cells + (headSpec ws rm).room.cells ≤ R.cells := by rw [show (headSpec ws rm).room.cells = mc from hrc]; exact hp.1
  have h5 : A.slots + (headSpec ws rm).room.slots ≤ R.slots := by rw [show (headSpec ws rm).room.slots = ms from hrs]; exact hp.2.1
  have hPc : Pc a (A.U.calling g mk a) := hblind _ _ _ _ hp.2.2
  obtain ⟨U, Ls, c0, s0⟩ := A
  dsimp only [Pt.U, Pt.locs, Pt.cells, Pt.slots] at h1 h2 h3 h4 h5 X hn hPc ⊢
  obtain ⟨methY, cY, hmY, hcY, -, hlY, -, -, -, -⟩ := Cond.code_spec hn h2
  obtain ⟨kY, hkY, -⟩ := className_of_methodNamed hn
  have hinitY : kY.init = .initialized := Cond.initialized_spec (findClass_of_methodNamed hn) hkY h3
  have h : At U g.method c below := by rw [hg]; exact X.here
  have hlocals9 : W9 + (maxL + 11) + (headSpec ws rm).room.locals ≤ R.locals := hlocals
  have happ : (headSpec ws rm).appliesLoose y e.platform (U.calling g mk a) = true :=
    Spec.appliesLoose_calling (g := g) h hdg hn hkY hinitY
      (X.room_calling (g := g) (R' := (headSpec ws rm).room) hsize hmY hcY hframes (by rw [hlY]; omega) h4 h5) h1
  obtain ⟨mid, hmid⟩ := h.above
  have hfr : (U.setTop g).frames = (.java g :: mid) ++ below := by rw [State.frames_setTop' g h.top, hmid]; rfl
  obtain ⟨o, s₂, hsteps, -, hend, hq⟩ := Steps.callFree hM p X.admits X.cas X.clock (acts := []) hfr happ hPc trivial
  have hq' : vx_Q Qc XC mc ms free a (U.calling g mk a) o s₂ := hq
  rw [State.frames_setTop' g h.top] at hend
  obtain ⟨g₀, hg0⟩ := Option.isSome_iff_exists.mp h.top
  obtain ⟨r, hr⟩ := State.topJava?_eq_some.mp hg0
  have hr' : (({ U with heap := s₂.heap, slotsUsed := s₂.slotsUsed } : State).setVm s₂.vm).frames = .java g₀ :: r := hr
  rcases hq' with ⟨hqc, L, hfe, hL⟩ | ⟨q, rfl, E, ce, L, hx, hce, hcv, hcl, hW₂, hsm, hL⟩
  · obtain ⟨⟨v, rfl⟩, hW₂, e2, q2, q3, q4, q5, q6⟩ := id hfe
    have e3 : s₂ = ({ (U.calling g mk a).setFrames s₂.frames with heap := s₂.heap, slotsUsed := s₂.slotsUsed } : State).setVm s₂.vm := by
      have : s₂ = ({ s₂ with vm := (U.calling g mk a).vm } : State).setVm s₂.vm := rfl
      rw [e2] at this
      exact this
    obtain ⟨c₂, i₂, len₂, hc₂, hd₂, hf₂⟩ := hend
    have hW' : U.WarmedH s₂.vm := hW₂
    have hcc : c₂ = c := by
      have h1 : s₂.code? g.method = U.code? g.method := by
        rw [State.code?_eq, State.code?_eq, hW'.alike.method?]
      exact Option.some.inj (hc₂.symm.trans (h1.trans h.code))
    subst hcc
    have hlen : len₂ = len := by rw [hdg] at hd₂; cases hd₂; rfl
    subst hlen
    have hs₂ : s₂ = (({ U with heap := s₂.heap, slotsUsed := s₂.slotsUsed } : State).setVm s₂.vm).setTop { g with pc := g.pc + len₂, stack := v.toList ++ g.stack } := by
      refine e3.trans ?_
      rw [hf₂, State.calling_eq h.top, State.setFrames_setFrames, State.setTop_of_frames _ hr', hr]
      rfl
    have hsame : U.sameButNew ({ U with heap := s₂.heap, slotsUsed := s₂.slotsUsed } : State) L mc ms := by
      refine ⟨?_, q2, q3, q4, q5, q6⟩
      obtain ⟨t, ht, -⟩ := State.frames_cons hr
      show ({ U with heap := s₂.heap, slotsUsed := s₂.slotsUsed } : State) = { U.setFrames U.frames with heap := s₂.heap, slotsUsed := s₂.slotsUsed }
      rw [State.setFrames_self ht]
    subst hg
    refine Or.inl ⟨v, ⟨(({ U with heap := s₂.heap, slotsUsed := s₂.slotsUsed } : State).setVm s₂.vm), Ls ++ L, c0 + mc, s0 + ms⟩,
      ⟨X.admits, X.cas, X.clock, X.frames, X.room, X.hears, X.method, X.code, (X.here.setHeapUsed s₂.heap s₂.slotsUsed).setVm hW'.alike, X.tail, State.WarmedH.trans X.warmed hW', X.limits, X.bytes, X.same.trans (hsame.setVm s.vm)⟩,
      ⟨g, mk, s₂, L, rfl, rfl, hqc, rfl, hL, rfl, rfl⟩, ?_⟩
    show Steps p.tables e below _ ((({ U with heap := s₂.heap, slotsUsed := s₂.slotsUsed } : State).setVm s₂.vm).setTop { g with pc := g.pc + len₂, stack := v.toList ++ g.stack })
    rw [← hs₂]
    exact hsteps
  · obtain ⟨e2, q2, q3, q4, q5, q6⟩ := id hsm
    have e3 : s₂ = ({ (U.calling g mk a).setFrames s₂.frames with heap := s₂.heap, slotsUsed := s₂.slotsUsed } : State).setVm s₂.vm := by
      have : s₂ = ({ s₂ with vm := (U.calling g mk a).vm } : State).setVm s₂.vm := rfl
      rw [e2] at this
      exact this
    have hf₂ : s₂.frames = .throwing q :: .java g :: U.frames.tail := hend
    have hW' : U.WarmedH s₂.vm := hW₂
    have hs₂ : s₂ = ((({ U with heap := s₂.heap, slotsUsed := s₂.slotsUsed } : State).setVm s₂.vm).setTop g).pushFrame (.throwing q) := by
      refine e3.trans ?_
      rw [hf₂, State.calling_eq h.top, State.setFrames_setFrames, State.pushFrame, State.frames_setTop _ hr', State.setTop_of_frames _ hr', State.setFrames_setFrames, hr]
      rfl
    have hsame : U.sameButNew ({ U with heap := s₂.heap, slotsUsed := s₂.slotsUsed } : State) L mc ms := by
      refine ⟨?_, q2, q3, q4, q5, q6⟩
      obtain ⟨t, ht, -⟩ := State.frames_cons hr
      show ({ U with heap := s₂.heap, slotsUsed := s₂.slotsUsed } : State) = { U.setFrames U.frames with heap := s₂.heap, slotsUsed := s₂.slotsUsed }
      rw [State.setFrames_self ht]
    subst hg
    refine Or.inr ⟨q, ⟨(({ U with heap := s₂.heap, slotsUsed := s₂.slotsUsed } : State).setVm s₂.vm), Ls ++ L, c0 + mc, s0 + ms⟩,
      ⟨X.admits, X.cas, X.clock, X.frames, X.room, X.hears, X.method, X.code, (X.here.setHeapUsed s₂.heap s₂.slotsUsed).setVm hW'.alike, X.tail, State.WarmedH.trans X.warmed hW', X.limits, X.bytes, X.same.trans (hsame.setVm s.vm)⟩,
      ⟨g, mk, s₂, L, E, ce, rfl, rfl, hx, hce, hcv, hcl, rfl, hL, rfl, rfl⟩, ?_⟩
    show Steps p.tables e below _ (((({ U with heap := s₂.heap, slotsUsed := s₂.slotsUsed } : State).setVm s₂.vm).setTop g).pushFrame (.throwing q))
    rw [← hs₂]
    exact hsteps
end Payer
section Calls
variable {p : Program} {l : Launch} {e : Env} {R : Room} {s : State} {m : MethodId} {args : Array Value} {below : List Frame} {meth : Method} {c : Code} {T : State} {locs : List Loc} {cells slots : Nat}
theorem vx_callV (X : Stand p l e R s m args below meth c T locs cells slots) (hexec : p.tables.exec = Jvm.exec) {own C : String} {index : Nat} {y : MethodName} {bytes : ByteArray} {maxL : Nat} {ret : Option FieldType}
    (hown : s.vm.findClass own = some m.cls) (hlink : (Cond.methodLink own index y).before args s = true) (hinst : (Cond.instanceMethod y).before args s = true) (hsel : (Cond.selects C y y).before args s = true)
    (hcode : (Cond.code y bytes maxL ret).before args s = true) (hy : y.cls ≠ "java/lang/invoke/MethodHandle" ∧ y.cls ≠ "java/lang/invoke/VarHandle")
    {W9 : Nat} {Pre : Pt → Array Value → Prop} {Post : Pt → Array Value → Option Value → Pt → Prop} {PostX : Pt → Array Value → Addr → Pt → Prop} (hK : vx_Back l R p e below s args y 3 W9 Pre Post PostX)
    {b : Addr} {cellB : Cell} (hcell : T.heap[b]? = some cellB) (hobj : cellB.vm.isStatics = false) (hcls : s.vm.findClass C = some cellB.cls)
    {g : JFrame} (hg : g.method = m) (hsize : g.locals.size = c.maxLocals) {argsL rest : List Value} (hlen : ∀ sig, parseMethodDescriptor y.desc = some sig → argsL.length = sig.parameters.length)
    (hstack : g.stack = argsL.reverse ++ .ref b :: rest) (hW : 2 * g.monitorRoom + (rest.map fun v => v.category).sum ≤ W9) (hdg : decode c.code g.pc = .ok (.invokevirtual index, 3))
    (hpre : ∀ vm₁, s.WarmedH vm₁ → Pre ⟨T.setVm vm₁, locs, cells, slots⟩ (Value.ref b :: argsL).toArray) :
    (∃ (v : Option Value) (vm₁ : Vm) (B : Pt), s.WarmedH vm₁ ∧ Stand p l e R s m args below meth c B.U B.locs B.cells B.slots ∧ Post ⟨T.setVm vm₁, locs, cells, slots⟩ (Value.ref b :: argsL).toArray v B ∧
      ∀ target, Steps p.tables e below (B.U.setTop { g with pc := g.pc + 3, stack := v.toList ++ rest }) target → Steps p.tables e below (T.setTop g) target) ∨
    (∃ (q : Addr) (vm₁ : Vm) (B : Pt), s.WarmedH vm₁ ∧ Stand p l e R s m args below meth c B.U B.locs B.cells B.slots ∧ PostX ⟨T.setVm vm₁, locs, cells, slots⟩ (Value.ref b :: argsL).toArray q B ∧
      Steps p.tables e below (T.setTop g) ((B.U.setTop { g with stack := rest }).pushFrame (.throwing q))) := by
  obtain ⟨mk, methM, hnamed, hmethM, hstM, habM⟩ := Cond.instanceMethod_spec hinst
  obtain ⟨methM', cM, hmethM', -, -, -, -, -, -, hsigM⟩ := Cond.code_spec hnamed hcode
  cases hmethM.symm.trans hmethM'
  obtain ⟨c2, r2, m2, q1, q2, q3, q4, kP, hkP, hkPi⟩ := Cond.selects_spec hsel
  cases hcls.symm.trans q1
  cases (State.methodFound?_of_named hnamed hy).symm.trans q2
  cases hnamed.symm.trans q3
  have hselP : selectMethod e.platform s.vm cellB.cls mk = .method mk := by rw [Launch.admits_selectMethod X.admits]; exact q4
  obtain ⟨vm₁, X₁, hstep₁⟩ := X.invokevirtual hexec hown hlink hnamed hmethM hstM hkP hkPi hy (a := b) (cell := cellB) hcell
    (fun z h => by rw [h] at hobj; cases hobj) hselP hmethM habM hkP hkPi (g := g) hg (argsL := argsL) (rest := rest) (hlen _ hsigM) hstack hdg
  rcases hK m meth c ⟨T.setVm vm₁, locs, cells, slots⟩ { g with stack := rest } (.invokevirtual index) mk (Value.ref b :: argsL).toArray X₁ hg hsize hdg hW (X₁.named hnamed) (hpre vm₁ X₁.warmed) with ⟨v, B, X', hpost, hsteps⟩ | ⟨q, B, X', hpost, hsteps⟩
  · exact Or.inl ⟨v, vm₁, B, X₁.warmed, X', hpost, fun target h => hstep₁ _ fun acts => by rw [doInvoke_state]; exact hsteps.trans h⟩
  · exact Or.inr ⟨q, vm₁, B, X₁.warmed, X', hpost, hstep₁ _ fun acts => by rw [doInvoke_state]; exact hsteps⟩
theorem vx_callS (X : Stand p l e R s m args below meth c T locs cells slots) (hexec : p.tables.exec = Jvm.exec) {own : String} {index : Nat} {y : MethodName} {bytes : ByteArray} {maxL : Nat} {ret : Option FieldType}
    (hown : s.vm.findClass own = some m.cls) (hlink : (Cond.methodLink own index y).before args s = true) (hstat : (Cond.static y).before args s = true) (hinit : (Cond.initialized y.cls).before args s = true)
    (hcode : (Cond.code y bytes maxL ret).before args s = true) (hy : y.cls ≠ "java/lang/invoke/MethodHandle" ∧ y.cls ≠ "java/lang/invoke/VarHandle")
    {W9 : Nat} {Pre : Pt → Array Value → Prop} {Post : Pt → Array Value → Option Value → Pt → Prop} {PostX : Pt → Array Value → Addr → Pt → Prop} (hK : vx_Back l R p e below s args y 3 W9 Pre Post PostX)
    {g : JFrame} (hg : g.method = m) (hsize : g.locals.size = c.maxLocals) {argsL rest : List Value} (hlen : ∀ sig, parseMethodDescriptor y.desc = some sig → argsL.length = sig.parameters.length)
    (hstack : g.stack = argsL.reverse ++ rest) (hW : 2 * g.monitorRoom + (rest.map fun v => v.category).sum ≤ W9) (hdg : decode c.code g.pc = .ok (.invokestatic index, 3))
    (hpre : ∀ vm₁, s.WarmedH vm₁ → Pre ⟨T.setVm vm₁, locs, cells, slots⟩ argsL.toArray) :
    (∃ (v : Option Value) (vm₁ : Vm) (B : Pt), s.WarmedH vm₁ ∧ Stand p l e R s m args below meth c B.U B.locs B.cells B.slots ∧ Post ⟨T.setVm vm₁, locs, cells, slots⟩ argsL.toArray v B ∧
      ∀ target, Steps p.tables e below (B.U.setTop { g with pc := g.pc + 3, stack := v.toList ++ rest }) target → Steps p.tables e below (T.setTop g) target) ∨
    (∃ (q : Addr) (vm₁ : Vm) (B : Pt), s.WarmedH vm₁ ∧ Stand p l e R s m args below meth c B.U B.locs B.cells B.slots ∧ PostX ⟨T.setVm vm₁, locs, cells, slots⟩ argsL.toArray q B ∧
      Steps p.tables e below (T.setTop g) ((B.U.setTop { g with stack := rest }).pushFrame (.throwing q))) := by
  obtain ⟨mk, hnamed⟩ := Cond.code_named hcode
  obtain ⟨methM, cM, hmethM, -, -, -, -, -, -, hsigM⟩ := Cond.code_spec hnamed hcode
  have hstatic : methM.isStatic = true := Cond.static_spec hnamed hmethM hstat
  obtain ⟨kP, hkP, -⟩ := className_of_methodNamed hnamed
  have hinitP : kP.init = .initialized := Cond.initialized_spec (findClass_of_methodNamed hnamed) hkP hinit
  obtain ⟨vm₁, X₁, hstep₁⟩ := X.invokestatic hexec hown hlink hnamed hmethM hstatic hkP hinitP hy (g := g) hg (argsL := argsL) (rest := rest) (hlen _ hsigM) hstack hdg
  rcases hK m meth c ⟨T.setVm vm₁, locs, cells, slots⟩ { g with stack := rest } (.invokestatic index) mk argsL.toArray X₁ hg hsize hdg hW (X₁.named hnamed) (hpre vm₁ X₁.warmed) with ⟨v, B, X', hpost, hsteps⟩ | ⟨q, B, X', hpost, hsteps⟩
  · exact Or.inl ⟨v, vm₁, B, X₁.warmed, X', hpost, fun target h => hstep₁ _ fun acts => by rw [doInvoke_state]; exact hsteps.trans h⟩
  · exact Or.inr ⟨q, vm₁, B, X₁.warmed, X', hpost, hstep₁ _ fun acts => by rw [doInvoke_state]; exact hsteps⟩
end Calls
theorem vx_cls {s : State} {T : State} {vm₁ : Vm} {E : String} {k : ClassId} (hW : s.WarmedH vm₁) (h : (T.setVm vm₁).vm.findClass E = some k) : s.vm.findClass E = some k := by
  have h1 : vm₁.findClass E = some k := h
  rw [hW.alike.findClass] at h1
  exact h1
/-- the method's frame g, with q thrown over it -/
def vx_W (p : Program) (l : Launch) (e : Env) (R : Room) (s : State) (m : MethodId) (args : Array Value) (below : List Frame) (meth : Method) (c : Code) (H : Heap) (locs : List Loc) (cells slots : Nat) (Q : State → Prop) (g : JFrame) (q : Addr) : Prop :=
  ∀ T : State, T.heap = H → Stand p l e R s m args below meth c T locs cells slots → ∃ t, Steps p.tables e below ((T.setTop g).pushFrame (.throwing q)) t ∧ Q t
def vx_Run (p : Program) (l : Launch) (e : Env) (R : Room) (s : State) (m : MethodId) (args : Array Value) (below : List Frame) (meth : Method) (c : Code) (H : Heap) (locs : List Loc) (cells slots mc ms : Nat) (g : JFrame) (rest : List Value) (Qa : State → Outcome → State → Prop) (XC : String → State → State → Prop) (free : Addr → Prop) : Prop :=
  ∀ T : State, T.heap = H → Stand p l e R s m args below meth c T locs cells slots →
    (∃ (v : Option Value) (st₀ t T' : State) (L : List Loc), st₀.heap = H ∧ Stand p l e R s m args below meth c T' (locs ++ L) (cells + mc) (slots + ms) ∧ (∀ q ∈ L, free q.base) ∧ T'.heap = t.heap ∧ T'.vm = t.vm ∧ Qa st₀ (.returned v) t ∧
      Goes p e below T g T' { g with pc := g.pc + 3, stack := v.toList ++ rest }) ∨
    (∃ (q : Addr) (st₀ t T' : State) (L : List Loc) (E : String) (ce : Cell), st₀.heap = H ∧ Stand p l e R s m args below meth c T' (locs ++ L) (cells + mc) (slots + ms) ∧ (∀ z ∈ L, free z.base) ∧ T'.heap = t.heap ∧ T'.vm = t.vm ∧ XC E st₀ t ∧ t.heap[q]? = some ce ∧ ce.vm = .none ∧ s.vm.findClass E = some ce.cls ∧
      Steps p.tables e below (T.setTop g) ((T'.setTop { g with stack := rest }).pushFrame (.throwing q)))
def vx_X {S : Type} (px : S → Prop) (B : String → S → State → Prop) (A : Nat → Prop) : String → State → State → Prop := fun E st t => ∃ u : S, px u ∧ B E u t ∧ va_F A st t
section Runs
variable {p : Program} {l : Launch} {e : Env} {R : Room} {s : State} {m : MethodId} {args : Array Value} {below : List Frame} {meth : Method} {c : Code} {H : Heap} {locs : List Loc} {cells slots : Nat}
variable {y : MethodName} {bytes cc : ByteArray} {maxL nL mc ms n index : Nat} {ret : Option FieldType} {ws : List Cond} {rm : Room} {Pc : Array Value → State → Prop} {Qc : Array Value → State → Outcome → State → Prop} {XC : String → State → State → Prop} {free : Addr → Prop} {Ts : List Cond} {own C : String} {b : Addr} {As rest : List Value} {g : JFrame}
theorem vx_callBack (cb : CallB R s args own index y bytes maxL ret ws rm mc ms n) (hM : vx_Met l y ws rm Pc Qc XC mc ms free) (hbl : FrameBlind Pc) : vx_Back l R p e below s args y 3 8 (PreOf R mc ms Pc) (PostOf Qc mc ms free) (vx_Post XC mc ms free) := by
  obtain ⟨hrc, hrs, hfr, hlo, hws, hcw, -, hini, -⟩ := cb
  exact vx_back (bytes := bytes) (maxL := maxL) (ret := ret) hM hbl hrc hrs hfr hlo hws hcw (fun a' U hW => word_at hW (Or.inl (by first | rfl | simp [Cond.onTables, Cond.keeps, Cond.steady])) hini)
theorem vx_runV (S : CallFix p m c cc nL s args Ts own) (hM : vx_Met l y ws rm Pc Qc XC mc ms free) (cw : CallW R s args own C index y bytes maxL ret ws rm mc ms n) (hp : PreV s H C b Pc As)
    (hg : g.method = m) (hn : As.length = n) (hsize : g.locals.size = nL) (hstack : g.stack = As.reverse ++ .ref b :: rest) (hW : 2 * g.monitorRoom + (rest.map fun v => v.category).sum ≤ 8) (hdg : decode cc g.pc = .ok (.invokevirtual index, 3)) (hf : cells + mc ≤ R.cells ∧ slots + ms ≤ R.slots) :
    vx_Run p l e R s m args below meth c H locs cells slots mc ms g rest (Qc (Value.ref b :: As).toArray) XC free := by
  have hK : vx_Back l R p e below s args y 3 8 (PreOf R mc ms Pc) (PostOf Qc mc ms free) (vx_Post XC mc ms free) := vx_callBack cw.1 hM hp.1
  obtain ⟨⟨-, -, -, -, -, -, hcode, -, hy, hlen, hl⟩, hin, hse⟩ := cw
  obtain ⟨hx, hb, hml, ho, -⟩ := S
  obtain ⟨-, ⟨cellB, hcB, hoB, hclB⟩, hPc⟩ := hp
  intro T hT X
  rcases vx_callV X hx (C := C) (bytes := bytes) (maxL := maxL) (ret := ret) ho hl hin hse hcode hy hK (by rw [hT]; exact hcB) hoB hclB hg (hsize.trans hml.symm) (argsL := As) (rest := rest) (fun sig h => hn.trans (hlen sig h)) hstack hW (by rw [hb]; exact hdg)
    (fun vm₁ hW₁ => ⟨hf.1, hf.2, hPc (T.setVm vm₁) hT hW₁⟩) with ⟨v, vm₁, ⟨U', l2, c2, s2⟩, hW₁, X', ⟨g', mk, t, L, e1, e2, hq, h1, hL, h2, h3⟩, st⟩ | ⟨q, vm₁, ⟨U', l2, c2, s2⟩, hW₁, X', ⟨g', mk, t, L, E, ce, e1, e2, hq, hce, hcv, hcl, h1, hL, h2, h3⟩, st⟩
  · dsimp only [Pt.U, Pt.locs, Pt.cells, Pt.slots] at X' e1 e2 h1 h2 h3 st
    subst h1; subst h2; subst h3
    exact Or.inl ⟨v, (T.setVm vm₁).calling g' mk (Value.ref b :: As).toArray, t, U', L, hT, X', hL, e1, e2, hq, st⟩
  · dsimp only [Pt.U, Pt.locs, Pt.cells, Pt.slots] at X' e1 e2 h1 h2 h3 st hcl
    subst h1; subst h2; subst h3
    exact Or.inr ⟨q, (T.setVm vm₁).calling g' mk (Value.ref b :: As).toArray, t, U', L, E, ce, hT, X', hL, e1, e2, hq, hce, hcv, vx_cls hW₁ hcl, st⟩
theorem vx_runS (S : CallFix p m c cc nL s args Ts own) (hM : vx_Met l y ws rm Pc Qc XC mc ms free) (cw : CallB R s args own index y bytes maxL ret ws rm mc ms n ∧ (Cond.static y).before args s = true) (hp : PreS s H Pc As)
    (hg : g.method = m) (hn : As.length = n) (hsize : g.locals.size = nL) (hstack : g.stack = As.reverse ++ rest) (hW : 2 * g.monitorRoom + (rest.map fun v => v.category).sum ≤ 8) (hdg : decode cc g.pc = .ok (.invokestatic index, 3)) (hf : cells + mc ≤ R.cells ∧ slots + ms ≤ R.slots) :
    vx_Run p l e R s m args below meth c H locs cells slots mc ms g rest (Qc As.toArray) XC free := by
  have hK : vx_Back l R p e below s args y 3 8 (PreOf R mc ms Pc) (PostOf Qc mc ms free) (vx_Post XC mc ms free) := vx_callBack cw.1 hM hp.1
  obtain ⟨⟨-, -, -, -, -, -, hcode, hini, hy, hlen, hl⟩, hstt⟩ := cw
  obtain ⟨hx, hb, hml, ho, -⟩ := S
  intro T hT X
  rcases vx_callS X hx (bytes := bytes) (maxL := maxL) (ret := ret) ho hl hstt hini hcode hy hK hg (hsize.trans hml.symm) (argsL := As) (rest := rest) (fun sig h => hn.trans (hlen sig h)) hstack hW (by rw [hb]; exact hdg)
    (fun vm₁ hW₁ => ⟨hf.1, hf.2, hp.2 (T.setVm vm₁) hT hW₁⟩) with ⟨v, vm₁, ⟨U', l2, c2, s2⟩, hW₁, X', ⟨g', mk, t, L, e1, e2, hq, h1, hL, h2, h3⟩, st⟩ | ⟨q, vm₁, ⟨U', l2, c2, s2⟩, hW₁, X', ⟨g', mk, t, L, E, ce, e1, e2, hq, hce, hcv, hcl, h1, hL, h2, h3⟩, st⟩
  · dsimp only [Pt.U, Pt.locs, Pt.cells, Pt.slots] at X' e1 e2 h1 h2 h3 st
    subst h1; subst h2; subst h3
    exact Or.inl ⟨v, (T.setVm vm₁).calling g' mk As.toArray, t, U', L, hT, X', hL, e1, e2, hq, st⟩
  · dsimp only [Pt.U, Pt.locs, Pt.cells, Pt.slots] at X' e1 e2 h1 h2 h3 st hcl
    subst h1; subst h2; subst h3
    exact Or.inr ⟨q, (T.setVm vm₁).calling g' mk As.toArray, t, U', L, E, ce, hT, X', hL, e1, e2, hq, hce, hcv, vx_cls hW₁ hcl, st⟩
end Runs
section Rows
variable {p : Program} {l : Launch} {e : Env} {R : Room} {s : State} {m : MethodId} {args : Array Value} {below : List Frame} {meth : Method} {c : Code} {H : Heap} {locs : List Loc} {cells slots : Nat} {Q : State → Prop}
variable {mc ms : Nat} {free : Addr → Prop} {A0 A1 : Nat → Prop} {H0 : Heap} {a : Array Value} {pc : Nat} {ls : Array Slot} {st0 rest : List Value}
theorem vx_keep {st₀ t T' : State} {L : List Loc} (h0 : st₀.heap = H) (e1 : T'.heap = t.heap) (hS : va_S A0 H0 H locs) (hA : ∀ q, q < H.size → A1 q → A0 q) (hf : ∀ q, free q → A0 q) (hL : ∀ q ∈ L, free q.base) (hF : va_F A1 st₀ t) :
    H.size ≤ T'.heap.size ∧ (∀ q : Nat, q < H.size → ¬ A1 q → T'.heap[q]? = H[q]?) ∧ va_S A0 H0 T'.heap (locs ++ L) := by
  obtain ⟨hz, hk⟩ := hF
  rw [h0] at hz hk
  exact ⟨by rw [e1]; exact hz, fun q h1 h2 => by rw [e1]; exact hk q h1 h2,
    ⟨Nat.le_trans hS.1 (by rw [e1]; exact hz), fun q h1 h2 => by rw [e1, hk q (Nat.lt_of_lt_of_le h1 hS.1) (fun z => h2 (hA q (Nat.lt_of_lt_of_le h1 hS.1) z))]; exact hS.2.1 q h1 h2, fun q hq => by
      rcases List.mem_append.mp hq with h | h
      · exact hS.2.2 q h
      · exact hf _ (hL q h)⟩⟩
theorem vx_calli {S SX : Type} {post : Int32 → S → Prop} {px : SX → Prop} {B : S → State → Prop} {BX : String → SX → State → Prop} {AX : Nat → Prop} (hr : vx_Run p l e R s m args below meth c H locs cells slots mc ms (F0 m pc ls st0) rest (va_Qi post B A1 a) (vx_X px BX AX) free) (hS : va_S A0 H0 H locs) (hA : ∀ q, q < H.size → A1 q → A0 q) (hf : ∀ q, free q → A0 q) (hAX : ∀ q, q < H.size → AX q → A0 q)
    (kx : ∀ (E : String) (ce : Cell) (q9 : Addr) (u : SX) (t : State) (H1 : Heap) (locs1 : List Loc), t.heap = H1 → s.vm.Alike t.vm → px u → BX E u t → H.size ≤ H1.size → (∀ q : Nat, q < H.size → ¬ AX q → H1[q]? = H[q]?) → va_S A0 H0 H1 locs1 → H1[q9]? = some ce → ce.vm = .none → s.vm.findClass E = some ce.cls → vx_W p l e R s m args below meth c H1 locs1 (cells + mc) (slots + ms) Q (F0 m pc ls rest) q9)
    (kk : ∀ (r : Int32) (u : S) (t : State) (H1 : Heap) (locs1 : List Loc), t.heap = H1 → s.vm.Alike t.vm → post r u → B u t → H.size ≤ H1.size → (∀ q : Nat, q < H.size → ¬ A1 q → H1[q]? = H[q]?) → va_S A0 H0 H1 locs1 → W p l e R s m args below meth c H1 locs1 (cells + mc) (slots + ms) Q (F0 m (pc + 3) ls (.int r :: rest))) : W p l e R s m args below meth c H locs cells slots Q (F0 m pc ls st0) := by
  intro T hT X
  rcases hr T hT X with ⟨v, st₀, t, T', L, h0, X', hL, e1, e2, ⟨⟨r, u, hv, hp, hb⟩, hF⟩, st⟩ | ⟨q, st₀, t, T', L, E, ce, h0, X', hL, e1, e2, ⟨u, hp, hb, hF⟩, hce, hcv, hcl, st⟩
  · cases hv
    obtain ⟨k1, k2, k3⟩ := vx_keep h0 e1 hS hA hf hL hF
    obtain ⟨t2, a1, b1⟩ := kk r u t T'.heap (locs ++ L) e1.symm (by rw [← e2]; exact X'.warmed.alike) hp hb k1 k2 k3 T' rfl X'
    exact ⟨t2, st t2 a1, b1⟩
  · obtain ⟨k1, k2, k3⟩ := vx_keep h0 e1 hS hAX hf hL hF
    obtain ⟨t2, a1, b1⟩ := kx E ce q u t T'.heap (locs ++ L) e1.symm (by rw [← e2]; exact X'.warmed.alike) hp hb k1 k2 k3 (by rw [e1]; exact hce) hcv hcl T' rfl X'
    exact ⟨t2, st.trans a1, b1⟩
theorem vx_calll {S SX : Type} {post : Int64 → S → Prop} {px : SX → Prop} {B : S → State → Prop} {BX : String → SX → State → Prop} {AX : Nat → Prop} (hr : vx_Run p l e R s m args below meth c H locs cells slots mc ms (F0 m pc ls st0) rest (va_Ql post B A1 a) (vx_X px BX AX) free) (hS : va_S A0 H0 H locs) (hA : ∀ q, q < H.size → A1 q → A0 q) (hf : ∀ q, free q → A0 q) (hAX : ∀ q, q < H.size → AX q → A0 q)
    (kx : ∀ (E : String) (ce : Cell) (q9 : Addr) (u : SX) (t : State) (H1 : Heap) (locs1 : List Loc), t.heap = H1 → s.vm.Alike t.vm → px u → BX E u t → H.size ≤ H1.size → (∀ q : Nat, q < H.size → ¬ AX q → H1[q]? = H[q]?) → va_S A0 H0 H1 locs1 → H1[q9]? = some ce → ce.vm = .none → s.vm.findClass E = some ce.cls → vx_W p l e R s m args below meth c H1 locs1 (cells + mc) (slots + ms) Q (F0 m pc ls rest) q9)
    (kk : ∀ (r : Int64) (u : S) (t : State) (H1 : Heap) (locs1 : List Loc), t.heap = H1 → s.vm.Alike t.vm → post r u → B u t → H.size ≤ H1.size → (∀ q : Nat, q < H.size → ¬ A1 q → H1[q]? = H[q]?) → va_S A0 H0 H1 locs1 → W p l e R s m args below meth c H1 locs1 (cells + mc) (slots + ms) Q (F0 m (pc + 3) ls (.long r :: rest))) : W p l e R s m args below meth c H locs cells slots Q (F0 m pc ls st0) := by
  intro T hT X
  rcases hr T hT X with ⟨v, st₀, t, T', L, h0, X', hL, e1, e2, ⟨⟨r, u, hv, hp, hb⟩, hF⟩, st⟩ | ⟨q, st₀, t, T', L, E, ce, h0, X', hL, e1, e2, ⟨u, hp, hb, hF⟩, hce, hcv, hcl, st⟩
  · cases hv
    obtain ⟨k1, k2, k3⟩ := vx_keep h0 e1 hS hA hf hL hF
    obtain ⟨t2, a1, b1⟩ := kk r u t T'.heap (locs ++ L) e1.symm (by rw [← e2]; exact X'.warmed.alike) hp hb k1 k2 k3 T' rfl X'
    exact ⟨t2, st t2 a1, b1⟩
  · obtain ⟨k1, k2, k3⟩ := vx_keep h0 e1 hS hAX hf hL hF
    obtain ⟨t2, a1, b1⟩ := kx E ce q u t T'.heap (locs ++ L) e1.symm (by rw [← e2]; exact X'.warmed.alike) hp hb k1 k2 k3 (by rw [e1]; exact hce) hcv hcl T' rfl X'
    exact ⟨t2, st.trans a1, b1⟩
theorem vx_callf {S SX : Type} {post : UInt32 → S → Prop} {px : SX → Prop} {B : S → State → Prop} {BX : String → SX → State → Prop} {AX : Nat → Prop} (hr : vx_Run p l e R s m args below meth c H locs cells slots mc ms (F0 m pc ls st0) rest (va_Qf post B A1 a) (vx_X px BX AX) free) (hS : va_S A0 H0 H locs) (hA : ∀ q, q < H.size → A1 q → A0 q) (hf : ∀ q, free q → A0 q) (hAX : ∀ q, q < H.size → AX q → A0 q)
    (kx : ∀ (E : String) (ce : Cell) (q9 : Addr) (u : SX) (t : State) (H1 : Heap) (locs1 : List Loc), t.heap = H1 → s.vm.Alike t.vm → px u → BX E u t → H.size ≤ H1.size → (∀ q : Nat, q < H.size → ¬ AX q → H1[q]? = H[q]?) → va_S A0 H0 H1 locs1 → H1[q9]? = some ce → ce.vm = .none → s.vm.findClass E = some ce.cls → vx_W p l e R s m args below meth c H1 locs1 (cells + mc) (slots + ms) Q (F0 m pc ls rest) q9)
    (kk : ∀ (r : UInt32) (u : S) (t : State) (H1 : Heap) (locs1 : List Loc), t.heap = H1 → s.vm.Alike t.vm → post r u → B u t → H.size ≤ H1.size → (∀ q : Nat, q < H.size → ¬ A1 q → H1[q]? = H[q]?) → va_S A0 H0 H1 locs1 → W p l e R s m args below meth c H1 locs1 (cells + mc) (slots + ms) Q (F0 m (pc + 3) ls (.float r :: rest))) : W p l e R s m args below meth c H locs cells slots Q (F0 m pc ls st0) := by
  intro T hT X
  rcases hr T hT X with ⟨v, st₀, t, T', L, h0, X', hL, e1, e2, ⟨⟨r, u, hv, hp, hb⟩, hF⟩, st⟩ | ⟨q, st₀, t, T', L, E, ce, h0, X', hL, e1, e2, ⟨u, hp, hb, hF⟩, hce, hcv, hcl, st⟩
  · cases hv
    obtain ⟨k1, k2, k3⟩ := vx_keep h0 e1 hS hA hf hL hF
    obtain ⟨t2, a1, b1⟩ := kk r u t T'.heap (locs ++ L) e1.symm (by rw [← e2]; exact X'.warmed.alike) hp hb k1 k2 k3 T' rfl X'
    exact ⟨t2, st t2 a1, b1⟩
  · obtain ⟨k1, k2, k3⟩ := vx_keep h0 e1 hS hAX hf hL hF
    obtain ⟨t2, a1, b1⟩ := kx E ce q u t T'.heap (locs ++ L) e1.symm (by rw [← e2]; exact X'.warmed.alike) hp hb k1 k2 k3 (by rw [e1]; exact hce) hcv hcl T' rfl X'
    exact ⟨t2, st.trans a1, b1⟩
theorem vx_calld {S SX : Type} {post : UInt64 → S → Prop} {px : SX → Prop} {B : S → State → Prop} {BX : String → SX → State → Prop} {AX : Nat → Prop} (hr : vx_Run p l e R s m args below meth c H locs cells slots mc ms (F0 m pc ls st0) rest (va_Qd post B A1 a) (vx_X px BX AX) free) (hS : va_S A0 H0 H locs) (hA : ∀ q, q < H.size → A1 q → A0 q) (hf : ∀ q, free q → A0 q) (hAX : ∀ q, q < H.size → AX q → A0 q)
    (kx : ∀ (E : String) (ce : Cell) (q9 : Addr) (u : SX) (t : State) (H1 : Heap) (locs1 : List Loc), t.heap = H1 → s.vm.Alike t.vm → px u → BX E u t → H.size ≤ H1.size → (∀ q : Nat, q < H.size → ¬ AX q → H1[q]? = H[q]?) → va_S A0 H0 H1 locs1 → H1[q9]? = some ce → ce.vm = .none → s.vm.findClass E = some ce.cls → vx_W p l e R s m args below meth c H1 locs1 (cells + mc) (slots + ms) Q (F0 m pc ls rest) q9)
    (kk : ∀ (r : UInt64) (u : S) (t : State) (H1 : Heap) (locs1 : List Loc), t.heap = H1 → s.vm.Alike t.vm → post r u → B u t → H.size ≤ H1.size → (∀ q : Nat, q < H.size → ¬ A1 q → H1[q]? = H[q]?) → va_S A0 H0 H1 locs1 → W p l e R s m args below meth c H1 locs1 (cells + mc) (slots + ms) Q (F0 m (pc + 3) ls (.double r :: rest))) : W p l e R s m args below meth c H locs cells slots Q (F0 m pc ls st0) := by
  intro T hT X
  rcases hr T hT X with ⟨v, st₀, t, T', L, h0, X', hL, e1, e2, ⟨⟨r, u, hv, hp, hb⟩, hF⟩, st⟩ | ⟨q, st₀, t, T', L, E, ce, h0, X', hL, e1, e2, ⟨u, hp, hb, hF⟩, hce, hcv, hcl, st⟩
  · cases hv
    obtain ⟨k1, k2, k3⟩ := vx_keep h0 e1 hS hA hf hL hF
    obtain ⟨t2, a1, b1⟩ := kk r u t T'.heap (locs ++ L) e1.symm (by rw [← e2]; exact X'.warmed.alike) hp hb k1 k2 k3 T' rfl X'
    exact ⟨t2, st t2 a1, b1⟩
  · obtain ⟨k1, k2, k3⟩ := vx_keep h0 e1 hS hAX hf hL hF
    obtain ⟨t2, a1, b1⟩ := kx E ce q u t T'.heap (locs ++ L) e1.symm (by rw [← e2]; exact X'.warmed.alike) hp hb k1 k2 k3 (by rw [e1]; exact hce) hcv hcl T' rfl X'
    exact ⟨t2, st.trans a1, b1⟩
theorem vx_callv {S SX : Type} {post : S → Prop} {px : SX → Prop} {B : S → State → Prop} {BX : String → SX → State → Prop} {AX : Nat → Prop} (hr : vx_Run p l e R s m args below meth c H locs cells slots mc ms (F0 m pc ls st0) rest (va_Qv post B A1 a) (vx_X px BX AX) free) (hS : va_S A0 H0 H locs) (hA : ∀ q, q < H.size → A1 q → A0 q) (hf : ∀ q, free q → A0 q) (hAX : ∀ q, q < H.size → AX q → A0 q)
    (kx : ∀ (E : String) (ce : Cell) (q9 : Addr) (u : SX) (t : State) (H1 : Heap) (locs1 : List Loc), t.heap = H1 → s.vm.Alike t.vm → px u → BX E u t → H.size ≤ H1.size → (∀ q : Nat, q < H.size → ¬ AX q → H1[q]? = H[q]?) → va_S A0 H0 H1 locs1 → H1[q9]? = some ce → ce.vm = .none → s.vm.findClass E = some ce.cls → vx_W p l e R s m args below meth c H1 locs1 (cells + mc) (slots + ms) Q (F0 m pc ls rest) q9)
    (kk : ∀ (u : S) (t : State) (H1 : Heap) (locs1 : List Loc), t.heap = H1 → s.vm.Alike t.vm → post u → B u t → H.size ≤ H1.size → (∀ q : Nat, q < H.size → ¬ A1 q → H1[q]? = H[q]?) → va_S A0 H0 H1 locs1 → W p l e R s m args below meth c H1 locs1 (cells + mc) (slots + ms) Q (F0 m (pc + 3) ls (rest))) : W p l e R s m args below meth c H locs cells slots Q (F0 m pc ls st0) := by
  intro T hT X
  rcases hr T hT X with ⟨v, st₀, t, T', L, h0, X', hL, e1, e2, ⟨⟨u, hv, hp, hb⟩, hF⟩, st⟩ | ⟨q, st₀, t, T', L, E, ce, h0, X', hL, e1, e2, ⟨u, hp, hb, hF⟩, hce, hcv, hcl, st⟩
  · cases hv
    obtain ⟨k1, k2, k3⟩ := vx_keep h0 e1 hS hA hf hL hF
    obtain ⟨t2, a1, b1⟩ := kk u t T'.heap (locs ++ L) e1.symm (by rw [← e2]; exact X'.warmed.alike) hp hb k1 k2 k3 T' rfl X'
    exact ⟨t2, st t2 a1, b1⟩
  · obtain ⟨k1, k2, k3⟩ := vx_keep h0 e1 hS hAX hf hL hF
    obtain ⟨t2, a1, b1⟩ := kx E ce q u t T'.heap (locs ++ L) e1.symm (by rw [← e2]; exact X'.warmed.alike) hp hb k1 k2 k3 (by rw [e1]; exact hce) hcv hcl T' rfl X'
    exact ⟨t2, st.trans a1, b1⟩
/-- caught by the row x of this method's table; the rows ahead don't take it -/
theorem vx_catch {own name : String} {E : String} {ce : Cell} {q : Addr} (hown : s.vm.findClass own = some m.cls) (pre : List ExceptionTableEntry) (x : ExceptionTableEntry) (suf : List ExceptionTableEntry) (hsplit : c.exceptionTable.toList = pre ++ x :: suf)
    (hpass : ∀ z ∈ pre, covers z pc = false ∨ (z.catchType ≠ 0 ∧ ∃ nm : String, (Cond.classLink own z.catchType nm).before args s = true ∧ va_Nc E nm s)) (hx : covers x pc = true) (h0 : x.catchType ≠ 0)
    (hlink : (Cond.classLink own x.catchType name).before args s = true) (hcast : (Cond.castable E name).before args s = true) (hcell : H[q]? = some ce) (hv : ce.vm = .none) (hcl : s.vm.findClass E = some ce.cls)
    (kk : W p l e R s m args below meth c H locs cells slots Q (F0 m x.handlerPc ls [.ref q])) : vx_W p l e R s m args below meth c H locs cells slots Q (F0 m pc ls rest) q := by
  intro T hT X
  have hpl : e.platform.magicAccessors = ({} : Platform).magicAccessors := by rw [X.admits.platform]
  obtain ⟨c3, c4, hc3, hc4, hasg⟩ := Cond.castable_spec hcast
  cases Option.some.inj (hc3.symm.trans hcl)
  obtain ⟨c5, hc5, hcl5⟩ := Cond.classLink_spec hown hlink e.platform hpl
  cases Option.some.inj (hc4.symm.trans hc5)
  obtain ⟨vm', X', st⟩ := Stand.thenCaughtThrough X q (g := F0 m pc ls rest) rfl (Steps.refl _) (by rw [hT]; exact hcell) (by rw [hv]; rfl) (by obtain ⟨k9, h9, -⟩ := Vm.findClass_spec hcl; exact ⟨k9, h9⟩) pre x suf hsplit
    (fun z hz => by
      rcases hpass z hz with h | ⟨hz0, nm, hl1, hn1⟩
      · exact Or.inl h
      · obtain ⟨c6, hc6, hcl6⟩ := Cond.classLink_spec hown hl1 e.platform hpl
        obtain ⟨a8, b8, h1, h2, h3⟩ := hn1
        cases Option.some.inj (h1.symm.trans hcl)
        cases Option.some.inj (h2.symm.trans hc6)
        exact Or.inr ⟨hz0, _, hcl6, h3⟩) hx (Or.inr ⟨h0, c4, hcl5, hasg⟩)
  obtain ⟨t, a1, b1⟩ := kk (T.setVm vm') hT X'
  exact ⟨t, st.trans a1, b1⟩
end Rows
section Ends
variable {p : Program} {l : Launch} {e : Env} {R : Room} {s : State} {m : MethodId} {args : Array Value} {below : List Frame} {meth : Method} {c : Code} {H : Heap} {locs : List Loc} {cells slots : Nat} {Q : State → Prop}
variable {mc ms : Nat} {free : Addr → Prop} {A0 A1 : Nat → Prop} {H0 : Heap} {a : Array Value} {ls : Array Slot} {st0 rest : List Value}
variable {Qc : Array Value → State → Outcome → State → Prop} {XC : String → State → State → Prop}
/-- what a body that may throw owes at its end -/
def vx_MQ (below : List Frame) (Qc : Array Value → State → Outcome → State → Prop) (XC : String → State → State → Prop) (a : Array Value) (s : State) (mc ms : Nat) (free : Addr → Prop) : State → Prop := fun t =>
  ∃ o, t.status = .running ∧ Ended t below o ∧ vx_Q Qc XC mc ms free a s o t
theorem vx_ret {g : JFrame} {mc ms : Nat} (k : W p l e R s m args below meth c H locs cells slots (MQ below Qc args s mc ms free) g) : W p l e R s m args below meth c H locs cells slots (vx_MQ below Qc XC args s mc ms free) g := by
  intro T hT X
  obtain ⟨t, a1, o, b1, b2, b3, b4⟩ := k T hT X
  exact ⟨t, a1, o, b1, b2, Or.inl ⟨b3, b4⟩⟩
/-- not caught here: it goes on to the caller -/
theorem vx_widen {g : JFrame} {q : Addr} {k n : Nat} (h1 : cells ≤ k) (h2 : slots ≤ n) (kk : vx_W p l e R s m args below meth c H locs k n Q g q) : vx_W p l e R s m args below meth c H locs cells slots Q g q := fun T hT X => kk T hT (stand_widen X h1 h2)
theorem vx_out {pc : Nat} {E : String} {ce : Cell} {q : Addr} {mc ms : Nat} (hout : ∀ x ∈ c.exceptionTable.toList, covers x pc = false) (hlocks : meth.locks = false) (hcell : H[q]? = some ce) (hv : ce.vm = .none) (hcl : s.vm.findClass E = some ce.cls)
    (hx : ∀ t : State, t.heap = H → s.vm.Alike t.vm → XC E s t) (hf : ∀ z ∈ locs, free z.base) (hc : cells ≤ mc) (hs : slots ≤ ms) :
    vx_W p l e R s m args below meth c H locs cells slots (vx_MQ below Qc XC args s mc ms free) (F0 m pc ls rest) q := by
  intro T hT X
  obtain ⟨st1, hrun, hend, hW, hsm⟩ := X.leaveThrown q (g := F0 m pc ls rest) rfl rfl rfl hout hlocks
  have hcell9 : (T.setFrames (.throwing q :: below)).heap[q]? = some ce := by
    show T.heap[q]? = some ce
    rw [hT]; exact hcell
  exact ⟨_, st1, .threw q, hrun, hend, Or.inr ⟨q, rfl, E, ce, locs, hx _ hT hW.alike, hcell9, hv, hcl, hW, hsm.mono hc hs, hf⟩⟩
theorem vx_frame {U : State} {k n : Nat} (h : s.sameButNew ({ U with vm := s.vm } : State) locs k n) : s.heap.size ≤ U.heap.size ∧ ∀ q : Nat, q < s.heap.size → (∀ z ∈ locs, z.base ≠ q) → U.heap[q]? = s.heap[q]? := by
  obtain ⟨-, h2, -, -, -, h6⟩ := h
  refine ⟨h2, fun q hq hz => ?_⟩
  obtain ⟨c9, e1, e2, e3, e4⟩ := h6 q _ (Array.getElem?_eq_getElem hq)
  have hs : c9.slots = (s.heap[q]).slots := Array.ext_getElem? fun i => e4 i fun hm => hz _ hm rfl
  have h9 : c9 = s.heap[q] := by
    rw [hs] at e2
    exact e2
  have e5 : U.heap[q]? = some c9 := e1
  rw [e5, h9, Array.getElem?_eq_getElem hq]
/-- the words of a throw but the four that speak of the heap -/
def vx_no (w : Cond) : Bool := decide (w ≠ .isRef (.static Bundle.tN "UNASSIGNED_STACK" Bundle.steD)) && decide (w ≠ .isRef (.static Bundle.tN "SUPPRESSED_SENTINEL" Bundle.listD)) && decide (w ≠ .laysStatic Bundle.tN "UNASSIGNED_STACK" Bundle.steD) && decide (w ≠ .laysStatic Bundle.tN "SUPPRESSED_SENTINEL" Bundle.listD)
def vx_at0 (own : String) (ic : Nat) (X : String) (names : List String) : List Cond := (Bundle.ownAtoms0 own ic X names).filter vx_no
def vx_atS (own : String) (ic : Nat) (X : String) (names : List String) : List Cond := (Bundle.ownAtoms own ic X names).filter vx_no
/-- a word that the tables alone decide, or a good one -/
def vx_ot (w : Cond) : Bool := w.onTables || goodWord w
theorem vx_ot_at {args a' : Array Value} {s U : State} {w : Cond} (hW : s.WarmedH U.vm) (hvm : s.vm = U.vm) (hg : vx_ot w = true) (h : w.before args s = true) : w.before a' U = true := by
  simp only [vx_ot, Bool.or_eq_true] at hg
  rcases hg with hg | hg
  · exact va_tabs hg hvm h
  · exact word_at hW (good_of_word hg) h
/-- a list's words: the good ones out of the method's own list, the others by premises of their own -/
theorem vx_hat {args : Array Value} {s : State} {L B : List Cond} (h1 : ∀ w ∈ L.filter goodWord, w.before args s = true) (h2 : ∀ w ∈ L.filter (fun w => !goodWord w), w ∈ B) (h3 : ∀ w ∈ B, w.before args s = true) : ∀ w ∈ L, w.before args s = true := by
  intro w hw
  by_cases g : goodWord w = true
  · exact h1 w (List.mem_filter.mpr ⟨hw, g⟩)
  · refine h3 w (h2 w (List.mem_filter.mpr ⟨hw, ?_⟩))
    show (!goodWord w) = true
    cases hgw : goodWord w
    · rfl
    · exact absurd hgw g
theorem vx_c {args : Array Value} {s : State} {w : Cond} {B : List Cond} (h : w.before args s = true) (t : ∀ w ∈ B, w.before args s = true) : ∀ w' ∈ w :: B, w'.before args s = true := fun w' h' => (List.mem_cons.mp h').elim (fun e => by rw [e]; exact h) (t w')
theorem vx_n {args : Array Value} {s : State} : ∀ w ∈ ([] : List Cond), w.before args s = true := fun _ h => nomatch h
theorem vx_own {args : Array Value} {s : State} {L : List Cond} (h1 : ∀ w ∈ L.filter vx_no, w.before args s = true)
    (hU : (Cond.isRef (.static Bundle.tN "UNASSIGNED_STACK" Bundle.steD)).before args s = true) (hN : (Cond.isRef (.static Bundle.tN "SUPPRESSED_SENTINEL" Bundle.listD)).before args s = true)
    (lU : (Cond.laysStatic Bundle.tN "UNASSIGNED_STACK" Bundle.steD).before args s = true) (lN : (Cond.laysStatic Bundle.tN "SUPPRESSED_SENTINEL" Bundle.listD).before args s = true) : ∀ w ∈ L, w.before args s = true := by
  intro w hw
  by_cases e1 : w = .isRef (.static Bundle.tN "UNASSIGNED_STACK" Bundle.steD)
  · rw [e1]; exact hU
  · by_cases e2 : w = .isRef (.static Bundle.tN "SUPPRESSED_SENTINEL" Bundle.listD)
    · rw [e2]; exact hN
    · by_cases e3 : w = .laysStatic Bundle.tN "UNASSIGNED_STACK" Bundle.steD
      · rw [e3]; exact lU
      · by_cases e4 : w = .laysStatic Bundle.tN "SUPPRESSED_SENTINEL" Bundle.listD
        · rw [e4]; exact lN
        · exact h1 w (List.mem_filter.mpr ⟨hw, by unfold vx_no; rw [decide_eq_true e1, decide_eq_true e2, decide_eq_true e3, decide_eq_true e4]; rfl⟩)
/-- where a static field lies, its class's statics cell in H -/
def vx_L (C n d : String) (A : Nat → Prop) (U : State) (H : Heap) : Prop := ∃ (c : ClassId) (k : Class) (i : Nat) (f : Field) (a : Nat) (cell : Cell), U.vm.findClass C = some c ∧ U.fieldFound? C n d = some (c, k, i, f) ∧ f.isStatic = true ∧ k.statics = some a ∧ H[a]? = some cell ∧ cell.vm.isStatics = true ∧ cell.cls = c ∧ f.slot < cell.slots.size ∧ k.staticTypes[f.slot]? = some f.type ∧ ¬ A a
theorem vx_L.moved {C n d : String} {A : Nat → Prop} {u U : State} {H : Heap} (hvm : u.vm.Alike U.vm) (h : vx_L C n d A u H) : vx_L C n d A U H := by
  obtain ⟨c, k, i, f, a, cell, h1, h2, h3, h4, h5, h6, h7, h8, h9, h10⟩ := h
  obtain ⟨k', hi', he⟩ := State.fieldFound?_setVm hvm h2
  exact ⟨c, k', i, f, a, cell, by rw [hvm.findClass]; exact h1, hi', h3, by rw [he]; exact h4, h5, h6, h7, h8, by rw [he]; exact h9, h10⟩
theorem vx_L.kept {C n d : String} {A : Nat → Prop} {U : State} {H H1 : Heap} (h : vx_L C n d A U H) (hq : ∀ a : Nat, a < H.size → ¬ A a → H1[a]? = H[a]?) : vx_L C n d A U H1 := by
  obtain ⟨c, k, i, f, a, cell, h1, h2, h3, h4, h5, h6, h7, h8, h9, h10⟩ := h
  exact ⟨c, k, i, f, a, cell, h1, h2, h3, h4, by rw [hq a (Array.getElem?_eq_some_iff.mp h5).1 h10]; exact h5, h6, h7, h8, h9, h10⟩
theorem vx_L.narrow {C n d : String} {A B : Nat → Prop} {U : State} {H : Heap} (h : vx_L C n d A U H) (hAB : ∀ q, B q → A q) : vx_L C n d B U H := by
  obtain ⟨c, k, i, f, a, cell, h1, h2, h3, h4, h5, h6, h7, h8, h9, h10⟩ := h
  exact ⟨c, k, i, f, a, cell, h1, h2, h3, h4, h5, h6, h7, h8, h9, fun z => h10 (hAB _ z)⟩
theorem vx_L.word {C n d : String} {A : Nat → Prop} {s : State} {args : Array Value} (h : vx_L C n d A s s.heap) : (Cond.laysStatic C n d).before args s = true := by
  obtain ⟨c, k, i, f, a, cell, h1, h2, h3, h4, h5, h6, h7, h8, h9, -⟩ := h
  show (Cond.laysStatic C n d).holds args s none s [] = true
  exact Cond.laysStatic_of h1 h2 h3 h4 h5 h6 h7 h8 h9
/-- .. and what it holds: null or some reference -/
def vx_Zq (C n d : String) (A : Nat → Prop) (U : State) (H : Heap) : Prop := va_Zq C n d A U H ∧ vx_L C n d A U H
theorem vx_Zq.moved {C n d : String} {A : Nat → Prop} {u U : State} {H : Heap} (hvm : u.vm.Alike U.vm) (h : vx_Zq C n d A u H) : vx_Zq C n d A U H := ⟨va_Zq.moved hvm h.1, vx_L.moved hvm h.2⟩
theorem vx_Zq.kept {C n d : String} {A : Nat → Prop} {U : State} {H H1 : Heap} (h : vx_Zq C n d A U H) (hq : ∀ a : Nat, a < H.size → ¬ A a → H1[a]? = H[a]?) : vx_Zq C n d A U H1 := ⟨va_Zq.kept h.1 hq, vx_L.kept h.2 hq⟩
theorem vx_Zq.narrow {C n d : String} {A B : Nat → Prop} {U : State} {H : Heap} (h : vx_Zq C n d A U H) (hAB : ∀ q, B q → A q) : vx_Zq C n d B U H := ⟨va_Zq.narrow h.1 hAB, vx_L.narrow h.2 hAB⟩
theorem vx_Zqof {args : Array Value} {s : State} {C n d : String} {A : Nat → Prop} (hl : (Cond.laysStatic C n d).before args s = true) (hini : (Cond.initialized C).before args s = true) (h : (Cond.isRef (.static C n d)).before args s = true) (hA : ∀ a : Nat, a < s.heap.size → ¬ A a) : vx_Zq C n d A s s.heap := by
  refine ⟨va_Zqof hl hini h hA, ?_⟩
  obtain ⟨c, k, i, f, a, cell, h1, h2, h3, h4, h5, h6, h7, h8, h9⟩ := Cond.laysStatic_spec hl
  exact ⟨c, k, i, f, a, cell, h1, h2, h3, h4, h5, h6, h7, h8, h9, hA a (Array.getElem?_eq_some_iff.mp h5).1⟩
theorem vx_isRef {C n d : String} {v : Value} {A : Nat → Prop} {s : State} {args : Array Value} (h : va_Z C n d v A s s.heap) (hv : v.isRef = true) : (Cond.isRef (.static C n d)).before args s = true := by
  obtain ⟨cf, kf, fi, f, a, cell, h1, h2, h3, h4, h5, h6, h7, -⟩ := h
  have he : (Term.static C n d).eval args s none [] s = some v := by
    simp [Term.eval, State.fieldNamed?, h1, h2, h4, h5, h6, h7]
  simp only [Cond.before, Cond.holds, Cond.value, he]
  cases v <;> simp_all [Value.isRef]
theorem vx_isRefq {C n d : String} {A : Nat → Prop} {s : State} {args : Array Value} (h : va_Zq C n d A s s.heap) : (Cond.isRef (.static C n d)).before args s = true := by
  rcases h with h | ⟨t, h⟩
  · exact vx_isRef h rfl
  · exact vx_isRef h rfl
/-- the same frame, seen from here: as if the method were called anew in this heap -/
theorem vx_rebase {T : State} (X : Stand p l e R s m args below meth c T locs cells slots) {R' : Room} (hf : R'.frames ≤ R.frames) (hl : R'.locals ≤ R.locals) (hc : cells + R'.cells ≤ R.cells) (hs : slots + R'.slots ≤ R.slots) :
    Stand p l e R' ((T.setVm s.vm).setFrames (.invoking m args :: below)) m args below meth c T [] 0 0 := by
  have htop : (T.setVm s.vm).topJava?.isSome := X.here.top
  have hF : ((T.setVm s.vm).setFrames (.invoking m args :: below)).frames = .invoking m args :: below := State.frames_setFrames _ (State.cur_lt_of_top htop)
  obtain ⟨g₀, hg0⟩ := Option.isSome_iff_exists.mp htop
  obtain ⟨r, hr⟩ := State.topJava?_eq_some.mp hg0
  have hl9 : e.platform.stackLimits (T.setVm s.vm).me = e.platform.stackLimits s.me := X.limits
  have hb9 : (T.setVm s.vm).me.stackBytes = s.me.stackBytes := X.bytes
  refine ⟨X.admits, X.cas, X.clock, hF, ?_, X.hears, X.method, X.code, X.here, X.tail, X.warmed, ?_, ?_, ?_⟩
  · have h := X.room
    have hU : ((T.setVm s.vm).setFrames (.invoking m args :: below)).localsInUse = s.localsInUse := by
      rw [State.localsInUse_invoking hF (meth := meth) (c := c) X.method X.code, State.localsInUse_invoking X.frames X.method X.code]
    simp only [State.hasRoom, Bool.and_eq_true, decide_eq_true_eq] at h ⊢
    obtain ⟨⟨⟨⟨h1, h2, h3, h4, h5, h6⟩, h7⟩, h8⟩, h9⟩ := h
    rw [X.frames, List.length_cons] at h2 h3
    have q1 := X.heapSize
    have q2 := X.used
    simp only [hF, hU, List.length_cons, State.stackLimits_setFrames, State.stackBytes_setFrames, hl9, hb9]
    refine ⟨⟨⟨⟨by omega, by omega, by omega, by omega, by omega, h6⟩, ?_⟩, ?_⟩, X.book⟩
    · show T.heap.size + R'.cells ≤ e.platform.maxCells
      omega
    · show T.slotsUsed + R'.slots ≤ e.platform.maxSlots
      omega
  · rw [State.stackLimits_setFrames]; rfl
  · rw [State.stackBytes_setFrames]; rfl
  · refine ⟨?_, Nat.le_refl _, Nat.le_refl _, ?_, ?_, fun a c9 h9 => ⟨c9, h9, rfl, rfl, fun _ _ => rfl⟩⟩
    · obtain ⟨t, ht, -⟩ := State.frames_cons hr
      show T.setVm s.vm = { ((T.setVm s.vm).setFrames (.invoking m args :: below)).setFrames (T.setVm s.vm).frames with heap := T.heap, slotsUsed := T.slotsUsed }
      rw [State.setFrames_setFrames, State.setFrames_self ht]
      rfl
    · show T.slotsUsed = T.slotsUsed + ((T.heap.toList.drop T.heap.size).map (·.slots.size)).sum
      rw [List.drop_eq_nil_of_le (Nat.le_of_eq Array.length_toList)]
      rfl
    · show ((T.heap.toList.drop T.heap.size).map (·.slots.size)).sum ≤ 0
      rw [List.drop_eq_nil_of_le (Nat.le_of_eq Array.length_toList)]
      exact Nat.le_refl _
/-- 'throw new E()': new; dup; invokespecial; athrow -/
theorem vx_throw0 {cc : ByteArray} {pc : Nat} (hexec : p.tables.exec = Jvm.exec) (hb : c.code = cc) (hl : l.stackTraces = false) {own cls : String} {names : List String} {ik ic mc ms : Nat} {A : Nat → Prop}
    (hown : s.vm.findClass own = some m.cls) (hcls : Bundle.fit cls = true) (hnames : ∀ n ∈ names, Bundle.fit n = true)
    (hk : (Cond.classLink own ik cls).before args s = true) (hini : (Cond.initialized cls).before args s = true) (hat : ∀ w ∈ vx_at0 own ic cls names, w.before args s = true)
    (hgood : ∀ w ∈ Cond.classLink own ik cls :: Cond.initialized cls :: vx_at0 own ic cls names, vx_ot w = true)
    (hU : vx_Zq Bundle.tN "UNASSIGNED_STACK" Bundle.steD A s s.heap) (hN : vx_Zq Bundle.tN "SUPPRESSED_SENTINEL" Bundle.listD A s s.heap) (hS : va_S A s.heap H locs) (hsize : ls.size = c.maxLocals)
    (d0 : decode cc pc = .ok (.new ik, 3)) (d3 : decode cc (pc + 3) = .ok (.dup, 1)) (d4 : decode cc (pc + 4) = .ok (.invokespecial ic, 3)) (d7 : decode cc (pc + 7) = .ok (.athrow, 1))
    (hout : ∀ x ∈ c.exceptionTable.toList, covers x (pc + 7) = false)
    (hRframes : names.length + 3 < R.frames) (hRlocals : (rest.map fun v => v.category).sum + (13 * (names.length + 1) + 42) ≤ R.locals) (hRcells : cells + 1 ≤ R.cells) (hRslots : slots + 6 ≤ R.slots) (hlocks : meth.locks = false)
    (hx : ∀ t : State, s.vm.Alike t.vm → H.size ≤ t.heap.size → (∀ q : Nat, q < H.size → t.heap[q]? = H[q]?) → XC cls s t)
    (hf : ∀ z ∈ locs, free z.base) (hc : cells + 1 ≤ mc) (hs : slots + 6 ≤ ms) :
    W p l e R s m args below meth c H locs cells slots (vx_MQ below Qc XC args s mc ms free) (F0 m pc ls rest) := by
  intro T hT X
  have htr : e.platform.stackTraces = false := (show e.platform.stackTraces = l.stackTraces by rw [X.admits.platform]).trans hl
  have Y := vx_rebase X (R' := { frames := R.frames, locals := R.locals, cells := 1, slots := 6 }) (Nat.le_refl _) (Nat.le_refl _) hRcells hRslots
  obtain ⟨s', hA⟩ : ∃ z, z = (T.setVm s.vm).setFrames (.invoking m args :: below) := ⟨_, rfl⟩
  rw [← hA] at Y
  have hvm : s'.vm = s.vm := by rw [hA]; rfl
  have hhp : s'.heap = H := by rw [hA]; exact hT
  have hW0 : s.WarmedH s'.vm := by rw [hvm]; exact State.WarmedH.refl s
  have hat' : ∀ w ∈ vx_at0 own ic cls names, w.before args s' = true := fun w hw => vx_ot_at hW0 hvm.symm (hgood w (List.mem_cons_of_mem _ (List.mem_cons_of_mem _ hw))) (hat w hw)
  have hk' : (Cond.classLink own ik cls).before args s' = true := vx_ot_at hW0 hvm.symm (hgood _ List.mem_cons_self) hk
  have hini' : (Cond.initialized cls).before args s' = true := vx_ot_at hW0 hvm.symm (hgood _ (List.mem_cons_of_mem _ List.mem_cons_self)) hini
  have hU' : vx_Zq Bundle.tN "UNASSIGNED_STACK" Bundle.steD A s' s'.heap := by rw [hhp]; exact vx_Zq.moved hW0.alike (hU.kept hS.2.1)
  have hN' : vx_Zq Bundle.tN "SUPPRESSED_SENTINEL" Bundle.listD A s' s'.heap := by rw [hhp]; exact vx_Zq.moved hW0.alike (hN.kept hS.2.1)
  have h : ∀ w ∈ Bundle.ownAtoms0 own ic cls names, w.before args s' = true := vx_own hat' (vx_isRefq hU'.1) (vx_isRefq hN'.1) hU'.2.word hN'.2.word
  have hown' : s'.vm.findClass own = some m.cls := by rw [hvm]; exact hown
  have hins : (Cond.instantiable cls 6).before args s' = true := h _ (by simp [Bundle.ownAtoms0])
  obtain ⟨vm₁, cX, kX, hfX, hkX, -, -, X₁, st1⟩ := Y.newCold hexec (own := own) (C := cls) (index := ik) (n := 6) hown' hk' hins hini'
    (g := F0 m pc ls rest) rfl (by rw [hb]; exact d0) (Nat.le_refl _) (Nat.le_refl _)
  generalize hT1 : (T.setVm vm₁).pushCell { cls := cX, slots := kX.instanceTypes.map defaultValue, vm := .none } = T1 at X₁ st1
  have hcat : (Value.ref T.heap.size).category = 1 := rfl
  have hcellA : T1.heap[T.heap.size]? = some (freshCell cX kX) := by rw [← hT1]; exact State.heap_pushCell_size _ _
  have d3' : decode c.code (pc + 3) = .ok (.dup, 1) := by rw [hb]; exact d3
  obtain ⟨U, hsteps, hrun, hend, hW, hsame, ce, hce, hO⟩ := X₁.ctorThrow0 hexec htr (own := own) (cls := cls) (names := names) (ic := ic) hown' hcls hnames h (fun x hx => nomatch hx) hfX hkX hcellA (by rw [hhp, hT]; exact Nat.le_refl _)
    (g := { method := m, pc := pc + 4, locals := ls, stack := .ref T.heap.size :: .ref T.heap.size :: rest, locked := none }) rfl hsize rfl rfl (rest := rest) rfl
    (by rw [hb]; exact d4) (by rw [hb]; exact d7) hout hRframes (by simp only [List.map_cons, List.sum_cons, hcat]; omega) hlocks
  obtain ⟨f1, f2⟩ := vx_frame hsame
  rw [hhp] at f1 f2
  have hWs : s.WarmedH U.vm := State.WarmedH.trans hW0 hW
  have hcl : s.vm.findClass cls = some ce.cls := by
    have h9 := hO.cls
    rw [hvm] at h9
    exact h9
  have hall : s.sameButNew ({ U with vm := s.vm } : State) locs mc ms := by
    subst hA
    obtain ⟨e1, e2⟩ := hsame
    rw [State.setFrames_setFrames] at e1
    have h2 : (T.setVm s.vm).sameButNew ({ U with vm := s.vm } : State) [] (0 + 1) (0 + 6) := ⟨e1, e2⟩
    have h3 := X.same.trans h2
    rw [List.append_nil] at h3
    exact h3.mono hc hs
  refine ⟨U, ?_, .threw T.heap.size, hrun, hend, Or.inr ⟨T.heap.size, rfl, cls, ce, locs, hx U hWs.alike f1 (fun q hq => f2 q hq (fun z hz => nomatch hz)), hce, hO.vm, hcl, hWs, hall, hf⟩⟩
  refine st1 _ ?_
  show Steps p.tables e below (T1.setTop { method := m, pc := pc + 3, locals := ls, stack := .ref T.heap.size :: rest, locked := none }) _
  jvm_step X₁.here [X₁.here.top, hexec, d3', Value.category]
  exact hsteps
/-- 'throw new E("text")': new; dup; ldc; invokespecial; athrow -/
theorem vx_throwS {cc : ByteArray} {pc : Nat} (hexec : p.tables.exec = Jvm.exec) (hb : c.code = cc) (hl : l.stackTraces = false) {own cls text : String} {names : List String} {ik is ic mc ms sa : Nat} {A : Nat → Prop}
    (hown : s.vm.findClass own = some m.cls) (hcls : Bundle.fit cls = true) (hnames : ∀ n ∈ names, Bundle.fit n = true)
    (hk : (Cond.classLink own ik cls).before args s = true) (hini : (Cond.initialized cls).before args s = true) (hstr : vk_R own is text sa s) (hat : ∀ w ∈ vx_atS own ic cls names, w.before args s = true)
    (hgood : ∀ w ∈ Cond.classLink own ik cls :: Cond.initialized cls :: vx_atS own ic cls names, vx_ot w = true)
    (hU : vx_Zq Bundle.tN "UNASSIGNED_STACK" Bundle.steD A s s.heap) (hN : vx_Zq Bundle.tN "SUPPRESSED_SENTINEL" Bundle.listD A s s.heap) (hS : va_S A s.heap H locs) (hsize : ls.size = c.maxLocals)
    (d0 : decode cc pc = .ok (.new ik, 3)) (d3 : decode cc (pc + 3) = .ok (.dup, 1)) (d4 : decode cc (pc + 4) = .ok (.ldc is, 2)) (d6 : decode cc (pc + 6) = .ok (.invokespecial ic, 3)) (d9 : decode cc (pc + 9) = .ok (.athrow, 1))
    (hout : ∀ x ∈ c.exceptionTable.toList, covers x (pc + 9) = false)
    (hRframes : names.length + 3 < R.frames) (hRlocals : (rest.map fun v => v.category).sum + (13 * (names.length + 1) + 43) ≤ R.locals) (hRcells : cells + 1 ≤ R.cells) (hRslots : slots + 6 ≤ R.slots) (hlocks : meth.locks = false)
    (hx : ∀ t : State, s.vm.Alike t.vm → H.size ≤ t.heap.size → (∀ q : Nat, q < H.size → t.heap[q]? = H[q]?) → XC cls s t)
    (hf : ∀ z ∈ locs, free z.base) (hc : cells + 1 ≤ mc) (hs : slots + 6 ≤ ms) :
    W p l e R s m args below meth c H locs cells slots (vx_MQ below Qc XC args s mc ms free) (F0 m pc ls rest) := by
  intro T hT X
  have htr : e.platform.stackTraces = false := (show e.platform.stackTraces = l.stackTraces by rw [X.admits.platform]).trans hl
  have Y := vx_rebase X (R' := { frames := R.frames, locals := R.locals, cells := 1, slots := 6 }) (Nat.le_refl _) (Nat.le_refl _) hRcells hRslots
  obtain ⟨s', hA⟩ : ∃ z, z = (T.setVm s.vm).setFrames (.invoking m args :: below) := ⟨_, rfl⟩
  rw [← hA] at Y
  have hvm : s'.vm = s.vm := by rw [hA]; rfl
  have hhp : s'.heap = H := by rw [hA]; exact hT
  have hW0 : s.WarmedH s'.vm := by rw [hvm]; exact State.WarmedH.refl s
  have hat' : ∀ w ∈ vx_atS own ic cls names, w.before args s' = true := fun w hw => vx_ot_at hW0 hvm.symm (hgood w (List.mem_cons_of_mem _ (List.mem_cons_of_mem _ hw))) (hat w hw)
  have hk' : (Cond.classLink own ik cls).before args s' = true := vx_ot_at hW0 hvm.symm (hgood _ List.mem_cons_self) hk
  have hini' : (Cond.initialized cls).before args s' = true := vx_ot_at hW0 hvm.symm (hgood _ (List.mem_cons_of_mem _ List.mem_cons_self)) hini
  have hU' : vx_Zq Bundle.tN "UNASSIGNED_STACK" Bundle.steD A s' s'.heap := by rw [hhp]; exact vx_Zq.moved hW0.alike (hU.kept hS.2.1)
  have hN' : vx_Zq Bundle.tN "SUPPRESSED_SENTINEL" Bundle.listD A s' s'.heap := by rw [hhp]; exact vx_Zq.moved hW0.alike (hN.kept hS.2.1)
  have h : ∀ w ∈ Bundle.ownAtoms own ic cls names, w.before args s' = true := vx_own hat' (vx_isRefq hU'.1) (vx_isRefq hN'.1) hU'.2.word hN'.2.word
  have hown' : s'.vm.findClass own = some m.cls := by rw [hvm]; exact hown
  have hins : (Cond.instantiable cls 6).before args s' = true := h _ (by simp [Bundle.ownAtoms])
  obtain ⟨vm₁, cX, kX, hfX, hkX, -, -, X₁, st1⟩ := Y.newCold hexec (own := own) (C := cls) (index := ik) (n := 6) hown' hk' hins hini'
    (g := F0 m pc ls rest) rfl (by rw [hb]; exact d0) (Nat.le_refl _) (Nat.le_refl _)
  generalize hT1 : (T.setVm vm₁).pushCell { cls := cX, slots := kX.instanceTypes.map defaultValue, vm := .none } = T1 at X₁ st1
  have hcat : (Value.ref T.heap.size).category = 1 := rfl
  have hcellA : T1.heap[T.heap.size]? = some (freshCell cX kX) := by rw [← hT1]; exact State.heap_pushCell_size _ _
  have d3' : decode c.code (pc + 3) = .ok (.dup, 1) := by rw [hb]; exact d3
  have d4' : decode c.code (pc + 4) = .ok (.ldc is, 2) := by rw [hb]; exact d4
  have hstr' : vk_R own is text sa s' := vk_R.warm hW0 hstr
  obtain ⟨U, hsteps, hrun, hend, hW, hsame, ce, hce, hO⟩ := X₁.ctorThrowS hexec htr (own := own) (cls := cls) (names := names) (ic := ic) hown' hcls hnames h (fun x hx => nomatch hx) hfX hkX hcellA (by rw [hhp, hT]; exact Nat.le_refl _) (msg := .ref sa) rfl
    (g := { method := m, pc := pc + 6, locals := ls, stack := .ref sa :: .ref T.heap.size :: .ref T.heap.size :: rest, locked := none }) rfl hsize rfl rfl (rest := rest) rfl
    (by rw [hb]; exact d6) (by rw [hb]; exact d9) hout hRframes (by simp only [List.map_cons, List.sum_cons, hcat]; omega) hlocks
  obtain ⟨f1, f2⟩ := vx_frame hsame
  rw [hhp] at f1 f2
  have hWs : s.WarmedH U.vm := State.WarmedH.trans hW0 hW
  have hcl : s.vm.findClass cls = some ce.cls := by
    have h9 := hO.cls
    rw [hvm] at h9
    exact h9
  have hall : s.sameButNew ({ U with vm := s.vm } : State) locs mc ms := by
    subst hA
    obtain ⟨e1, e2⟩ := hsame
    rw [State.setFrames_setFrames] at e1
    have h2 : (T.setVm s.vm).sameButNew ({ U with vm := s.vm } : State) [] (0 + 1) (0 + 6) := ⟨e1, e2⟩
    have h3 := X.same.trans h2
    rw [List.append_nil] at h3
    exact h3.mono hc hs
  refine ⟨U, ?_, .threw T.heap.size, hrun, hend, Or.inr ⟨T.heap.size, rfl, cls, ce, locs, hx U hWs.alike f1 (fun q hq => f2 q hq (fun z hz => nomatch hz)), hce, hO.vm, hcl, hWs, hall, hf⟩⟩
  refine st1 _ ?_
  show Steps p.tables e below (T1.setTop { method := m, pc := pc + 3, locals := ls, stack := .ref T.heap.size :: rest, locked := none }) _
  jvm_step X₁.here [X₁.here.top, hexec, d3', Value.category]
  exact X₁.ldcString hexec (own := own) (text := text) (index := is) (a := sa) hown' hstr'.1 hstr'.2
    (g := { method := m, pc := pc + 4, locals := ls, stack := .ref T.heap.size :: .ref T.heap.size :: rest, locked := none }) rfl d4' _ hsteps
/-- 'throw new E("text")', the text by a wide index -/
theorem vx_throwSW {cc : ByteArray} {pc : Nat} (hexec : p.tables.exec = Jvm.exec) (hb : c.code = cc) (hl : l.stackTraces = false) {own cls text : String} {names : List String} {ik is ic mc ms sa : Nat} {A : Nat → Prop}
    (hown : s.vm.findClass own = some m.cls) (hcls : Bundle.fit cls = true) (hnames : ∀ n ∈ names, Bundle.fit n = true)
    (hk : (Cond.classLink own ik cls).before args s = true) (hini : (Cond.initialized cls).before args s = true) (hstr : vk_R own is text sa s) (hat : ∀ w ∈ vx_atS own ic cls names, w.before args s = true)
    (hgood : ∀ w ∈ Cond.classLink own ik cls :: Cond.initialized cls :: vx_atS own ic cls names, vx_ot w = true)
    (hU : vx_Zq Bundle.tN "UNASSIGNED_STACK" Bundle.steD A s s.heap) (hN : vx_Zq Bundle.tN "SUPPRESSED_SENTINEL" Bundle.listD A s s.heap) (hS : va_S A s.heap H locs) (hsize : ls.size = c.maxLocals)
    (d0 : decode cc pc = .ok (.new ik, 3)) (d3 : decode cc (pc + 3) = .ok (.dup, 1)) (d4 : decode cc (pc + 4) = .ok (.ldc_w is, 3)) (d7 : decode cc (pc + 7) = .ok (.invokespecial ic, 3)) (d10 : decode cc (pc + 10) = .ok (.athrow, 1))
    (hout : ∀ x ∈ c.exceptionTable.toList, covers x (pc + 10) = false)
    (hRframes : names.length + 3 < R.frames) (hRlocals : (rest.map fun v => v.category).sum + (13 * (names.length + 1) + 43) ≤ R.locals) (hRcells : cells + 1 ≤ R.cells) (hRslots : slots + 6 ≤ R.slots) (hlocks : meth.locks = false)
    (hx : ∀ t : State, s.vm.Alike t.vm → H.size ≤ t.heap.size → (∀ q : Nat, q < H.size → t.heap[q]? = H[q]?) → XC cls s t)
    (hf : ∀ z ∈ locs, free z.base) (hc : cells + 1 ≤ mc) (hs : slots + 6 ≤ ms) :
    W p l e R s m args below meth c H locs cells slots (vx_MQ below Qc XC args s mc ms free) (F0 m pc ls rest) := by
  intro T hT X
  have htr : e.platform.stackTraces = false := (show e.platform.stackTraces = l.stackTraces by rw [X.admits.platform]).trans hl
  have Y := vx_rebase X (R' := { frames := R.frames, locals := R.locals, cells := 1, slots := 6 }) (Nat.le_refl _) (Nat.le_refl _) hRcells hRslots
  obtain ⟨s', hA⟩ : ∃ z, z = (T.setVm s.vm).setFrames (.invoking m args :: below) := ⟨_, rfl⟩
  rw [← hA] at Y
  have hvm : s'.vm = s.vm := by rw [hA]; rfl
  have hhp : s'.heap = H := by rw [hA]; exact hT
  have hW0 : s.WarmedH s'.vm := by rw [hvm]; exact State.WarmedH.refl s
  have hat' : ∀ w ∈ vx_atS own ic cls names, w.before args s' = true := fun w hw => vx_ot_at hW0 hvm.symm (hgood w (List.mem_cons_of_mem _ (List.mem_cons_of_mem _ hw))) (hat w hw)
  have hk' : (Cond.classLink own ik cls).before args s' = true := vx_ot_at hW0 hvm.symm (hgood _ List.mem_cons_self) hk
  have hini' : (Cond.initialized cls).before args s' = true := vx_ot_at hW0 hvm.symm (hgood _ (List.mem_cons_of_mem _ List.mem_cons_self)) hini
  have hU' : vx_Zq Bundle.tN "UNASSIGNED_STACK" Bundle.steD A s' s'.heap := by rw [hhp]; exact vx_Zq.moved hW0.alike (hU.kept hS.2.1)
  have hN' : vx_Zq Bundle.tN "SUPPRESSED_SENTINEL" Bundle.listD A s' s'.heap := by rw [hhp]; exact vx_Zq.moved hW0.alike (hN.kept hS.2.1)
  have h : ∀ w ∈ Bundle.ownAtoms own ic cls names, w.before args s' = true := vx_own hat' (vx_isRefq hU'.1) (vx_isRefq hN'.1) hU'.2.word hN'.2.word
  have hown' : s'.vm.findClass own = some m.cls := by rw [hvm]; exact hown
  have hins : (Cond.instantiable cls 6).before args s' = true := h _ (by simp [Bundle.ownAtoms])
  obtain ⟨vm₁, cX, kX, hfX, hkX, -, -, X₁, st1⟩ := Y.newCold hexec (own := own) (C := cls) (index := ik) (n := 6) hown' hk' hins hini'
    (g := F0 m pc ls rest) rfl (by rw [hb]; exact d0) (Nat.le_refl _) (Nat.le_refl _)
  generalize hT1 : (T.setVm vm₁).pushCell { cls := cX, slots := kX.instanceTypes.map defaultValue, vm := .none } = T1 at X₁ st1
  have hcat : (Value.ref T.heap.size).category = 1 := rfl
  have hcellA : T1.heap[T.heap.size]? = some (freshCell cX kX) := by rw [← hT1]; exact State.heap_pushCell_size _ _
  have d3' : decode c.code (pc + 3) = .ok (.dup, 1) := by rw [hb]; exact d3
  have d4' : decode c.code (pc + 4) = .ok (.ldc_w is, 3) := by rw [hb]; exact d4
  have hstr' : vk_R own is text sa s' := vk_R.warm hW0 hstr
  obtain ⟨U, hsteps, hrun, hend, hW, hsame, ce, hce, hO⟩ := X₁.ctorThrowS hexec htr (own := own) (cls := cls) (names := names) (ic := ic) hown' hcls hnames h (fun x hx => nomatch hx) hfX hkX hcellA (by rw [hhp, hT]; exact Nat.le_refl _) (msg := .ref sa) rfl
    (g := { method := m, pc := pc + 7, locals := ls, stack := .ref sa :: .ref T.heap.size :: .ref T.heap.size :: rest, locked := none }) rfl hsize rfl rfl (rest := rest) rfl
    (by rw [hb]; exact d7) (by rw [hb]; exact d10) hout hRframes (by simp only [List.map_cons, List.sum_cons, hcat]; omega) hlocks
  obtain ⟨f1, f2⟩ := vx_frame hsame
  rw [hhp] at f1 f2
  have hWs : s.WarmedH U.vm := State.WarmedH.trans hW0 hW
  have hcl : s.vm.findClass cls = some ce.cls := by
    have h9 := hO.cls
    rw [hvm] at h9
    exact h9
  have hall : s.sameButNew ({ U with vm := s.vm } : State) locs mc ms := by
    subst hA
    obtain ⟨e1, e2⟩ := hsame
    rw [State.setFrames_setFrames] at e1
    have h2 : (T.setVm s.vm).sameButNew ({ U with vm := s.vm } : State) [] (0 + 1) (0 + 6) := ⟨e1, e2⟩
    have h3 := X.same.trans h2
    rw [List.append_nil] at h3
    exact h3.mono hc hs
  refine ⟨U, ?_, .threw T.heap.size, hrun, hend, Or.inr ⟨T.heap.size, rfl, cls, ce, locs, hx U hWs.alike f1 (fun q hq => f2 q hq (fun z hz => nomatch hz)), hce, hO.vm, hcl, hWs, hall, hf⟩⟩
  refine st1 _ ?_
  show Steps p.tables e below (T1.setTop { method := m, pc := pc + 3, locals := ls, stack := .ref T.heap.size :: rest, locked := none }) _
  jvm_step X₁.here [X₁.here.top, hexec, d3', Value.category]
  exact X₁.ldcStringW hexec (own := own) (text := text) (index := is) (a := sa) hown' hstr'.1 hstr'.2
    (g := { method := m, pc := pc + 4, locals := ls, stack := .ref T.heap.size :: .ref T.heap.size :: rest, locked := none }) rfl d4' _ hsteps
end Ends
section Bodies
variable {l : Launch}
theorem vx_ofW {y : MethodName} {ws ws' : List Cond} {rm : Room} {Pc : Array Value → State → Prop} {Qc : Array Value → State → Outcome → State → Prop} {XC : String → State → State → Prop} {mc ms : Nat} {free : Addr → Prop} {cc : ByteArray} {maxL : Nat} {ret : Option FieldType}
    (hy : plainName y.cls = true) (hw : ws = Cond.code y cc maxL ret :: ws')
    (body : ∀ p e s m args below meth c s₁, BodyLoose p l y (headSpec ws rm) cc maxL ret e s m args below meth c s₁ → c.maxLocals = maxL → (∀ x ∈ c.exceptionTable.toList, False) → Pc args s →
      W p l e (headSpec ws rm).room s m args below meth c s.heap [] 0 0 (vx_MQ below Qc XC args s mc ms free) (entryFrame m args maxL)) : vx_Met l y ws rm Pc Qc XC mc ms free := by
  refine MetFree.of_bodyS (code := cc) (maxLocals := maxL) (ret := ret) hy ?_ ?_
  · intro args s m h hn
    obtain ⟨meth, c, h1, h2, h3, h4, h5, h6, -, -⟩ := Cond.code_spec hn (atoms_spec (ws := ws) h _ (by rw [hw]; exact List.mem_cons_self))
    exact ⟨meth, c, h1, h2, h3, h4, h5, h6⟩
  · intro p e s m args below meth c s₁ B hml hP _
    have hh0 : s₁.heap = s.heap := by rw [B.state]; rfl
    have ht : ∀ x ∈ c.exceptionTable.toList, False := by
      obtain ⟨meth9, c9, h1, h2, -, -, -, -, h7, -⟩ := Cond.code_spec B.named (atoms_spec (ws := ws) B.pre _ (by rw [hw]; exact List.mem_cons_self))
      cases Option.some.inj (h1.symm.trans B.method)
      cases Option.some.inj (h2.symm.trans (Stand.of_body B).code)
      intro x hx
      rw [Array.isEmpty_iff.mp h7] at hx
      cases hx
    obtain ⟨t, a1, o, b1, b2, b3⟩ := body p e s m args below meth c s₁ B hml ht hP s₁ hh0 (Stand.of_body B)
    exact ⟨t, o, a1, b1, b2, b3⟩
/-- the table of a body with handlers -/
theorem vx_table {p : Program} {x y : MethodName} {S : Spec} {cc bytes : ByteArray} {maxL maxL' : Nat} {ret ret' : Option FieldType} {e : Env} {s s₁ : State} {m : MethodId} {args : Array Value} {below : List Frame} {meth : Method} {c : Code} {hh : List (Nat × Nat × Nat × Nat)}
    (B : BodyLoose p l y S cc maxL ret e s m args below meth c s₁) (h : (Cond.codeWith y bytes maxL' ret' hh).before args s = true) : c.exceptionTable.toList = tableOf hh := by
  obtain ⟨m9, meth9, c9, hn9, h1, h2, -, -, h6, -⟩ := Cond.codeWith_spec h
  cases Option.some.inj (hn9.symm.trans B.named)
  cases Option.some.inj (h1.symm.trans B.method)
  cases Option.some.inj (h2.symm.trans (Stand.of_body B).code)
  rw [← h6, table_eq]
end Bodies
end VXA
/-! ===== END ===== -/
/-! ===== BEGIN a static call of a method with an exception table ===== -/
section VXS
variable {p : Program} {l : Launch} {e : Env} {R : Room} {s : State} {m : MethodId} {args : Array Value} {below : List Frame} {meth : Method} {c : Code} {T : State} {H : Heap} {locs : List Loc} {cells slots : Nat}
abbrev vx_CSW (R : Room) (s : State) (args : Array Value) (own : String) (index : Nat) (y : MethodName) (bytes : ByteArray) (maxL : Nat) (ret : Option FieldType) (hh : List (Nat × Nat × Nat × Nat)) (ws : List Cond) (rm : Room) (mc ms n : Nat) : Prop :=
  (rm.cells = mc ∧ rm.slots = ms ∧ rm.frames + 1 ≤ R.frames ∧ 8 + (maxL + 11) + rm.locals ≤ R.locals ∧ (∀ w ∈ ws, ∀ (a' : Array Value) (U : State), s.WarmedH U.vm → w.before a' U = true) ∧ Cond.codeWith y bytes maxL ret hh ∈ ws) ∧
  (Cond.codeWith y bytes maxL ret hh).before args s = true ∧ (Cond.initialized y.cls).before args s = true ∧ (y.cls ≠ "java/lang/invoke/MethodHandle" ∧ y.cls ≠ "java/lang/invoke/VarHandle") ∧
  (∀ sig, parseMethodDescriptor y.desc = some sig → n = sig.parameters.length) ∧ (Cond.methodLink own index y).before args s = true ∧ (Cond.static y).before args s = true
theorem vx_cwSW {own : String} {index maxL mc ms : Nat} {y : MethodName} {bytes : ByteArray} {ret : Option FieldType} {hh : List (Nat × Nat × Nat × Nat)} {Ts ws ws' : List Cond} {rm : Room} (n : Nat) (ht : ∀ w ∈ Ts, w.before args s = true) (hT : GoodIn Ts (va_wsS own index y ws)) (hw : ws = Cond.codeWith y bytes maxL ret hh :: ws') (hrc : rm.cells = mc) (hrs : rm.slots = ms)
    (hd : y.cls ≠ "java/lang/invoke/MethodHandle" ∧ y.cls ≠ "java/lang/invoke/VarHandle" ∧ (parseMethodDescriptor y.desc).map (fun d => d.parameters.length) = some n) (hR : rm.frames + 1 ≤ R.frames ∧ 8 + (maxL + 11) + rm.locals ≤ R.locals) :
    vx_CSW R s args own index y bytes maxL ret hh ws rm mc ms n := by
  have ok : ∀ w ∈ va_wsS own index y ws, w.before args s = true := fun w h => ht w (hT w h).1
  have hG : GoodIn Ts ws := fun w h => hT w (by unfold va_wsS; exact List.mem_append_right _ h)
  have hc : Cond.codeWith y bytes maxL ret hh ∈ ws := by rw [hw]; exact List.mem_cons_self
  refine ⟨⟨hrc, hrs, hR.1, hR.2, pay_in ht hG, hc⟩, ht _ (hG _ hc).1, ok _ (by simp [va_wsS]), ⟨hd.1, hd.2.1⟩, fun sig h => ?_, ok _ (by simp [va_wsS]), ok _ (by simp [va_wsS])⟩
  have h2 := hd.2.2
  rw [h] at h2
  exact (Option.some.inj h2).symm
theorem vx_callSW (X : Stand p l e R s m args below meth c T locs cells slots) (hexec : p.tables.exec = Jvm.exec) {own : String} {index : Nat} {y : MethodName} {bytes : ByteArray} {maxL : Nat} {ret : Option FieldType} {hh : List (Nat × Nat × Nat × Nat)}
    (hown : s.vm.findClass own = some m.cls) (hlink : (Cond.methodLink own index y).before args s = true) (hstat : (Cond.static y).before args s = true) (hinit : (Cond.initialized y.cls).before args s = true)
    (hcode : (Cond.codeWith y bytes maxL ret hh).before args s = true) (hy : y.cls ≠ "java/lang/invoke/MethodHandle" ∧ y.cls ≠ "java/lang/invoke/VarHandle")
    {W9 : Nat} {Pre : Pt → Array Value → Prop} {Post : Pt → Array Value → Option Value → Pt → Prop} (hK : Back l R p e below s args y 3 W9 Pre Post)
    {g : JFrame} (hg : g.method = m) (hsize : g.locals.size = c.maxLocals) {argsL rest : List Value} (hlen : ∀ sig, parseMethodDescriptor y.desc = some sig → argsL.length = sig.parameters.length)
    (hstack : g.stack = argsL.reverse ++ rest) (hW : 2 * g.monitorRoom + (rest.map fun v => v.category).sum ≤ W9) (hdg : decode c.code g.pc = .ok (.invokestatic index, 3))
    (hpre : ∀ vm₁, s.WarmedH vm₁ → Pre ⟨T.setVm vm₁, locs, cells, slots⟩ argsL.toArray) :
    ∃ (v : Option Value) (vm₁ : Vm) (B : Pt), s.WarmedH vm₁ ∧ Stand p l e R s m args below meth c B.U B.locs B.cells B.slots ∧ Post ⟨T.setVm vm₁, locs, cells, slots⟩ argsL.toArray v B ∧
      ∀ target, Steps p.tables e below (B.U.setTop { g with pc := g.pc + 3, stack := v.toList ++ rest }) target → Steps p.tables e below (T.setTop g) target := by
  obtain ⟨mk, methM, cM, hnamed, hmethM, -, -, -, -, -, -, hsigM⟩ := Cond.codeWith_spec hcode
  have hstatic : methM.isStatic = true := Cond.static_spec hnamed hmethM hstat
  obtain ⟨kP, hkP, -⟩ := className_of_methodNamed hnamed
  have hinitP : kP.init = .initialized := Cond.initialized_spec (findClass_of_methodNamed hnamed) hkP hinit
  obtain ⟨vm₁, X₁, hstep₁⟩ := X.invokestatic hexec hown hlink hnamed hmethM hstatic hkP hinitP hy (g := g) hg (argsL := argsL) (rest := rest) (hlen _ hsigM) hstack hdg
  obtain ⟨v, B, X', hpost, hsteps⟩ := hK m meth c ⟨T.setVm vm₁, locs, cells, slots⟩ { g with stack := rest } (.invokestatic index) mk argsL.toArray X₁ hg hsize hdg hW (X₁.named hnamed) (hpre vm₁ X₁.warmed)
  exact ⟨v, vm₁, B, X₁.warmed, X', hpost, fun target h => hstep₁ _ fun acts => by rw [doInvoke_state]; exact hsteps.trans h⟩
theorem vx_runSW {y : MethodName} {bytes cc : ByteArray} {maxL nL mc ms n index : Nat} {ret : Option FieldType} {hh : List (Nat × Nat × Nat × Nat)} {ws : List Cond} {rm : Room} {Pc : Array Value → State → Prop} {Qc : Array Value → State → Outcome → State → Prop} {free : Addr → Prop} {Ts : List Cond} {own : String} {As rest : List Value} {g : JFrame}
    (S : CallFix p m c cc nL s args Ts own) (hM : Met l y ws rm Pc Qc mc ms free) (cw : vx_CSW R s args own index y bytes maxL ret hh ws rm mc ms n) (hp : PreS s H Pc As)
    (hg : g.method = m) (hn : As.length = n) (hsize : g.locals.size = nL) (hstack : g.stack = As.reverse ++ rest) (hW : 2 * g.monitorRoom + (rest.map fun v => v.category).sum ≤ 8) (hdg : decode cc g.pc = .ok (.invokestatic index, 3)) (hf : cells + mc ≤ R.cells ∧ slots + ms ≤ R.slots) :
    va_Run p l e R s m args below meth c H locs cells slots mc ms g rest (Qc As.toArray) (free) := by
  obtain ⟨⟨hrc, hrs, hfr, hlo, hws, hcw⟩, hcode, hini, hy, hlen, hl, hstt⟩ := cw
  have hK : Back l R p e below s args y 3 8 (PreOf R mc ms Pc) (PostOf Qc mc ms free) := va_backW (hh := hh) (bytes := bytes) (maxL := maxL) (ret := ret) hM hp.1 hrc hrs hfr hlo hws hcw (fun a' U hW => word_at hW (Or.inl (by first | rfl | simp [Cond.onTables, Cond.keeps, Cond.steady])) hini)
  obtain ⟨hx, hb, hml, ho, -⟩ := S
  intro T hT X
  obtain ⟨v, vm₁, ⟨U', l2, c2, s2⟩, hW₁, X', ⟨g', mk, t, L, e1, e2, hq, h1, hL, h2, h3⟩, st⟩ := vx_callSW X hx (hh := hh) (bytes := bytes) (maxL := maxL) (ret := ret) ho hl hstt hini hcode hy hK hg (hsize.trans hml.symm) (argsL := As) (rest := rest) (fun sig h => hn.trans (hlen sig h)) hstack hW (by rw [hb]; exact hdg)
    (fun vm₁ hW₁ => ⟨hf.1, hf.2, hp.2 (T.setVm vm₁) hT hW₁⟩)
  dsimp only [Pt.U, Pt.locs, Pt.cells, Pt.slots] at X' e1 e2 h1 h2 h3 st
  subst h1; subst h2; subst h3
  exact ⟨v, (T.setVm vm₁).calling g' mk As.toArray, t, U', L, hT, X', hL, e1, e2, hq, st⟩
/-- not caught here, past rows that name other classes: it goes on to the caller -/
theorem vx_outP {p : Program} {l : Launch} {e : Env} {R : Room} {s : State} {m : MethodId} {args : Array Value} {below : List Frame} {meth : Method} {c : Code} {H : Heap} {locs : List Loc} {cells slots : Nat} {free : Addr → Prop} {ls : Array Slot} {rest : List Value} {Qc : Array Value → State → Outcome → State → Prop} {XC : String → State → State → Prop}
    {pc : Nat} {own E : String} {ce : Cell} {q : Addr} {mc ms : Nat} (hown : s.vm.findClass own = some m.cls) (hlocks : meth.locks = false)
    (hpass : ∀ z ∈ c.exceptionTable.toList, covers z pc = false ∨ (z.catchType ≠ 0 ∧ ∃ nm : String, (Cond.classLink own z.catchType nm).before args s = true ∧ va_Nc E nm s)) (hcell : H[q]? = some ce) (hv : ce.vm = .none) (hcl : s.vm.findClass E = some ce.cls)
    (hx : ∀ t : State, t.heap = H → s.vm.Alike t.vm → XC E s t) (hf : ∀ z ∈ locs, free z.base) (hc : cells ≤ mc) (hs : slots ≤ ms) :
    vx_W p l e R s m args below meth c H locs cells slots (vx_MQ below Qc XC args s mc ms free) (F0 m pc ls rest) q := by
  intro T hT X
  have hpl : e.platform.magicAccessors = ({} : Platform).magicAccessors := by rw [X.admits.platform]
  obtain ⟨vm', hW', X', st⟩ := Stand.outThrough X hlocks q (g := F0 m pc ls rest) rfl rfl rfl (cell := ce) (by rw [hT]; exact hcell) (by rw [hv]; rfl)
    (by obtain ⟨k9, h9, -⟩ := Vm.findClass_spec hcl; exact ⟨k9, h9⟩) (fun z hz => by
      rcases hpass z hz with h | ⟨hz0, nm, hl1, hn1⟩
      · exact Or.inl h
      · obtain ⟨c6, hc6, hcl6⟩ := Cond.classLink_spec hown hl1 e.platform hpl
        obtain ⟨a8, b8, h1, h2, h3⟩ := hn1
        cases Option.some.inj (h1.symm.trans hcl)
        cases Option.some.inj (h2.symm.trans hc6)
        exact Or.inr ⟨hz0, _, hcl6, h3⟩)
  obtain ⟨g₀, hfr⟩ := X'.frames_eq
  have hcell9 : ((T.setVm vm').setFrames (.throwing q :: below)).heap[q]? = some ce := by
    show T.heap[q]? = some ce
    rw [hT]; exact hcell
  have hend : Ended ((T.setVm vm').setFrames (.throwing q :: below)) below (.threw q) := State.frames_setFrames _ (State.cur_lt_of_frames hfr)
  refine ⟨(T.setVm vm').setFrames (.throwing q :: below), ?_, .threw q, X'.here.running, hend, Or.inr ⟨q, rfl, E, ce, locs, hx _ hT (X'.ends _).1.alike, hcell9, hv, hcl, (X'.ends _).1, (X'.ends _).2.mono hc hs, hf⟩⟩
  rw [X.pushThrowing_eq]
  exact st
/-- a thing of a world lies in the heap -/
theorem vx_lt {D : va_G} {cl : List vw_C} {ws : va_W} {H1 : Heap} (h : va_P D cl ws H1) {k : Nat} {q : Nat × va_E} (hk : ws[k]? = some q) : q.1 < H1.size := (h k q hk).lt
end VXS
/-! ===== END ===== -/
/-! ===== BEGIN methods with a table of their own: called by a name, returning or throwing ===== -/
section VXH
/-! vx_backW, vx_callVX, vx_callSX, vx_callVW, vx_runVW, vx_runVX, vx_runSX, vx_ofWH follow the same proofs as their sisters above (Free/Laws.lean, Shelf42/LK1.lean); vx_outP calls Shelf42/NT130.lean (outThrough). -/
section
variable {l : Launch} {R : Room} {p : Program} {e : Env} {below : List Frame} {s : State} {sargs : Array Value} {y : MethodName} {len W9 : Nat}
theorem vx_backW {ws : List Cond} {rm : Room} {Pc : Array Value → State → Prop} {Qc : Array Value → State → Outcome → State → Prop} {XC : String → State → State → Prop} {mc ms : Nat} {free : Addr → Prop} {bytes : ByteArray} {maxL : Nat} {ret : Option FieldType} {hh : List (Nat × Nat × Nat × Nat)}
    (hM : vx_Met l y ws rm Pc Qc XC mc ms free) (hblind : FrameBlind Pc) (hrc : rm.cells = mc) (hrs : rm.slots = ms)
    (hframes : rm.frames + 1 ≤ R.frames) (hlocals : W9 + (maxL + 11) + rm.locals ≤ R.locals)
    (hws : ∀ w ∈ ws, ∀ a' U, s.WarmedH U.vm → w.before a' U = true) (hcode : Cond.codeWith y bytes maxL ret hh ∈ ws) (hinit : ∀ a' U, s.WarmedH U.vm → (Cond.initialized y.cls).before a' U = true) :
    vx_Back l R p e below s sargs y len W9 (PreOf R mc ms Pc) (PostOf Qc mc ms free) (vx_Post XC mc ms free) := by
  intro m meth c A g ig mk a X hg hsize hdg hW hn hp
  have h1 : (headSpec ws rm).pre.before a A.U = true := atoms_intro fun w hw => hws w hw _ _ X.warmed
  have h2 : (Cond.codeWith y bytes maxL ret hh).before a A.U = true := hws _ hcode _ _ X.warmed
  have h3 : (Cond.initialized y.cls).before a A.U = true := hinit _ _ X.warmed
  have h4 : A.cells + (headSpec ws rm).room.cells ≤ R.cells := by rw [show (headSpec ws rm).room.cells = mc from hrc]; exact hp.1
  have h5 : A.slots + (headSpec ws rm).room.slots ≤ R.slots := by rw [show (headSpec ws rm).room.slots = ms from hrs]; exact hp.2.1
  have hPc : Pc a (A.U.calling g mk a) := hblind _ _ _ _ hp.2.2
  obtain ⟨U, Ls, c0, s0⟩ := A
  dsimp only [Pt.U, Pt.locs, Pt.cells, Pt.slots] at h1 h2 h3 h4 h5 X hn hPc ⊢
  obtain ⟨m9, methY, cY, hn9, hmY, hcY, -, hlY, -⟩ := Cond.codeWith_spec h2
  cases Option.some.inj (hn9.symm.trans hn)
  obtain ⟨kY, hkY, -⟩ := className_of_methodNamed hn
  have hinitY : kY.init = .initialized := Cond.initialized_spec (findClass_of_methodNamed hn) hkY h3
  have h : At U g.method c below := by rw [hg]; exact X.here
  have hlocals9 : W9 + (maxL + 11) + (headSpec ws rm).room.locals ≤ R.locals := hlocals
  have happ : (headSpec ws rm).appliesLoose y e.platform (U.calling g mk a) = true :=
    Spec.appliesLoose_calling (g := g) h hdg hn hkY hinitY
      (X.room_calling (g := g) (R' := (headSpec ws rm).room) hsize hmY hcY hframes (by rw [hlY]; omega) h4 h5) h1
  obtain ⟨mid, hmid⟩ := h.above
  have hfr : (U.setTop g).frames = (.java g :: mid) ++ below := by rw [State.frames_setTop' g h.top, hmid]; rfl
  obtain ⟨o, s₂, hsteps, -, hend, hq⟩ := Steps.callFree hM p X.admits X.cas X.clock (acts := []) hfr happ hPc trivial
  have hq' : vx_Q Qc XC mc ms free a (U.calling g mk a) o s₂ := hq
  rw [State.frames_setTop' g h.top] at hend
  obtain ⟨g₀, hg0⟩ := Option.isSome_iff_exists.mp h.top
  obtain ⟨r, hr⟩ := State.topJava?_eq_some.mp hg0
  have hr' : (({ U with heap := s₂.heap, slotsUsed := s₂.slotsUsed } : State).setVm s₂.vm).frames = .java g₀ :: r := hr
  rcases hq' with ⟨hqc, L, hfe, hL⟩ | ⟨q, rfl, E, ce, L, hx, hce, hcv, hcl, hW₂, hsm, hL⟩
  · obtain ⟨⟨v, rfl⟩, hW₂, e2, q2, q3, q4, q5, q6⟩ := id hfe
    have e3 : s₂ = ({ (U.calling g mk a).setFrames s₂.frames with heap := s₂.heap, slotsUsed := s₂.slotsUsed } : State).setVm s₂.vm := by
      have : s₂ = ({ s₂ with vm := (U.calling g mk a).vm } : State).setVm s₂.vm := rfl
      rw [e2] at this
      exact this
    obtain ⟨c₂, i₂, len₂, hc₂, hd₂, hf₂⟩ := hend
    have hW' : U.WarmedH s₂.vm := hW₂
    have hcc : c₂ = c := by
      have h1 : s₂.code? g.method = U.code? g.method := by
        rw [State.code?_eq, State.code?_eq, hW'.alike.method?]
      exact Option.some.inj (hc₂.symm.trans (h1.trans h.code))
    subst hcc
    have hlen : len₂ = len := by rw [hdg] at hd₂; cases hd₂; rfl
    subst hlen
    have hs₂ : s₂ = (({ U with heap := s₂.heap, slotsUsed := s₂.slotsUsed } : State).setVm s₂.vm).setTop { g with pc := g.pc + len₂, stack := v.toList ++ g.stack } := by
      refine e3.trans ?_
      rw [hf₂, State.calling_eq h.top, State.setFrames_setFrames, State.setTop_of_frames _ hr', hr]
      rfl
    have hsame : U.sameButNew ({ U with heap := s₂.heap, slotsUsed := s₂.slotsUsed } : State) L mc ms := by
      refine ⟨?_, q2, q3, q4, q5, q6⟩
      obtain ⟨t, ht, -⟩ := State.frames_cons hr
      show ({ U with heap := s₂.heap, slotsUsed := s₂.slotsUsed } : State) = { U.setFrames U.frames with heap := s₂.heap, slotsUsed := s₂.slotsUsed }
      rw [State.setFrames_self ht]
    subst hg
    refine Or.inl ⟨v, ⟨(({ U with heap := s₂.heap, slotsUsed := s₂.slotsUsed } : State).setVm s₂.vm), Ls ++ L, c0 + mc, s0 + ms⟩,
      ⟨X.admits, X.cas, X.clock, X.frames, X.room, X.hears, X.method, X.code, (X.here.setHeapUsed s₂.heap s₂.slotsUsed).setVm hW'.alike, X.tail, State.WarmedH.trans X.warmed hW', X.limits, X.bytes, X.same.trans (hsame.setVm s.vm)⟩,
      ⟨g, mk, s₂, L, rfl, rfl, hqc, rfl, hL, rfl, rfl⟩, ?_⟩
    show Steps p.tables e below _ ((({ U with heap := s₂.heap, slotsUsed := s₂.slotsUsed } : State).setVm s₂.vm).setTop { g with pc := g.pc + len₂, stack := v.toList ++ g.stack })
    rw [← hs₂]
    exact hsteps
  · obtain ⟨e2, q2, q3, q4, q5, q6⟩ := id hsm
    have e3 : s₂ = ({ (U.calling g mk a).setFrames s₂.frames with heap := s₂.heap, slotsUsed := s₂.slotsUsed } : State).setVm s₂.vm := by
      have : s₂ = ({ s₂ with vm := (U.calling g mk a).vm } : State).setVm s₂.vm := rfl
      rw [e2] at this
      exact this
    have hf₂ : s₂.frames = .throwing q :: .java g :: U.frames.tail := hend
    have hW' : U.WarmedH s₂.vm := hW₂
    have hs₂ : s₂ = ((({ U with heap := s₂.heap, slotsUsed := s₂.slotsUsed } : State).setVm s₂.vm).setTop g).pushFrame (.throwing q) := by
      refine e3.trans ?_
      rw [hf₂, State.calling_eq h.top, State.setFrames_setFrames, State.pushFrame, State.frames_setTop _ hr', State.setTop_of_frames _ hr', State.setFrames_setFrames, hr]
      rfl
    have hsame : U.sameButNew ({ U with heap := s₂.heap, slotsUsed := s₂.slotsUsed } : State) L mc ms := by
      refine ⟨?_, q2, q3, q4, q5, q6⟩
      obtain ⟨t, ht, -⟩ := State.frames_cons hr
      show ({ U with heap := s₂.heap, slotsUsed := s₂.slotsUsed } : State) = { U.setFrames U.frames with heap := s₂.heap, slotsUsed := s₂.slotsUsed }
      rw [State.setFrames_self ht]
    subst hg
    refine Or.inr ⟨q, ⟨(({ U with heap := s₂.heap, slotsUsed := s₂.slotsUsed } : State).setVm s₂.vm), Ls ++ L, c0 + mc, s0 + ms⟩,
      ⟨X.admits, X.cas, X.clock, X.frames, X.room, X.hears, X.method, X.code, (X.here.setHeapUsed s₂.heap s₂.slotsUsed).setVm hW'.alike, X.tail, State.WarmedH.trans X.warmed hW', X.limits, X.bytes, X.same.trans (hsame.setVm s.vm)⟩,
      ⟨g, mk, s₂, L, E, ce, rfl, rfl, hx, hce, hcv, hcl, rfl, hL, rfl, rfl⟩, ?_⟩
    show Steps p.tables e below _ (((({ U with heap := s₂.heap, slotsUsed := s₂.slotsUsed } : State).setVm s₂.vm).setTop g).pushFrame (.throwing q))
    rw [← hs₂]
    exact hsteps
end
variable {p : Program} {l : Launch} {e : Env} {R : Room} {s : State} {m : MethodId} {args : Array Value} {below : List Frame} {meth : Method} {c : Code} {T : State} {H : Heap} {locs : List Loc} {cells slots : Nat}
theorem vx_callVX (X : Stand p l e R s m args below meth c T locs cells slots) (hexec : p.tables.exec = Jvm.exec) {own C : String} {index : Nat} {y : MethodName} {bytes : ByteArray} {maxL : Nat} {ret : Option FieldType} {hh : List (Nat × Nat × Nat × Nat)}
    (hown : s.vm.findClass own = some m.cls) (hlink : (Cond.methodLink own index y).before args s = true) (hinst : (Cond.instanceMethod y).before args s = true) (hsel : (Cond.selects C y y).before args s = true)
    (hcode : (Cond.codeWith y bytes maxL ret hh).before args s = true) (hy : y.cls ≠ "java/lang/invoke/MethodHandle" ∧ y.cls ≠ "java/lang/invoke/VarHandle")
    {W9 : Nat} {Pre : Pt → Array Value → Prop} {Post : Pt → Array Value → Option Value → Pt → Prop} {PostX : Pt → Array Value → Addr → Pt → Prop} (hK : vx_Back l R p e below s args y 3 W9 Pre Post PostX)
    {b : Addr} {cellB : Cell} (hcell : T.heap[b]? = some cellB) (hobj : cellB.vm.isStatics = false) (hcls : s.vm.findClass C = some cellB.cls)
    {g : JFrame} (hg : g.method = m) (hsize : g.locals.size = c.maxLocals) {argsL rest : List Value} (hlen : ∀ sig, parseMethodDescriptor y.desc = some sig → argsL.length = sig.parameters.length)
    (hstack : g.stack = argsL.reverse ++ .ref b :: rest) (hW : 2 * g.monitorRoom + (rest.map fun v => v.category).sum ≤ W9) (hdg : decode c.code g.pc = .ok (.invokevirtual index, 3))
    (hpre : ∀ vm₁, s.WarmedH vm₁ → Pre ⟨T.setVm vm₁, locs, cells, slots⟩ (Value.ref b :: argsL).toArray) :
    (∃ (v : Option Value) (vm₁ : Vm) (B : Pt), s.WarmedH vm₁ ∧ Stand p l e R s m args below meth c B.U B.locs B.cells B.slots ∧ Post ⟨T.setVm vm₁, locs, cells, slots⟩ (Value.ref b :: argsL).toArray v B ∧
      ∀ target, Steps p.tables e below (B.U.setTop { g with pc := g.pc + 3, stack := v.toList ++ rest }) target → Steps p.tables e below (T.setTop g) target) ∨
    (∃ (q : Addr) (vm₁ : Vm) (B : Pt), s.WarmedH vm₁ ∧ Stand p l e R s m args below meth c B.U B.locs B.cells B.slots ∧ PostX ⟨T.setVm vm₁, locs, cells, slots⟩ (Value.ref b :: argsL).toArray q B ∧
      Steps p.tables e below (T.setTop g) ((B.U.setTop { g with stack := rest }).pushFrame (.throwing q))) := by
  obtain ⟨mk, methM, hnamed, hmethM, hstM, habM⟩ := Cond.instanceMethod_spec hinst
  obtain ⟨m8, methM', cM, hn8, hmethM', -, -, -, -, -, -, hsigM⟩ := Cond.codeWith_spec hcode
  cases Option.some.inj (hn8.symm.trans hnamed)
  cases hmethM.symm.trans hmethM'
  obtain ⟨c2, r2, m2, q1, q2, q3, q4, kP, hkP, hkPi⟩ := Cond.selects_spec hsel
  cases hcls.symm.trans q1
  cases (State.methodFound?_of_named hnamed hy).symm.trans q2
  cases hnamed.symm.trans q3
  have hselP : selectMethod e.platform s.vm cellB.cls mk = .method mk := by rw [Launch.admits_selectMethod X.admits]; exact q4
  obtain ⟨vm₁, X₁, hstep₁⟩ := X.invokevirtual hexec hown hlink hnamed hmethM hstM hkP hkPi hy (a := b) (cell := cellB) hcell
    (fun z h => by rw [h] at hobj; cases hobj) hselP hmethM habM hkP hkPi (g := g) hg (argsL := argsL) (rest := rest) (hlen _ hsigM) hstack hdg
  rcases hK m meth c ⟨T.setVm vm₁, locs, cells, slots⟩ { g with stack := rest } (.invokevirtual index) mk (Value.ref b :: argsL).toArray X₁ hg hsize hdg hW (X₁.named hnamed) (hpre vm₁ X₁.warmed) with ⟨v, B, X', hpost, hsteps⟩ | ⟨q, B, X', hpost, hsteps⟩
  · exact Or.inl ⟨v, vm₁, B, X₁.warmed, X', hpost, fun target h => hstep₁ _ fun acts => by rw [doInvoke_state]; exact hsteps.trans h⟩
  · exact Or.inr ⟨q, vm₁, B, X₁.warmed, X', hpost, hstep₁ _ fun acts => by rw [doInvoke_state]; exact hsteps⟩
theorem vx_callSX (X : Stand p l e R s m args below meth c T locs cells slots) (hexec : p.tables.exec = Jvm.exec) {own : String} {index : Nat} {y : MethodName} {bytes : ByteArray} {maxL : Nat} {ret : Option FieldType} {hh : List (Nat × Nat × Nat × Nat)}
    (hown : s.vm.findClass own = some m.cls) (hlink : (Cond.methodLink own index y).before args s = true) (hstat : (Cond.static y).before args s = true) (hinit : (Cond.initialized y.cls).before args s = true)
    (hcode : (Cond.codeWith y bytes maxL ret hh).before args s = true) (hy : y.cls ≠ "java/lang/invoke/MethodHandle" ∧ y.cls ≠ "java/lang/invoke/VarHandle")
    {W9 : Nat} {Pre : Pt → Array Value → Prop} {Post : Pt → Array Value → Option Value → Pt → Prop} {PostX : Pt → Array Value → Addr → Pt → Prop} (hK : vx_Back l R p e below s args y 3 W9 Pre Post PostX)
    {g : JFrame} (hg : g.method = m) (hsize : g.locals.size = c.maxLocals) {argsL rest : List Value} (hlen : ∀ sig, parseMethodDescriptor y.desc = some sig → argsL.length = sig.parameters.length)
    (hstack : g.stack = argsL.reverse ++ rest) (hW : 2 * g.monitorRoom + (rest.map fun v => v.category).sum ≤ W9) (hdg : decode c.code g.pc = .ok (.invokestatic index, 3))
    (hpre : ∀ vm₁, s.WarmedH vm₁ → Pre ⟨T.setVm vm₁, locs, cells, slots⟩ argsL.toArray) :
    (∃ (v : Option Value) (vm₁ : Vm) (B : Pt), s.WarmedH vm₁ ∧ Stand p l e R s m args below meth c B.U B.locs B.cells B.slots ∧ Post ⟨T.setVm vm₁, locs, cells, slots⟩ argsL.toArray v B ∧
      ∀ target, Steps p.tables e below (B.U.setTop { g with pc := g.pc + 3, stack := v.toList ++ rest }) target → Steps p.tables e below (T.setTop g) target) ∨
    (∃ (q : Addr) (vm₁ : Vm) (B : Pt), s.WarmedH vm₁ ∧ Stand p l e R s m args below meth c B.U B.locs B.cells B.slots ∧ PostX ⟨T.setVm vm₁, locs, cells, slots⟩ argsL.toArray q B ∧
      Steps p.tables e below (T.setTop g) ((B.U.setTop { g with stack := rest }).pushFrame (.throwing q))) := by
  obtain ⟨mk, methM, cM, hnamed, hmethM, -, -, -, -, -, -, hsigM⟩ := Cond.codeWith_spec hcode
  have hstatic : methM.isStatic = true := Cond.static_spec hnamed hmethM hstat
  obtain ⟨kP, hkP, -⟩ := className_of_methodNamed hnamed
  have hinitP : kP.init = .initialized := Cond.initialized_spec (findClass_of_methodNamed hnamed) hkP hinit
  obtain ⟨vm₁, X₁, hstep₁⟩ := X.invokestatic hexec hown hlink hnamed hmethM hstatic hkP hinitP hy (g := g) hg (argsL := argsL) (rest := rest) (hlen _ hsigM) hstack hdg
  rcases hK m meth c ⟨T.setVm vm₁, locs, cells, slots⟩ { g with stack := rest } (.invokestatic index) mk argsL.toArray X₁ hg hsize hdg hW (X₁.named hnamed) (hpre vm₁ X₁.warmed) with ⟨v, B, X', hpost, hsteps⟩ | ⟨q, B, X', hpost, hsteps⟩
  · exact Or.inl ⟨v, vm₁, B, X₁.warmed, X', hpost, fun target h => hstep₁ _ fun acts => by rw [doInvoke_state]; exact hsteps.trans h⟩
  · exact Or.inr ⟨q, vm₁, B, X₁.warmed, X', hpost, hstep₁ _ fun acts => by rw [doInvoke_state]; exact hsteps⟩
theorem vx_callVW (X : Stand p l e R s m args below meth c T locs cells slots) (hexec : p.tables.exec = Jvm.exec) {own C : String} {index : Nat} {y : MethodName} {bytes : ByteArray} {maxL : Nat} {ret : Option FieldType} {hh : List (Nat × Nat × Nat × Nat)}
    (hown : s.vm.findClass own = some m.cls) (hlink : (Cond.methodLink own index y).before args s = true) (hinst : (Cond.instanceMethod y).before args s = true) (hsel : (Cond.selects C y y).before args s = true)
    (hcode : (Cond.codeWith y bytes maxL ret hh).before args s = true) (hy : y.cls ≠ "java/lang/invoke/MethodHandle" ∧ y.cls ≠ "java/lang/invoke/VarHandle")
    {W9 : Nat} {Pre : Pt → Array Value → Prop} {Post : Pt → Array Value → Option Value → Pt → Prop} (hK : Back l R p e below s args y 3 W9 Pre Post)
    {b : Addr} {cellB : Cell} (hcell : T.heap[b]? = some cellB) (hobj : cellB.vm.isStatics = false) (hcls : s.vm.findClass C = some cellB.cls)
    {g : JFrame} (hg : g.method = m) (hsize : g.locals.size = c.maxLocals) {argsL rest : List Value} (hlen : ∀ sig, parseMethodDescriptor y.desc = some sig → argsL.length = sig.parameters.length)
    (hstack : g.stack = argsL.reverse ++ .ref b :: rest) (hW : 2 * g.monitorRoom + (rest.map fun v => v.category).sum ≤ W9) (hdg : decode c.code g.pc = .ok (.invokevirtual index, 3))
    (hpre : ∀ vm₁, s.WarmedH vm₁ → Pre ⟨T.setVm vm₁, locs, cells, slots⟩ (Value.ref b :: argsL).toArray) :
    ∃ (v : Option Value) (vm₁ : Vm) (B : Pt), s.WarmedH vm₁ ∧ Stand p l e R s m args below meth c B.U B.locs B.cells B.slots ∧ Post ⟨T.setVm vm₁, locs, cells, slots⟩ (Value.ref b :: argsL).toArray v B ∧
      ∀ target, Steps p.tables e below (B.U.setTop { g with pc := g.pc + 3, stack := v.toList ++ rest }) target → Steps p.tables e below (T.setTop g) target := by
  obtain ⟨mk, methM, hnamed, hmethM, hstM, habM⟩ := Cond.instanceMethod_spec hinst
  obtain ⟨m8, methM', cM, hn8, hmethM', -, -, -, -, -, -, hsigM⟩ := Cond.codeWith_spec hcode
  cases Option.some.inj (hn8.symm.trans hnamed)
  cases hmethM.symm.trans hmethM'
  obtain ⟨c2, r2, m2, q1, q2, q3, q4, kP, hkP, hkPi⟩ := Cond.selects_spec hsel
  cases hcls.symm.trans q1
  cases (State.methodFound?_of_named hnamed hy).symm.trans q2
  cases hnamed.symm.trans q3
  have hselP : selectMethod e.platform s.vm cellB.cls mk = .method mk := by rw [Launch.admits_selectMethod X.admits]; exact q4
  obtain ⟨vm₁, X₁, hstep₁⟩ := X.invokevirtual hexec hown hlink hnamed hmethM hstM hkP hkPi hy (a := b) (cell := cellB) hcell
    (fun z h => by rw [h] at hobj; cases hobj) hselP hmethM habM hkP hkPi (g := g) hg (argsL := argsL) (rest := rest) (hlen _ hsigM) hstack hdg
  obtain ⟨v, B, X', hpost, hsteps⟩ := hK m meth c ⟨T.setVm vm₁, locs, cells, slots⟩ { g with stack := rest } (.invokevirtual index) mk (Value.ref b :: argsL).toArray X₁ hg hsize hdg hW (X₁.named hnamed) (hpre vm₁ X₁.warmed)
  exact ⟨v, vm₁, B, X₁.warmed, X', hpost, fun target h => hstep₁ _ fun acts => by rw [doInvoke_state]; exact hsteps.trans h⟩
abbrev vx_CVW (R : Room) (s : State) (args : Array Value) (own C : String) (index : Nat) (y : MethodName) (bytes : ByteArray) (maxL : Nat) (ret : Option FieldType) (hh : List (Nat × Nat × Nat × Nat)) (ws : List Cond) (rm : Room) (mc ms n : Nat) : Prop :=
  (rm.cells = mc ∧ rm.slots = ms ∧ rm.frames + 1 ≤ R.frames ∧ 8 + (maxL + 11) + rm.locals ≤ R.locals ∧ (∀ w ∈ ws, ∀ (a' : Array Value) (U : State), s.WarmedH U.vm → w.before a' U = true) ∧ Cond.codeWith y bytes maxL ret hh ∈ ws) ∧
  (Cond.codeWith y bytes maxL ret hh).before args s = true ∧ (Cond.initialized y.cls).before args s = true ∧ (y.cls ≠ "java/lang/invoke/MethodHandle" ∧ y.cls ≠ "java/lang/invoke/VarHandle") ∧
  (∀ sig, parseMethodDescriptor y.desc = some sig → n = sig.parameters.length) ∧ (Cond.methodLink own index y).before args s = true ∧ (Cond.instanceMethod y).before args s = true ∧ (Cond.selects C y y).before args s = true
theorem vx_cwVW {own C : String} {index maxL mc ms : Nat} {y : MethodName} {bytes : ByteArray} {ret : Option FieldType} {hh : List (Nat × Nat × Nat × Nat)} {Ts ws ws' : List Cond} {rm : Room} (n : Nat) (ht : ∀ w ∈ Ts, w.before args s = true) (hT : GoodIn Ts (wsV own index C y ws)) (hw : ws = Cond.codeWith y bytes maxL ret hh :: ws') (hrc : rm.cells = mc) (hrs : rm.slots = ms)
    (hd : y.cls = C ∧ y.cls ≠ "java/lang/invoke/MethodHandle" ∧ y.cls ≠ "java/lang/invoke/VarHandle" ∧ (parseMethodDescriptor y.desc).map (fun d => d.parameters.length) = some n) (hR : rm.frames + 1 ≤ R.frames ∧ 8 + (maxL + 11) + rm.locals ≤ R.locals) :
    vx_CVW R s args own C index y bytes maxL ret hh ws rm mc ms n := by
  obtain ⟨hC, hd⟩ := hd
  subst hC
  have ok : ∀ w ∈ wsV own index y.cls y ws, w.before args s = true := fun w h => ht w (hT w h).1
  have hG : GoodIn Ts ws := fun w h => hT w (by unfold wsV; exact List.mem_append_right _ h)
  have hc : Cond.codeWith y bytes maxL ret hh ∈ ws := by rw [hw]; exact List.mem_cons_self
  refine ⟨⟨hrc, hrs, hR.1, hR.2, pay_in ht hG, hc⟩, ht _ (hG _ hc).1, ok _ (by simp [wsV]), ⟨hd.1, hd.2.1⟩, fun sig h => ?_, ok _ (by simp [wsV]), ok _ (by simp [wsV]), ok _ (by simp [wsV])⟩
  have h2 := hd.2.2
  rw [h] at h2
  exact (Option.some.inj h2).symm
theorem vx_runVW {y : MethodName} {bytes cc : ByteArray} {maxL nL mc ms n index : Nat} {ret : Option FieldType} {hh : List (Nat × Nat × Nat × Nat)} {ws : List Cond} {rm : Room} {Pc : Array Value → State → Prop} {Qc : Array Value → State → Outcome → State → Prop} {free : Addr → Prop} {Ts : List Cond} {own C : String} {b : Addr} {As rest : List Value} {g : JFrame}
    (S : CallFix p m c cc nL s args Ts own) (hM : Met l y ws rm Pc Qc mc ms free) (cw : vx_CVW R s args own C index y bytes maxL ret hh ws rm mc ms n) (hp : PreV s H C b Pc As)
    (hg : g.method = m) (hn : As.length = n) (hsize : g.locals.size = nL) (hstack : g.stack = As.reverse ++ .ref b :: rest) (hW : 2 * g.monitorRoom + (rest.map fun v => v.category).sum ≤ 8) (hdg : decode cc g.pc = .ok (.invokevirtual index, 3)) (hf : cells + mc ≤ R.cells ∧ slots + ms ≤ R.slots) :
    va_Run p l e R s m args below meth c H locs cells slots mc ms g rest (Qc (Value.ref b :: As).toArray) free := by
  obtain ⟨⟨hrc, hrs, hfr, hlo, hws, hcw⟩, hcode, hini, hy, hlen, hl, hin, hse⟩ := cw
  have hK : Back l R p e below s args y 3 8 (PreOf R mc ms Pc) (PostOf Qc mc ms free) := va_backW (hh := hh) (bytes := bytes) (maxL := maxL) (ret := ret) hM hp.1 hrc hrs hfr hlo hws hcw (fun a' U hW => word_at hW (Or.inl (by first | rfl | simp [Cond.onTables, Cond.keeps, Cond.steady])) hini)
  obtain ⟨hx, hb, hml, ho, -⟩ := S
  obtain ⟨-, ⟨cellB, hcB, hoB, hclB⟩, hPc⟩ := hp
  intro T hT X
  obtain ⟨v, vm₁, ⟨U', l2, c2, s2⟩, hW₁, X', ⟨g', mk, t, L, e1, e2, hq, h1, hL, h2, h3⟩, st⟩ := vx_callVW X hx (C := C) (hh := hh) (bytes := bytes) (maxL := maxL) (ret := ret) ho hl hin hse hcode hy hK (by rw [hT]; exact hcB) hoB hclB hg (hsize.trans hml.symm) (argsL := As) (rest := rest) (fun sig h => hn.trans (hlen sig h)) hstack hW (by rw [hb]; exact hdg)
    (fun vm₁ hW₁ => ⟨hf.1, hf.2, hPc (T.setVm vm₁) hT hW₁⟩)
  dsimp only [Pt.U, Pt.locs, Pt.cells, Pt.slots] at X' e1 e2 h1 h2 h3 st
  subst h1; subst h2; subst h3
  exact ⟨v, (T.setVm vm₁).calling g' mk (Value.ref b :: As).toArray, t, U', L, hT, X', hL, e1, e2, hq, st⟩
section
variable {y : MethodName} {bytes cc : ByteArray} {maxL nL mc ms n index : Nat} {ret : Option FieldType} {ws : List Cond} {rm : Room} {Pc : Array Value → State → Prop} {Qc : Array Value → State → Outcome → State → Prop} {XC : String → State → State → Prop} {free : Addr → Prop} {Ts : List Cond} {own C : String} {b : Addr} {As rest : List Value} {g : JFrame}
theorem vx_runVX {hh : List (Nat × Nat × Nat × Nat)} (S : CallFix p m c cc nL s args Ts own) (hM : vx_Met l y ws rm Pc Qc XC mc ms free) (cw : vx_CVW R s args own C index y bytes maxL ret hh ws rm mc ms n) (hp : PreV s H C b Pc As)
    (hg : g.method = m) (hn : As.length = n) (hsize : g.locals.size = nL) (hstack : g.stack = As.reverse ++ .ref b :: rest) (hW : 2 * g.monitorRoom + (rest.map fun v => v.category).sum ≤ 8) (hdg : decode cc g.pc = .ok (.invokevirtual index, 3)) (hf : cells + mc ≤ R.cells ∧ slots + ms ≤ R.slots) :
    vx_Run p l e R s m args below meth c H locs cells slots mc ms g rest (Qc (Value.ref b :: As).toArray) XC free := by
  obtain ⟨⟨hrc, hrs, hfr, hlo, hws, hcw⟩, hcode, hini, hy, hlen, hl, hin, hse⟩ := cw
  have hK : vx_Back l R p e below s args y 3 8 (PreOf R mc ms Pc) (PostOf Qc mc ms free) (vx_Post XC mc ms free) := vx_backW (hh := hh) (bytes := bytes) (maxL := maxL) (ret := ret) hM hp.1 hrc hrs hfr hlo hws hcw (fun a' U hW => word_at hW (Or.inl (by first | rfl | simp [Cond.onTables, Cond.keeps, Cond.steady])) hini)
  obtain ⟨hx, hb, hml, ho, -⟩ := S
  obtain ⟨-, ⟨cellB, hcB, hoB, hclB⟩, hPc⟩ := hp
  intro T hT X
  rcases vx_callVX X hx (C := C) (hh := hh) (bytes := bytes) (maxL := maxL) (ret := ret) ho hl hin hse hcode hy hK (by rw [hT]; exact hcB) hoB hclB hg (hsize.trans hml.symm) (argsL := As) (rest := rest) (fun sig h => hn.trans (hlen sig h)) hstack hW (by rw [hb]; exact hdg)
    (fun vm₁ hW₁ => ⟨hf.1, hf.2, hPc (T.setVm vm₁) hT hW₁⟩) with ⟨v, vm₁, ⟨U', l2, c2, s2⟩, hW₁, X', ⟨g', mk, t, L, e1, e2, hq, h1, hL, h2, h3⟩, st⟩ | ⟨q, vm₁, ⟨U', l2, c2, s2⟩, hW₁, X', ⟨g', mk, t, L, E, ce, e1, e2, hq, hce, hcv, hcl, h1, hL, h2, h3⟩, st⟩
  · dsimp only [Pt.U, Pt.locs, Pt.cells, Pt.slots] at X' e1 e2 h1 h2 h3 st
    subst h1; subst h2; subst h3
    exact Or.inl ⟨v, (T.setVm vm₁).calling g' mk (Value.ref b :: As).toArray, t, U', L, hT, X', hL, e1, e2, hq, st⟩
  · dsimp only [Pt.U, Pt.locs, Pt.cells, Pt.slots] at X' e1 e2 h1 h2 h3 st hcl
    subst h1; subst h2; subst h3
    exact Or.inr ⟨q, (T.setVm vm₁).calling g' mk (Value.ref b :: As).toArray, t, U', L, E, ce, hT, X', hL, e1, e2, hq, hce, hcv, vx_cls hW₁ hcl, st⟩
theorem vx_runSX {hh : List (Nat × Nat × Nat × Nat)} (S : CallFix p m c cc nL s args Ts own) (hM : vx_Met l y ws rm Pc Qc XC mc ms free) (cw : vx_CSW R s args own index y bytes maxL ret hh ws rm mc ms n) (hp : PreS s H Pc As)
    (hg : g.method = m) (hn : As.length = n) (hsize : g.locals.size = nL) (hstack : g.stack = As.reverse ++ rest) (hW : 2 * g.monitorRoom + (rest.map fun v => v.category).sum ≤ 8) (hdg : decode cc g.pc = .ok (.invokestatic index, 3)) (hf : cells + mc ≤ R.cells ∧ slots + ms ≤ R.slots) :
    vx_Run p l e R s m args below meth c H locs cells slots mc ms g rest (Qc As.toArray) XC free := by
  obtain ⟨⟨hrc, hrs, hfr, hlo, hws, hcw⟩, hcode, hini, hy, hlen, hl, hstt⟩ := cw
  have hK : vx_Back l R p e below s args y 3 8 (PreOf R mc ms Pc) (PostOf Qc mc ms free) (vx_Post XC mc ms free) := vx_backW (hh := hh) (bytes := bytes) (maxL := maxL) (ret := ret) hM hp.1 hrc hrs hfr hlo hws hcw (fun a' U hW => word_at hW (Or.inl (by first | rfl | simp [Cond.onTables, Cond.keeps, Cond.steady])) hini)
  obtain ⟨hx, hb, hml, ho, -⟩ := S
  intro T hT X
  rcases vx_callSX X hx (hh := hh) (bytes := bytes) (maxL := maxL) (ret := ret) ho hl hstt hini hcode hy hK hg (hsize.trans hml.symm) (argsL := As) (rest := rest) (fun sig h => hn.trans (hlen sig h)) hstack hW (by rw [hb]; exact hdg)
    (fun vm₁ hW₁ => ⟨hf.1, hf.2, hp.2 (T.setVm vm₁) hT hW₁⟩) with ⟨v, vm₁, ⟨U', l2, c2, s2⟩, hW₁, X', ⟨g', mk, t, L, e1, e2, hq, h1, hL, h2, h3⟩, st⟩ | ⟨q, vm₁, ⟨U', l2, c2, s2⟩, hW₁, X', ⟨g', mk, t, L, E, ce, e1, e2, hq, hce, hcv, hcl, h1, hL, h2, h3⟩, st⟩
  · dsimp only [Pt.U, Pt.locs, Pt.cells, Pt.slots] at X' e1 e2 h1 h2 h3 st
    subst h1; subst h2; subst h3
    exact Or.inl ⟨v, (T.setVm vm₁).calling g' mk As.toArray, t, U', L, hT, X', hL, e1, e2, hq, st⟩
  · dsimp only [Pt.U, Pt.locs, Pt.cells, Pt.slots] at X' e1 e2 h1 h2 h3 st hcl
    subst h1; subst h2; subst h3
    exact Or.inr ⟨q, (T.setVm vm₁).calling g' mk As.toArray, t, U', L, E, ce, hT, X', hL, e1, e2, hq, hce, hcv, vx_cls hW₁ hcl, st⟩
end
end VXH
theorem vx_ofWH {l : Launch} {y : MethodName} {ws ws' : List Cond} {rm : Room} {Pc : Array Value → State → Prop} {Qc : Array Value → State → Outcome → State → Prop} {XC : String → State → State → Prop} {mc ms : Nat} {free : Addr → Prop} {cc : ByteArray} {maxL : Nat} {ret : Option FieldType} {hh : List (Nat × Nat × Nat × Nat)}
    (hy : plainName y.cls = true) (hw : ws = Cond.codeWith y cc maxL ret hh :: ws')
    (body : ∀ p e s m args below meth c s₁, BodyLoose p l y (headSpec ws rm) cc maxL ret e s m args below meth c s₁ → c.maxLocals = maxL → Pc args s →
      W p l e (headSpec ws rm).room s m args below meth c s.heap [] 0 0 (vx_MQ below Qc XC args s mc ms free) (entryFrame m args maxL)) : vx_Met l y ws rm Pc Qc XC mc ms free := by
  refine MetFree.of_bodyS (code := cc) (maxLocals := maxL) (ret := ret) hy ?_ ?_
  · intro args s m h hn
    obtain ⟨m9, meth, c, hn9, h1, h2, h3, h4, -, h5, h6, -⟩ := Cond.codeWith_spec (atoms_spec (ws := ws) h _ (by rw [hw]; exact List.mem_cons_self))
    cases hn.symm.trans hn9
    exact ⟨meth, c, h1, h2, h3, h4, h5, h6⟩
  · intro p e s m args below meth c s₁ B hml hP _
    have hh0 : s₁.heap = s.heap := by rw [B.state]; rfl
    obtain ⟨t, a1, o, b1, b2, b3⟩ := body p e s m args below meth c s₁ B hml hP s₁ hh0 (Stand.of_body B)
    exact ⟨t, o, a1, b1, b2, b3⟩
/-! ===== END ===== -/
end
section
def RX0 : String := "GuestStars$Cloud"
def TX0 : u_T := fun k => match k with
  | 0 => ("GuestStars$Cloud", "x", "I", false)
  | 1 => ("GuestStars$Cloud", "y", "I", false)
  | 2 => ("GuestStars$Cloud", "firstYear", "I", false)
  | 3 => ("GuestStars$Cloud", "firstSize", "I", false)
  | 4 => ("GuestStars$Cloud", "secondYear", "I", false)
  | 5 => ("GuestStars$Cloud", "secondSize", "I", false)
  | 6 => ("GuestStars$Cloud", "slow", "I", false)
  | 7 => ("GuestStars$Cloud", "period", "I", false)
  | 8 => ("GuestStars$Cloud", "slowing", "I", false)
  | 9 => ("GuestStars$Cloud", "bornFrom", "I", false)
  | _ => ("GuestStars$Cloud", "bornTo", "I", false)
def tyX0 : Nat → FieldType := fun k => match k with
  | 0 => .int
  | 1 => .int
  | 2 => .int
  | 3 => .int
  | 4 => .int
  | 5 => .int
  | 6 => .int
  | 7 => .int
  | 8 => .int
  | 9 => .int
  | _ => .int
abbrev wsX00 : List Cond := u_ws RX0 TX0 11
theorem nmX0 : ∀ a, a < 11 → ∀ b, b < 11 → a ≠ b → (TX0 a).2.1 ≠ (TX0 b).2.1 := by decide +kernel
theorem tyX0_ok : ∀ k, k < 11 → parseFieldDescriptor (TX0 k).2.2.1 = some (tyX0 k) := by decide +kernel
def RX1 : String := "GuestStars$Events"
def TX1 : u_T := fun k => match k with
  | _ => ("GuestStars$Events", "least", "[I", true)
def tyX1 : Nat → FieldType := fun k => match k with
  | _ => .array .int
abbrev wsX10 : List Cond := u_ws RX1 TX1 1
theorem nmX1 : ∀ a, a < 1 → ∀ b, b < 1 → a ≠ b → (TX1 a).2.1 ≠ (TX1 b).2.1 := by decide +kernel
theorem tyX1_ok : ∀ k, k < 1 → parseFieldDescriptor (TX1 k).2.2.1 = some (tyX1 k) := by decide +kernel
def RX2 : String := "GuestStars$Guest"
def TX2 : u_T := fun k => match k with
  | 0 => ("GuestStars$Guest", "reign", "I", false)
  | 1 => ("GuestStars$Guest", "year", "I", false)
  | 2 => ("GuestStars$Guest", "lastYear", "I", false)
  | 3 => ("GuestStars$Guest", "month", "I", false)
  | 4 => ("GuestStars$Guest", "round", "I", false)
  | 5 => ("GuestStars$Guest", "gate", "I", false)
  | 6 => ("GuestStars$Guest", "inches", "I", false)
  | 7 => ("GuestStars$Guest", "sides", "I", false)
  | 8 => ("GuestStars$Guest", "east", "I", false)
  | 9 => ("GuestStars$Guest", "north", "I", false)
  | 10 => ("GuestStars$Guest", "lasts", "I", false)
  | 11 => ("GuestStars$Guest", "bright", "I", false)
  | 12 => ("GuestStars$Guest", "moves", "I", false)
  | 13 => ("GuestStars$Guest", "tail", "I", false)
  | 14 => ("GuestStars$Guest", "worth", "I", false)
  | _ => ("GuestStars$Guest", "book", "I", false)
def tyX2 : Nat → FieldType := fun k => match k with
  | 0 => .int
  | 1 => .int
  | 2 => .int
  | 3 => .int
  | 4 => .int
  | 5 => .int
  | 6 => .int
  | 7 => .int
  | 8 => .int
  | 9 => .int
  | 10 => .int
  | 11 => .int
  | 12 => .int
  | 13 => .int
  | 14 => .int
  | _ => .int
abbrev wsX20 : List Cond := u_ws RX2 TX2 16
theorem nmX2 : ∀ a, a < 16 → ∀ b, b < 16 → a ≠ b → (TX2 a).2.1 ≠ (TX2 b).2.1 := by decide +kernel
theorem tyX2_ok : ∀ k, k < 16 → parseFieldDescriptor (TX2 k).2.2.1 = some (tyX2 k) := by decide +kernel
def RX3 : String := "GuestStars$Names"
def TX3 : u_T := fun k => match k with
  | 0 => ("GuestStars$Names", "letters", "[I", true)
  | 1 => ("GuestStars$Names", "first", "[I", true)
  | 2 => ("GuestStars$Names", "second", "[I", true)
  | _ => ("GuestStars$Names", "size", "I", false)
def tyX3 : Nat → FieldType := fun k => match k with
  | 0 => .array .int
  | 1 => .array .int
  | 2 => .array .int
  | _ => .int
abbrev wsX30 : List Cond := u_ws RX3 TX3 4
theorem nmX3 : ∀ a, a < 4 → ∀ b, b < 4 → a ≠ b → (TX3 a).2.1 ≠ (TX3 b).2.1 := by decide +kernel
theorem tyX3_ok : ∀ k, k < 4 → parseFieldDescriptor (TX3 k).2.2.1 = some (tyX3 k) := by decide +kernel
def RX4 : String := "GuestStars$Pairing"
def TX4 : u_T := fun k => match k with
  | 0 => ("GuestStars$Pairing", "tolls", "[I", true)
  | 1 => ("GuestStars$Pairing", "guestLift", "[J", true)
  | 2 => ("GuestStars$Pairing", "seatLift", "[J", true)
  | 3 => ("GuestStars$Pairing", "slack", "[J", true)
  | 4 => ("GuestStars$Pairing", "guestAt", "[I", true)
  | 5 => ("GuestStars$Pairing", "wayTo", "[I", true)
  | 6 => ("GuestStars$Pairing", "owners", "[I", true)
  | 7 => ("GuestStars$Pairing", "guestCount", "I", false)
  | 8 => ("GuestStars$Pairing", "cloudCount", "I", false)
  | 9 => ("GuestStars$Pairing", "seatCount", "I", false)
  | 10 => ("GuestStars$Pairing", "tried", "I", false)
  | 11 => ("GuestStars$Pairing", "cloudOf", "[I", true)
  | 12 => ("GuestStars$Pairing", "drawn", "[I", true)
  | 13 => ("GuestStars$Pairing", "pairCount", "I", false)
  | _ => ("GuestStars$Pairing", "tollInAll", "I", false)
def tyX4 : Nat → FieldType := fun k => match k with
  | 0 => .array .int
  | 1 => .array .long
  | 2 => .array .long
  | 3 => .array .long
  | 4 => .array .int
  | 5 => .array .int
  | 6 => .array .int
  | 7 => .int
  | 8 => .int
  | 9 => .int
  | 10 => .int
  | 11 => .array .int
  | 12 => .array .int
  | 13 => .int
  | _ => .int
abbrev wsX40 : List Cond := u_ws RX4 TX4 15
theorem nmX4 : ∀ a, a < 15 → ∀ b, b < 15 → a ≠ b → (TX4 a).2.1 ≠ (TX4 b).2.1 := by decide +kernel
theorem tyX4_ok : ∀ k, k < 15 → parseFieldDescriptor (TX4 k).2.2.1 = some (tyX4 k) := by decide +kernel
def RX5 : String := "GuestStars$Reader"
def TX5 : u_T := fun k => match k with
  | 0 => ("GuestStars$Reader", "pending", "[I", true)
  | 1 => ("GuestStars$Reader", "tale", "LGuestStars$Tale;", false)
  | 2 => ("GuestStars$Reader", "pendingSize", "I", false)
  | 3 => ("GuestStars$Reader", "openCount", "I", false)
  | 4 => ("GuestStars$Reader", "knots", "I", false)
  | 5 => ("GuestStars$Reader", "operandDue", "Z", false)
  | 6 => ("GuestStars$Reader", "mayDeny", "Z", false)
  | 7 => ("GuestStars$Reader", "settingsTold", "I", false)
  | 8 => ("GuestStars$Reader", "tape", "LGuestStars$Tape;", true)
  | 9 => ("GuestStars$Reader", "faultKind", "I", false)
  | _ => ("GuestStars$Reader", "faultPlace", "I", false)
def tyX5 : Nat → FieldType := fun k => match k with
  | 0 => .array .int
  | 1 => .object "GuestStars$Tale"
  | 2 => .int
  | 3 => .int
  | 4 => .int
  | 5 => .boolean
  | 6 => .boolean
  | 7 => .int
  | 8 => .object "GuestStars$Tape"
  | 9 => .int
  | _ => .int
abbrev wsX50 : List Cond := u_ws RX5 TX5 11
theorem nmX5 : ∀ a, a < 11 → ∀ b, b < 11 → a ≠ b → (TX5 a).2.1 ≠ (TX5 b).2.1 := by decide +kernel
theorem tyX5_ok : ∀ k, k < 11 → parseFieldDescriptor (TX5 k).2.2.1 = some (tyX5 k) := by decide +kernel
def RX6 : String := "GuestStars$Rules"
def TX6 : u_T := fun k => match k with
  | 0 => ("GuestStars$Rules", "kinds", "[I", true)
  | 1 => ("GuestStars$Rules", "numbers", "[I", true)
  | 2 => ("GuestStars$Rules", "stack", "[J", true)
  | 3 => ("GuestStars$Rules", "size", "I", false)
  | _ => ("GuestStars$Rules", "error", "Z", false)
def tyX6 : Nat → FieldType := fun k => match k with
  | 0 => .array .int
  | 1 => .array .int
  | 2 => .array .long
  | 3 => .int
  | _ => .boolean
abbrev wsX60 : List Cond := u_ws RX6 TX6 5
theorem nmX6 : ∀ a, a < 5 → ∀ b, b < 5 → a ≠ b → (TX6 a).2.1 ≠ (TX6 b).2.1 := by decide +kernel
theorem tyX6_ok : ∀ k, k < 5 → parseFieldDescriptor (TX6 k).2.2.1 = some (tyX6 k) := by decide +kernel
def RX7 : String := "GuestStars$Sky"
def TX7 : u_T := fun k => match k with
  | _ => ("", "", "", false)
def tyX7 : Nat → FieldType := fun k => match k with
  | _ => .int
abbrev wsX70 : List Cond := u_ws RX7 TX7 0
theorem nmX7 : ∀ a, a < 0 → ∀ b, b < 0 → a ≠ b → (TX7 a).2.1 ≠ (TX7 b).2.1 := by decide +kernel
theorem tyX7_ok : ∀ k, k < 0 → parseFieldDescriptor (TX7 k).2.2.1 = some (tyX7 k) := by decide +kernel
def RX8 : String := "GuestStars$Tale"
def TX8 : u_T := fun k => match k with
  | 0 => ("GuestStars$Tale", "reigns", "LGuestStars$Names;", true)
  | 1 => ("GuestStars$Tale", "gates", "LGuestStars$Names;", true)
  | 2 => ("GuestStars$Tale", "books", "LGuestStars$Names;", true)
  | 3 => ("GuestStars$Tale", "sorts", "LGuestStars$Names;", true)
  | 4 => ("GuestStars$Tale", "rules", "LGuestStars$Rules;", true)
  | 5 => ("GuestStars$Tale", "watches", "LGuestStars$Watches;", true)
  | 6 => ("GuestStars$Tale", "guests", "[LGuestStars$Guest;", true)
  | 7 => ("GuestStars$Tale", "clouds", "[LGuestStars$Cloud;", true)
  | 8 => ("GuestStars$Tale", "guestCount", "I", false)
  | 9 => ("GuestStars$Tale", "cloudCount", "I", false)
  | 10 => ("GuestStars$Tale", "turn", "I", false)
  | 11 => ("GuestStars$Tale", "price", "I", false)
  | 12 => ("GuestStars$Tale", "limit", "I", false)
  | _ => ("GuestStars$Tale", "blur", "I", false)
def tyX8 : Nat → FieldType := fun k => match k with
  | 0 => .object "GuestStars$Names"
  | 1 => .object "GuestStars$Names"
  | 2 => .object "GuestStars$Names"
  | 3 => .object "GuestStars$Names"
  | 4 => .object "GuestStars$Rules"
  | 5 => .object "GuestStars$Watches"
  | 6 => .array (.object "GuestStars$Guest")
  | 7 => .array (.object "GuestStars$Cloud")
  | 8 => .int
  | 9 => .int
  | 10 => .int
  | 11 => .int
  | 12 => .int
  | _ => .int
abbrev wsX80 : List Cond := u_ws RX8 TX8 14
theorem nmX8 : ∀ a, a < 14 → ∀ b, b < 14 → a ≠ b → (TX8 a).2.1 ≠ (TX8 b).2.1 := by decide +kernel
theorem tyX8_ok : ∀ k, k < 14 → parseFieldDescriptor (TX8 k).2.2.1 = some (tyX8 k) := by decide +kernel
def RX9 : String := "GuestStars$Tape"
def TX9 : u_T := fun k => match k with
  | 0 => ("GuestStars$Tape", "bytes", "[B", true)
  | 1 => ("GuestStars$Tape", "language", "[I", true)
  | 2 => ("GuestStars$Tape", "length", "I", false)
  | 3 => ("GuestStars$Tape", "after", "I", false)
  | 4 => ("GuestStars$Tape", "size", "I", false)
  | 5 => ("GuestStars$Tape", "kind", "I", false)
  | 6 => ("GuestStars$Tape", "at", "I", false)
  | _ => ("GuestStars$Tape", "value", "I", false)
def tyX9 : Nat → FieldType := fun k => match k with
  | 0 => .array .byte
  | 1 => .array .int
  | 2 => .int
  | 3 => .int
  | 4 => .int
  | 5 => .int
  | 6 => .int
  | _ => .int
abbrev wsX90 : List Cond := u_ws RX9 TX9 8
theorem nmX9 : ∀ a, a < 8 → ∀ b, b < 8 → a ≠ b → (TX9 a).2.1 ≠ (TX9 b).2.1 := by decide +kernel
theorem tyX9_ok : ∀ k, k < 8 → parseFieldDescriptor (TX9 k).2.2.1 = some (tyX9 k) := by decide +kernel
def RX10 : String := "GuestStars$Watches"
def TX10 : u_T := fun k => match k with
  | 0 => ("GuestStars$Watches", "first", "[I", true)
  | 1 => ("GuestStars$Watches", "last", "[I", true)
  | 2 => ("GuestStars$Watches", "part", "[I", true)
  | _ => ("GuestStars$Watches", "size", "I", false)
def tyX10 : Nat → FieldType := fun k => match k with
  | 0 => .array .int
  | 1 => .array .int
  | 2 => .array .int
  | _ => .int
abbrev wsX100 : List Cond := u_ws RX10 TX10 4
theorem nmX10 : ∀ a, a < 4 → ∀ b, b < 4 → a ≠ b → (TX10 a).2.1 ≠ (TX10 b).2.1 := by decide +kernel
theorem tyX10_ok : ∀ k, k < 4 → parseFieldDescriptor (TX10 k).2.2.1 = some (tyX10 k) := by decide +kernel
def RX11 : String := "GuestStars"
def TX11 : u_T := fun k => match k with
  | 0 => ("GuestStars", "reader", "LGuestStars$Reader;", true)
  | 1 => ("GuestStars", "pairing", "LGuestStars$Pairing;", true)
  | 2 => ("GuestStars", "joined", "LGuestStars$Events;", true)
  | 3 => ("GuestStars", "told", "LGuestStars$Tale;", false)
  | 4 => ("GuestStars", "spare", "LGuestStars$Tale;", false)
  | 5 => ("GuestStars", "knownGuests", "I", false)
  | 6 => ("GuestStars", "doubtedGuests", "I", false)
  | 7 => ("GuestStars", "pairingStale", "Z", false)
  | 8 => ("GuestStars", "joinedStale", "Z", false)
  | _ => ("GuestStars", "dice", "I", false)
def tyX11 : Nat → FieldType := fun k => match k with
  | 0 => .object "GuestStars$Reader"
  | 1 => .object "GuestStars$Pairing"
  | 2 => .object "GuestStars$Events"
  | 3 => .object "GuestStars$Tale"
  | 4 => .object "GuestStars$Tale"
  | 5 => .int
  | 6 => .int
  | 7 => .boolean
  | 8 => .boolean
  | _ => .int
abbrev wsX110 : List Cond := u_ws RX11 TX11 10
theorem nmX11 : ∀ a, a < 10 → ∀ b, b < 10 → a ≠ b → (TX11 a).2.1 ≠ (TX11 b).2.1 := by decide +kernel
theorem tyX11_ok : ∀ k, k < 10 → parseFieldDescriptor (TX11 k).2.2.1 = some (tyX11 k) := by decide +kernel
def RX12 : String := "GuestStarsModel"
def TX12 : u_T := fun k => match k with
  | 0 => ("GuestStarsModel", "tape", "[I", true)
  | 1 => ("GuestStarsModel", "tapeSize", "I", false)
  | 2 => ("GuestStarsModel", "thrown", "I", false)
  | 3 => ("GuestStarsModel", "words", "[I", true)
  | 4 => ("GuestStarsModel", "fault", "I", false)
  | 5 => ("GuestStarsModel", "faultPlace", "I", false)
  | 6 => ("GuestStarsModel", "stop", "I", false)
  | 7 => ("GuestStarsModel", "next", "I", false)
  | 8 => ("GuestStarsModel", "kind", "I", false)
  | 9 => ("GuestStarsModel", "which", "I", false)
  | 10 => ("GuestStarsModel", "at", "I", false)
  | 11 => ("GuestStarsModel", "got", "I", false)
  | 12 => ("GuestStarsModel", "many", "[I", true)
  | 13 => ("GuestStarsModel", "read", "[I", true)
  | 14 => ("GuestStarsModel", "most", "[I", true)
  | 15 => ("GuestStarsModel", "rule", "[I", true)
  | 16 => ("GuestStarsModel", "ruleRead", "[I", true)
  | 17 => ("GuestStarsModel", "ruleTold", "I", false)
  | 18 => ("GuestStarsModel", "reignName", "[I", true)
  | 19 => ("GuestStarsModel", "reignFirst", "[I", true)
  | 20 => ("GuestStarsModel", "reignMany", "[I", true)
  | 21 => ("GuestStarsModel", "gateName", "[I", true)
  | 22 => ("GuestStarsModel", "gateX", "[I", true)
  | 23 => ("GuestStarsModel", "gateY", "[I", true)
  | 24 => ("GuestStarsModel", "bookName", "[I", true)
  | 25 => ("GuestStarsModel", "bookFrom", "[I", true)
  | 26 => ("GuestStarsModel", "guest", "[I", true)
  | 27 => ("GuestStarsModel", "cloud", "[I", true)
  | 28 => ("GuestStarsModel", "sortName", "[I", true)
  | 29 => ("GuestStarsModel", "weight", "[I", true)
  | 30 => ("GuestStarsModel", "first", "[I", true)
  | 31 => ("GuestStarsModel", "last", "[I", true)
  | 32 => ("GuestStarsModel", "watch", "[I", true)
  | 33 => ("GuestStarsModel", "knot", "[I", true)
  | 34 => ("GuestStarsModel", "part", "[I", true)
  | 35 => ("GuestStarsModel", "other", "[I", true)
  | 36 => ("GuestStarsModel", "doubts", "I", false)
  | 37 => ("GuestStarsModel", "seenBy", "I", false)
  | 38 => ("GuestStarsModel", "wait", "[I", true)
  | 39 => ("GuestStarsModel", "held", "[I", true)
  | 40 => ("GuestStarsModel", "waits", "I", false)
  | 41 => ("GuestStarsModel", "helds", "I", false)
  | 42 => ("GuestStarsModel", "brackets", "I", false)
  | 43 => ("GuestStarsModel", "counted", "I", false)
  | 44 => ("GuestStarsModel", "wants", "Z", false)
  | 45 => ("GuestStarsModel", "mayNot", "Z", false)
  | 46 => ("GuestStarsModel", "names", "[J", true)
  | 47 => ("GuestStarsModel", "value", "[J", true)
  | 48 => ("GuestStarsModel", "isError", "Z", false)
  | 49 => ("GuestStarsModel", "bornFrom", "I", false)
  | 50 => ("GuestStarsModel", "bornTo", "I", false)
  | 51 => ("GuestStarsModel", "byLuck", "Z", false)
  | 52 => ("GuestStarsModel", "luckX", "[I", true)
  | 53 => ("GuestStarsModel", "luckY", "[I", true)
  | 54 => ("GuestStarsModel", "readingFound", "I", false)
  | 55 => ("GuestStarsModel", "tolls", "[I", true)
  | 56 => ("GuestStarsModel", "best", "[I", true)
  | 57 => ("GuestStarsModel", "pairOf", "[I", true)
  | 58 => ("GuestStarsModel", "eventOf", "[I", true)
  | _ => ("GuestStarsModel", "seedNow", "J", false)
def tyX12 : Nat → FieldType := fun k => match k with
  | 0 => .array .int
  | 1 => .int
  | 2 => .int
  | 3 => .array .int
  | 4 => .int
  | 5 => .int
  | 6 => .int
  | 7 => .int
  | 8 => .int
  | 9 => .int
  | 10 => .int
  | 11 => .int
  | 12 => .array .int
  | 13 => .array .int
  | 14 => .array .int
  | 15 => .array .int
  | 16 => .array .int
  | 17 => .int
  | 18 => .array .int
  | 19 => .array .int
  | 20 => .array .int
  | 21 => .array .int
  | 22 => .array .int
  | 23 => .array .int
  | 24 => .array .int
  | 25 => .array .int
  | 26 => .array .int
  | 27 => .array .int
  | 28 => .array .int
  | 29 => .array .int
  | 30 => .array .int
  | 31 => .array .int
  | 32 => .array .int
  | 33 => .array .int
  | 34 => .array .int
  | 35 => .array .int
  | 36 => .int
  | 37 => .int
  | 38 => .array .int
  | 39 => .array .int
  | 40 => .int
  | 41 => .int
  | 42 => .int
  | 43 => .int
  | 44 => .boolean
  | 45 => .boolean
  | 46 => .array .long
  | 47 => .array .long
  | 48 => .boolean
  | 49 => .int
  | 50 => .int
  | 51 => .boolean
  | 52 => .array .int
  | 53 => .array .int
  | 54 => .int
  | 55 => .array .int
  | 56 => .array .int
  | 57 => .array .int
  | 58 => .array .int
  | _ => .long
abbrev wsX120 : List Cond := u_ws RX12 TX12 60
theorem nmX12 : ∀ a, a < 60 → ∀ b, b < 60 → a ≠ b → (TX12 a).2.1 ≠ (TX12 b).2.1 := by decide +kernel
theorem tyX12_ok : ∀ k, k < 60 → parseFieldDescriptor (TX12 k).2.2.1 = some (tyX12 k) := by decide +kernel
def RJ6 : String := "java/lang/Integer"
def RJ9 : String := "java/lang/Math"
def RJ7 : String := "java/util/Arrays"
def RL : String := "GuestStarsLaw"
abbrev vwCl : List vw_C := [(RX0, TX0, 11), (RX1, TX1, 1), (RX2, TX2, 16), (RX3, TX3, 4), (RX4, TX4, 15), (RX5, TX5, 11), (RX6, TX6, 5), (RX8, TX8, 14), (RX9, TX9, 8), (RX10, TX10, 4), (RX11, TX11, 10), (RX12, TX12, 60)]
end
section
abbrev gs_V : Type := Int32 ⊕ Int64 ⊕ Nat
abbrev gs_M : Type := (Nat × Nat × Nat) × (Nat → Nat → Int32) × (Nat → Nat → Int64) × (Nat → Nat → Option Nat)
abbrev gs_R : Type := Option gs_V ⊕ Nat
abbrev gs_O : Type := Option (gs_R × gs_M)
abbrev gs_L : Type := List (Nat × gs_V)
/-- an instruction, the place behind it, four numbers, a constant, a switch's rows -/
abbrev gs_N : Type := Instr × Nat × Nat × Nat × Nat × Nat × gs_V × List (Int32 × Nat)
/-- handlers (from, to, place, exception, place behind the store, local, entry), blocks, stops -/
abbrev gs_T : Type := List (Nat × Nat × Nat × Nat × Nat × Nat × Nat) × List (Nat × List gs_N) × List (Nat × List Nat)
def gs_kinds : List Nat := [10, 5, 13, 8, 12, 13, 4, 13, 14, 14, 14, 13, 13, 13, 13, 13, 1, 13, 7, 3, 13, 13, 13, 3, 13, 13, 13, 3, 13, 13, 13, 3, 13, 13, 13, 6, 13, 13, 14, 9, 13, 13, 13, 16, 15, 2, 2, 2, 2, 2, 2, 2, 2, 2, 2, 2, 2, 0, 0, 0, 0, 0, 0, 0, 0, 0, 0, 7, 3, 13, 13, 13, 3, 13, 13, 13, 3, 13, 13, 13, 3, 13, 13, 13, 6, 13, 13, 14, 9, 13, 13, 13, 16, 15, 2, 2, 2, 2, 2, 2, 2, 2, 2, 2, 2, 2, 0, 0, 0, 0, 0, 0, 0, 0, 0, 0, 11, 13, 13, 13, 13, 13, 13, 13, 13, 13, 13, 13, 13, 13, 13, 13, 13, 13, 13, 13, 13, 13, 13, 13, 13, 13, 13, 13, 14, 14, 13, 13, 13, 13, 13, 13, 14]
def gs_lens : List Nat := [0, 0, 72, 0, 800, 32, 0, 120, 13, 23, 23, 23, 23, 10, 12, 12, 0, 12, 0, 0, 8, 8, 8, 0, 10, 10, 10, 0, 8, 8, 8, 0, 6, 6, 6, 0, 64, 64, 64, 0, 6, 6, 6, 12, 10, 0, 0, 0, 0, 0, 0, 0, 0, 0, 0, 0, 0, 0, 0, 0, 0, 0, 0, 0, 0, 0, 0, 0, 0, 8, 8, 8, 0, 10, 10, 10, 0, 8, 8, 8, 0, 6, 6, 6, 0, 64, 64, 64, 0, 6, 6, 6, 12, 10, 0, 0, 0, 0, 0, 0, 0, 0, 0, 0, 0, 0, 0, 0, 0, 0, 0, 0, 0, 0, 0, 0, 0, 800, 171, 9, 9, 9, 4, 4, 16, 16, 16, 20, 20, 20, 16, 16, 384, 180, 12, 12, 12, 12, 36, 128, 128, 128, 96, 96, 6, 64, 12, 12, 120, 13312, 12, 12, 1]
def gs_kind (a : Nat) : Nat := gs_kinds.getD a 99
def gs_len (a : Nat) : Nat := gs_lens.getD a 0
end
section
set_option maxRecDepth 100000 in
def gB_X0_init : List (Nat × List gs_N) := [(0, [(.aload_n 0, 1, 0, 0, 0, 0, .inl 0, []),
    (.invokespecial 3, 4, 9000, 1, 2, 92, .inl 0, []),
    (.return_, 5, 0, 0, 0, 0, .inl 0, [])])]
def gT_X0_init : gs_T := ([], gB_X0_init, [])
set_option maxRecDepth 100000 in
def gB_X0_ageOf : List (Nat × List gs_N) := [(0, [(.iload_n 1, 1, 1, 0, 0, 0, .inl 0, []),
    (.iload_n 0, 2, 0, 0, 0, 0, .inl 0, []),
    (.if_icmp .gt 7, 5, 9, 0, 0, 0, .inl 0, []),
    (.sipush 9999, 8, 0, 0, 0, 0, .inl 9999, []),
    (.ireturn, 9, 0, 0, 0, 0, .inl 0, [])]),
  (9, [(.sipush 9999, 12, 0, 0, 0, 0, .inl 9999, []),
    (.iload_n 0, 13, 0, 0, 0, 0, .inl 0, []),
    (.iload_n 2, 14, 2, 0, 0, 0, .inl 0, []),
    (.imul, 15, 0, 0, 0, 0, .inl 0, []),
    (.iload_n 1, 16, 1, 0, 0, 0, .inl 0, []),
    (.iload_n 0, 17, 0, 0, 0, 0, .inl 0, []),
    (.isub, 18, 0, 0, 0, 0, .inl 0, []),
    (.idiv, 19, 0, 0, 0, 0, .inl 0, []),
    (.invokestatic 9, 22, 314, 2, 0, 1, .inl 0, []),
    (.ireturn, 23, 0, 0, 0, 0, .inl 0, [])])]
def gT_X0_ageOf : gs_T := ([], gB_X0_ageOf, [])
set_option maxRecDepth 100000 in
def gB_X0_reckonBirth : List (Nat × List gs_N) := [(0, [(.aload_n 0, 1, 0, 0, 0, 0, .inl 0, []),
    (.aload_n 0, 2, 0, 0, 0, 0, .inl 0, []),
    (.aload_n 0, 3, 0, 0, 0, 0, .inl 0, []),
    (.getfield 15, 6, 0, 4, 0, 0, .inl 0, []),
    (.aload_n 0, 7, 0, 0, 0, 0, .inl 0, []),
    (.getfield 21, 10, 0, 5, 0, 0, .inl 0, []),
    (.iload_n 1, 11, 1, 0, 0, 0, .inl 0, []),
    (.invokevirtual 24, 14, 4, 4, 0, 0, .inl 0, []),
    (.putfield 28, 17, 0, 9, 0, 0, .inl 0, []),
    (.aload_n 0, 18, 0, 0, 0, 0, .inl 0, []),
    (.aload_n 0, 19, 0, 0, 0, 0, .inl 0, []),
    (.aload_n 0, 20, 0, 0, 0, 0, .inl 0, []),
    (.getfield 15, 23, 0, 4, 0, 0, .inl 0, []),
    (.aload_n 0, 24, 0, 0, 0, 0, .inl 0, []),
    (.getfield 21, 27, 0, 5, 0, 0, .inl 0, []),
    (.iload_n 1, 28, 1, 0, 0, 0, .inl 0, []),
    (.invokevirtual 31, 31, 5, 4, 0, 0, .inl 0, []),
    (.putfield 34, 34, 0, 10, 0, 0, .inl 0, []),
    (.return_, 35, 0, 0, 0, 0, .inl 0, [])])]
def gT_X0_reckonBirth : gs_T := ([], gB_X0_reckonBirth, [])
set_option maxRecDepth 100000 in
def gB_X0_cornerAge : List (Nat × List gs_N) := [(0, [(.aload_n 0, 1, 0, 0, 0, 0, .inl 0, []),
    (.getfield 37, 4, 0, 3, 0, 0, .inl 0, []),
    (.iload_n 1, 5, 1, 0, 0, 0, .inl 0, []),
    (.iconst 1, 6, 0, 0, 0, 0, .inl 1, []),
    (.iand, 7, 0, 0, 0, 0, .inl 0, []),
    (.ifCond .ne 8, 10, 15, 0, 0, 0, .inl 0, []),
    (.iload 4, 12, 4, 0, 0, 0, .inl 0, []),
    (.goto 6, 15, 18, 0, 0, 0, .inl 0, [])]),
  (15, [(.iload 4, 17, 4, 0, 0, 0, .inl 0, []),
    (.ineg, 18, 0, 0, 0, 0, .inl 0, [])]),
  (18, [(.iadd, 19, 0, 0, 0, 0, .inl 0, []),
    (.istore 5, 21, 5, 0, 0, 0, .inl 0, []),
    (.iload_n 3, 22, 3, 0, 0, 0, .inl 0, []),
    (.iload_n 1, 23, 1, 0, 0, 0, .inl 0, []),
    (.iconst 2, 24, 0, 0, 0, 0, .inl 2, []),
    (.iand, 25, 0, 0, 0, 0, .inl 0, []),
    (.ifCond .ne 8, 28, 33, 0, 0, 0, .inl 0, []),
    (.iload 4, 30, 4, 0, 0, 0, .inl 0, []),
    (.goto 6, 33, 36, 0, 0, 0, .inl 0, [])]),
  (33, [(.iload 4, 35, 4, 0, 0, 0, .inl 0, []),
    (.ineg, 36, 0, 0, 0, 0, .inl 0, [])]),
  (36, [(.iadd, 37, 0, 0, 0, 0, .inl 0, []),
    (.istore 6, 39, 6, 0, 0, 0, .inl 0, []),
    (.iconst 0, 40, 0, 0, 0, 0, .inl 0, []),
    (.iload 5, 42, 5, 0, 0, 0, .inl 0, []),
    (.invokestatic 40, 45, 312, 2, 0, 1, .inl 0, []),
    (.iconst 0, 46, 0, 0, 0, 0, .inl 0, []),
    (.iload 6, 48, 6, 0, 0, 0, .inl 0, []),
    (.invokestatic 40, 51, 312, 2, 0, 1, .inl 0, []),
    (.iload_n 2, 52, 2, 0, 0, 0, .inl 0, []),
    (.aload_n 0, 53, 0, 0, 0, 0, .inl 0, []),
    (.getfield 43, 56, 0, 2, 0, 0, .inl 0, []),
    (.isub, 57, 0, 0, 0, 0, .inl 0, []),
    (.invokestatic 46, 60, 1, 3, 0, 1, .inl 0, []),
    (.ireturn, 61, 0, 0, 0, 0, .inl 0, [])])]
def gT_X0_cornerAge : gs_T := ([], gB_X0_cornerAge, [])
set_option maxRecDepth 100000 in
def gB_X0_earliestBirth : List (Nat × List gs_N) := [(0, [(.ldc 51, 2, 0, 0, 0, 0, .inl 2147483647, []),
    (.istore 4, 4, 4, 0, 0, 0, .inl 0, []),
    (.iconst 0, 5, 0, 0, 0, 0, .inl 0, []),
    (.istore 5, 7, 5, 0, 0, 0, .inl 0, [])]),
  (7, [(.iload 5, 9, 5, 0, 0, 0, .inl 0, []),
    (.iconst 4, 10, 0, 0, 0, 0, .inl 4, []),
    (.if_icmp .ge 30, 13, 40, 0, 0, 0, .inl 0, []),
    (.iload 4, 15, 4, 0, 0, 0, .inl 0, []),
    (.aload_n 0, 16, 0, 0, 0, 0, .inl 0, []),
    (.getfield 43, 19, 0, 2, 0, 0, .inl 0, []),
    (.aload_n 0, 20, 0, 0, 0, 0, .inl 0, []),
    (.iload 5, 22, 5, 0, 0, 0, .inl 0, []),
    (.iload_n 1, 23, 1, 0, 0, 0, .inl 0, []),
    (.iload_n 2, 24, 2, 0, 0, 0, .inl 0, []),
    (.iload_n 3, 25, 3, 0, 0, 0, .inl 0, []),
    (.invokevirtual 52, 28, 3, 5, 0, 0, .inl 0, []),
    (.isub, 29, 0, 0, 0, 0, .inl 0, []),
    (.invokestatic 9, 32, 314, 2, 0, 1, .inl 0, []),
    (.istore 4, 34, 4, 0, 0, 0, .inl 0, []),
    (.iinc 5 1, 37, 5, 0, 0, 0, .inl 1, []),
    (.goto (-30), 40, 7, 0, 0, 0, .inl 0, [])]),
  (40, [(.iload 4, 42, 4, 0, 0, 0, .inl 0, []),
    (.ireturn, 43, 0, 0, 0, 0, .inl 0, [])])]
def gT_X0_earliestBirth : gs_T := ([], gB_X0_earliestBirth, [(7, [0, 1, 2, 3, 4, 5])])
set_option maxRecDepth 100000 in
def gB_X0_latestBirth : List (Nat × List gs_N) := [(0, [(.ldc 56, 2, 0, 0, 0, 0, .inl (-2147483648), []),
    (.istore 4, 4, 4, 0, 0, 0, .inl 0, []),
    (.iconst 0, 5, 0, 0, 0, 0, .inl 0, []),
    (.istore 5, 7, 5, 0, 0, 0, .inl 0, [])]),
  (7, [(.iload 5, 9, 5, 0, 0, 0, .inl 0, []),
    (.iconst 4, 10, 0, 0, 0, 0, .inl 4, []),
    (.if_icmp .ge 38, 13, 48, 0, 0, 0, .inl 0, []),
    (.iload 4, 15, 4, 0, 0, 0, .inl 0, []),
    (.aload_n 0, 16, 0, 0, 0, 0, .inl 0, []),
    (.getfield 43, 19, 0, 2, 0, 0, .inl 0, []),
    (.aload_n 0, 20, 0, 0, 0, 0, .inl 0, []),
    (.iload 5, 22, 5, 0, 0, 0, .inl 0, []),
    (.iload_n 1, 23, 1, 0, 0, 0, .inl 0, []),
    (.iload_n 2, 24, 2, 0, 0, 0, .inl 0, []),
    (.iload_n 3, 25, 3, 0, 0, 0, .inl 0, []),
    (.invokevirtual 52, 28, 3, 5, 0, 0, .inl 0, []),
    (.aload_n 0, 29, 0, 0, 0, 0, .inl 0, []),
    (.getfield 57, 32, 0, 6, 0, 0, .inl 0, []),
    (.imul, 33, 0, 0, 0, 0, .inl 0, []),
    (.bipush 10, 35, 0, 0, 0, 0, .inl 10, []),
    (.idiv, 36, 0, 0, 0, 0, .inl 0, []),
    (.isub, 37, 0, 0, 0, 0, .inl 0, []),
    (.invokestatic 40, 40, 312, 2, 0, 1, .inl 0, []),
    (.istore 4, 42, 4, 0, 0, 0, .inl 0, []),
    (.iinc 5 1, 45, 5, 0, 0, 0, .inl 1, []),
    (.goto (-38), 48, 7, 0, 0, 0, .inl 0, [])]),
  (48, [(.iload 4, 50, 4, 0, 0, 0, .inl 0, []),
    (.ireturn, 51, 0, 0, 0, 0, .inl 0, [])])]
def gT_X0_latestBirth : gs_T := ([], gB_X0_latestBirth, [(7, [0, 1, 2, 3, 4, 5])])
set_option maxRecDepth 100000 in
def gB_X0_bornByTicks : List (Nat × List gs_N) := [(0, [(.aload_n 0, 1, 0, 0, 0, 0, .inl 0, []),
    (.getfield 60, 4, 0, 8, 0, 0, .inl 0, []),
    (.ifCond .gt 6, 7, 10, 0, 0, 0, .inl 0, []),
    (.ldc 56, 9, 0, 0, 0, 0, .inl (-2147483648), []),
    (.ireturn, 10, 0, 0, 0, 0, .inl 0, [])]),
  (10, [(.aload_n 0, 11, 0, 0, 0, 0, .inl 0, []),
    (.getfield 15, 14, 0, 4, 0, 0, .inl 0, []),
    (.sipush 9999, 17, 0, 0, 0, 0, .inl 9999, []),
    (.aload_n 0, 18, 0, 0, 0, 0, .inl 0, []),
    (.getfield 63, 21, 0, 7, 0, 0, .inl 0, []),
    (.bipush 100, 23, 0, 0, 0, 0, .inl 100, []),
    (.imul, 24, 0, 0, 0, 0, .inl 0, []),
    (.iconst 2, 25, 0, 0, 0, 0, .inl 2, []),
    (.aload_n 0, 26, 0, 0, 0, 0, .inl 0, []),
    (.getfield 60, 29, 0, 8, 0, 0, .inl 0, []),
    (.imul, 30, 0, 0, 0, 0, .inl 0, []),
    (.idiv, 31, 0, 0, 0, 0, .inl 0, []),
    (.invokestatic 9, 34, 314, 2, 0, 1, .inl 0, []),
    (.isub, 35, 0, 0, 0, 0, .inl 0, []),
    (.ireturn, 36, 0, 0, 0, 0, .inl 0, [])])]
def gT_X0_bornByTicks : gs_T := ([], gB_X0_bornByTicks, [])
set_option maxRecDepth 100000 in
def gB_X0_narrowerBy : List (Nat × List gs_N) := [(0, [(.aload_n 0, 1, 0, 0, 0, 0, .inl 0, []),
    (.getfield 15, 4, 0, 4, 0, 0, .inl 0, []),
    (.aload_n 0, 5, 0, 0, 0, 0, .inl 0, []),
    (.getfield 43, 8, 0, 2, 0, 0, .inl 0, []),
    (.isub, 9, 0, 0, 0, 0, .inl 0, []),
    (.istore_n 3, 10, 3, 0, 0, 0, .inl 0, []),
    (.iload_n 1, 11, 1, 0, 0, 0, .inl 0, []),
    (.aload_n 0, 12, 0, 0, 0, 0, .inl 0, []),
    (.getfield 15, 15, 0, 4, 0, 0, .inl 0, []),
    (.if_icmp .le 7, 18, 22, 0, 0, 0, .inl 0, []),
    (.iload_n 3, 19, 3, 0, 0, 0, .inl 0, []),
    (.ifCond .gt 5, 22, 24, 0, 0, 0, .inl 0, [])]),
  (22, [(.iconst 0, 23, 0, 0, 0, 0, .inl 0, []),
    (.ireturn, 24, 0, 0, 0, 0, .inl 0, [])]),
  (24, [(.aload_n 0, 25, 0, 0, 0, 0, .inl 0, []),
    (.getfield 21, 28, 0, 5, 0, 0, .inl 0, []),
    (.aload_n 0, 29, 0, 0, 0, 0, .inl 0, []),
    (.getfield 21, 32, 0, 5, 0, 0, .inl 0, []),
    (.aload_n 0, 33, 0, 0, 0, 0, .inl 0, []),
    (.getfield 37, 36, 0, 3, 0, 0, .inl 0, []),
    (.isub, 37, 0, 0, 0, 0, .inl 0, []),
    (.iload_n 1, 38, 1, 0, 0, 0, .inl 0, []),
    (.aload_n 0, 39, 0, 0, 0, 0, .inl 0, []),
    (.getfield 15, 42, 0, 4, 0, 0, .inl 0, []),
    (.isub, 43, 0, 0, 0, 0, .inl 0, []),
    (.imul, 44, 0, 0, 0, 0, .inl 0, []),
    (.iload_n 3, 45, 3, 0, 0, 0, .inl 0, []),
    (.idiv, 46, 0, 0, 0, 0, .inl 0, []),
    (.iadd, 47, 0, 0, 0, 0, .inl 0, []),
    (.istore 4, 49, 4, 0, 0, 0, .inl 0, []),
    (.aload_n 0, 50, 0, 0, 0, 0, .inl 0, []),
    (.iload_n 1, 51, 1, 0, 0, 0, .inl 0, []),
    (.iload 4, 53, 4, 0, 0, 0, .inl 0, []),
    (.iload_n 2, 54, 2, 0, 0, 0, .inl 0, []),
    (.invokevirtual 31, 57, 5, 4, 0, 0, .inl 0, []),
    (.aload_n 0, 58, 0, 0, 0, 0, .inl 0, []),
    (.iload_n 1, 59, 1, 0, 0, 0, .inl 0, []),
    (.iload 4, 61, 4, 0, 0, 0, .inl 0, []),
    (.iload_n 2, 62, 2, 0, 0, 0, .inl 0, []),
    (.invokevirtual 24, 65, 4, 4, 0, 0, .inl 0, []),
    (.isub, 66, 0, 0, 0, 0, .inl 0, []),
    (.istore 5, 68, 5, 0, 0, 0, .inl 0, []),
    (.aload_n 0, 69, 0, 0, 0, 0, .inl 0, []),
    (.getfield 34, 72, 0, 10, 0, 0, .inl 0, []),
    (.aload_n 0, 73, 0, 0, 0, 0, .inl 0, []),
    (.getfield 28, 76, 0, 9, 0, 0, .inl 0, []),
    (.isub, 77, 0, 0, 0, 0, .inl 0, []),
    (.iload 5, 79, 5, 0, 0, 0, .inl 0, []),
    (.isub, 80, 0, 0, 0, 0, .inl 0, []),
    (.ireturn, 81, 0, 0, 0, 0, .inl 0, [])])]
def gT_X0_narrowerBy : gs_T := ([], gB_X0_narrowerBy, [])
set_option maxRecDepth 100000 in
def gB_X0_countPlaces : List (Nat × List gs_N) := [(0, [(.bipush 120, 2, 0, 0, 0, 0, .inl 120, []),
    (.iconst 2, 3, 0, 0, 0, 0, .inl 2, []),
    (.iload_n 1, 4, 1, 0, 0, 0, .inl 0, []),
    (.imul, 5, 0, 0, 0, 0, .inl 0, []),
    (.iconst 1, 6, 0, 0, 0, 0, .inl 1, []),
    (.iadd, 7, 0, 0, 0, 0, .inl 0, []),
    (.invokestatic 9, 10, 314, 2, 0, 1, .inl 0, []),
    (.istore_n 2, 11, 2, 0, 0, 0, .inl 0, []),
    (.bipush 59, 13, 0, 0, 0, 0, .inl 59, []),
    (.aload_n 0, 14, 0, 0, 0, 0, .inl 0, []),
    (.getfield 66, 17, 0, 1, 0, 0, .inl 0, []),
    (.iload_n 1, 18, 1, 0, 0, 0, .inl 0, []),
    (.iadd, 19, 0, 0, 0, 0, .inl 0, []),
    (.invokestatic 9, 22, 314, 2, 0, 1, .inl 0, []),
    (.iconst 0, 23, 0, 0, 0, 0, .inl 0, []),
    (.aload_n 0, 24, 0, 0, 0, 0, .inl 0, []),
    (.getfield 66, 27, 0, 1, 0, 0, .inl 0, []),
    (.iload_n 1, 28, 1, 0, 0, 0, .inl 0, []),
    (.isub, 29, 0, 0, 0, 0, .inl 0, []),
    (.invokestatic 40, 32, 312, 2, 0, 1, .inl 0, []),
    (.isub, 33, 0, 0, 0, 0, .inl 0, []),
    (.iconst 1, 34, 0, 0, 0, 0, .inl 1, []),
    (.iadd, 35, 0, 0, 0, 0, .inl 0, []),
    (.istore_n 3, 36, 3, 0, 0, 0, .inl 0, []),
    (.iload_n 2, 37, 2, 0, 0, 0, .inl 0, []),
    (.iload_n 3, 38, 3, 0, 0, 0, .inl 0, []),
    (.imul, 39, 0, 0, 0, 0, .inl 0, []),
    (.ireturn, 40, 0, 0, 0, 0, .inl 0, [])])]
def gT_X0_countPlaces : gs_T := ([], gB_X0_countPlaces, [])
set_option maxRecDepth 100000 in
def gB_X0_yearsOutside : List (Nat × List gs_N) := [(0, [(.aload_n 1, 1, 1, 0, 0, 0, .inl 0, []),
    (.getfield 69, 4, 2, 2, 0, 0, .inl 0, []),
    (.aload_n 0, 5, 0, 0, 0, 0, .inl 0, []),
    (.getfield 28, 8, 0, 9, 0, 0, .inl 0, []),
    (.if_icmp .ge 13, 11, 21, 0, 0, 0, .inl 0, []),
    (.aload_n 0, 12, 0, 0, 0, 0, .inl 0, []),
    (.getfield 28, 15, 0, 9, 0, 0, .inl 0, []),
    (.aload_n 1, 16, 1, 0, 0, 0, .inl 0, []),
    (.getfield 69, 19, 2, 2, 0, 0, .inl 0, []),
    (.isub, 20, 0, 0, 0, 0, .inl 0, []),
    (.ireturn, 21, 0, 0, 0, 0, .inl 0, [])]),
  (21, [(.aload_n 1, 22, 1, 0, 0, 0, .inl 0, []),
    (.getfield 74, 25, 2, 1, 0, 0, .inl 0, []),
    (.aload_n 0, 26, 0, 0, 0, 0, .inl 0, []),
    (.getfield 34, 29, 0, 10, 0, 0, .inl 0, []),
    (.if_icmp .le 15, 32, 44, 0, 0, 0, .inl 0, []),
    (.aload_n 1, 33, 1, 0, 0, 0, .inl 0, []),
    (.getfield 74, 36, 2, 1, 0, 0, .inl 0, []),
    (.aload_n 0, 37, 0, 0, 0, 0, .inl 0, []),
    (.getfield 34, 40, 0, 10, 0, 0, .inl 0, []),
    (.isub, 41, 0, 0, 0, 0, .inl 0, []),
    (.goto 4, 44, 45, 0, 0, 0, .inl 0, [])]),
  (44, [(.iconst 0, 45, 0, 0, 0, 0, .inl 0, [])]),
  (45, [(.ireturn, 46, 0, 0, 0, 0, .inl 0, [])])]
def gT_X0_yearsOutside : gs_T := ([], gB_X0_yearsOutside, [])
set_option maxRecDepth 100000 in
def gB_X1_init : List (Nat × List gs_N) := [(0, [(.aload_n 0, 1, 0, 0, 0, 0, .inl 0, []),
    (.invokespecial 3, 4, 9000, 1, 2, 92, .inl 0, []),
    (.aload_n 0, 5, 0, 0, 0, 0, .inl 0, []),
    (.bipush 12, 7, 0, 0, 0, 0, .inl 12, []),
    (.newarray .int, 9, 13, 0, 0, 0, .inl 0, []),
    (.putfield 9, 12, 1, 0, 2, 1, .inl 0, []),
    (.return_, 13, 0, 0, 0, 0, .inl 0, [])])]
def gT_X1_init : gs_T := ([], gB_X1_init, [])
set_option maxRecDepth 100000 in
def gB_X1_reckon : List (Nat × List gs_N) := [(0, [(.iconst 0, 1, 0, 0, 0, 0, .inl 0, []),
    (.istore_n 3, 2, 3, 0, 0, 0, .inl 0, [])]),
  (2, [(.iload_n 3, 3, 3, 0, 0, 0, .inl 0, []),
    (.bipush 12, 5, 0, 0, 0, 0, .inl 12, []),
    (.if_icmp .ge 37, 8, 42, 0, 0, 0, .inl 0, []),
    (.aload_n 0, 9, 0, 0, 0, 0, .inl 0, []),
    (.getfield 9, 12, 1, 0, 2, 1, .inl 0, []),
    (.iload_n 3, 13, 3, 0, 0, 0, .inl 0, []),
    (.iload_n 3, 14, 3, 0, 0, 0, .inl 0, []),
    (.aload_n 1, 15, 1, 0, 0, 0, .inl 0, []),
    (.getfield 15, 18, 7, 8, 0, 0, .inl 0, []),
    (.if_icmp .ge 16, 21, 34, 0, 0, 0, .inl 0, []),
    (.iload_n 2, 22, 2, 0, 0, 0, .inl 0, []),
    (.iload_n 3, 23, 3, 0, 0, 0, .inl 0, []),
    (.ishr, 24, 0, 0, 0, 0, .inl 0, []),
    (.iconst 1, 25, 0, 0, 0, 0, .inl 1, []),
    (.iand, 26, 0, 0, 0, 0, .inl 0, []),
    (.iconst 1, 27, 0, 0, 0, 0, .inl 1, []),
    (.if_icmp .ne 7, 30, 34, 0, 0, 0, .inl 0, []),
    (.iload_n 3, 31, 3, 0, 0, 0, .inl 0, []),
    (.goto 4, 34, 35, 0, 0, 0, .inl 0, [])]),
  (34, [(.iconst (-1), 35, 0, 0, 0, 0, .inl (-1), [])]),
  (35, [(.iastore, 36, 0, 0, 0, 0, .inl 0, []),
    (.iinc 3 1, 39, 3, 0, 0, 0, .inl 1, []),
    (.goto (-37), 42, 2, 0, 0, 0, .inl 0, [])]),
  (42, [(.iconst 0, 43, 0, 0, 0, 0, .inl 0, []),
    (.istore_n 3, 44, 3, 0, 0, 0, .inl 0, [])]),
  (44, [(.iload_n 3, 45, 3, 0, 0, 0, .inl 0, []),
    (.aload_n 1, 46, 1, 0, 0, 0, .inl 0, []),
    (.getfield 15, 49, 7, 8, 0, 0, .inl 0, []),
    (.if_icmp .ge 87, 52, 136, 0, 0, 0, .inl 0, []),
    (.iload_n 3, 53, 3, 0, 0, 0, .inl 0, []),
    (.iconst 1, 54, 0, 0, 0, 0, .inl 1, []),
    (.iadd, 55, 0, 0, 0, 0, .inl 0, []),
    (.istore 4, 57, 4, 0, 0, 0, .inl 0, [])]),
  (57, [(.iload 4, 59, 4, 0, 0, 0, .inl 0, []),
    (.aload_n 1, 60, 1, 0, 0, 0, .inl 0, []),
    (.getfield 15, 63, 7, 8, 0, 0, .inl 0, []),
    (.if_icmp .ge 67, 66, 130, 0, 0, 0, .inl 0, []),
    (.aload_n 0, 67, 0, 0, 0, 0, .inl 0, []),
    (.getfield 9, 70, 1, 0, 2, 1, .inl 0, []),
    (.iload_n 3, 71, 3, 0, 0, 0, .inl 0, []),
    (.iaload, 72, 0, 0, 0, 0, .inl 0, []),
    (.iconst (-1), 73, 0, 0, 0, 0, .inl (-1), []),
    (.if_icmp .eq 51, 76, 124, 0, 0, 0, .inl 0, []),
    (.aload_n 0, 77, 0, 0, 0, 0, .inl 0, []),
    (.getfield 9, 80, 1, 0, 2, 1, .inl 0, []),
    (.iload 4, 82, 4, 0, 0, 0, .inl 0, []),
    (.iaload, 83, 0, 0, 0, 0, .inl 0, []),
    (.iconst (-1), 84, 0, 0, 0, 0, .inl (-1), []),
    (.if_icmp .eq 40, 87, 124, 0, 0, 0, .inl 0, []),
    (.aload_n 1, 88, 1, 0, 0, 0, .inl 0, []),
    (.aload_n 1, 89, 1, 0, 0, 0, .inl 0, []),
    (.getfield 21, 92, 7, 6, 2, 1, .inl 0, []),
    (.iload_n 3, 93, 3, 0, 0, 0, .inl 0, []),
    (.aaload, 94, 0, 0, 0, 0, .inl 0, []),
    (.aload_n 1, 95, 1, 0, 0, 0, .inl 0, []),
    (.getfield 21, 98, 7, 6, 2, 1, .inl 0, []),
    (.iload 4, 100, 4, 0, 0, 0, .inl 0, []),
    (.aaload, 101, 0, 0, 0, 0, .inl 0, []),
    (.invokevirtual 25, 104, 103, 3, 0, 7, .inl 0, []),
    (.ifCond .eq 20, 107, 124, 0, 0, 0, .inl 0, []),
    (.aload_n 0, 108, 0, 0, 0, 0, .inl 0, []),
    (.aload_n 0, 109, 0, 0, 0, 0, .inl 0, []),
    (.getfield 9, 112, 1, 0, 2, 1, .inl 0, []),
    (.iload_n 3, 113, 3, 0, 0, 0, .inl 0, []),
    (.iaload, 114, 0, 0, 0, 0, .inl 0, []),
    (.aload_n 0, 115, 0, 0, 0, 0, .inl 0, []),
    (.getfield 9, 118, 1, 0, 2, 1, .inl 0, []),
    (.iload 4, 120, 4, 0, 0, 0, .inl 0, []),
    (.iaload, 121, 0, 0, 0, 0, .inl 0, []),
    (.invokevirtual 29, 124, 12, 3, 2, 1, .inl 0, [])]),
  (124, [(.iinc 4 1, 127, 4, 0, 0, 0, .inl 1, []),
    (.goto (-70), 130, 57, 0, 0, 0, .inl 0, [])]),
  (130, [(.iinc 3 1, 133, 3, 0, 0, 0, .inl 1, []),
    (.goto (-89), 136, 44, 0, 0, 0, .inl 0, [])]),
  (136, [(.return_, 137, 0, 0, 0, 0, .inl 0, [])])]
def gT_X1_reckon : gs_T := ([], gB_X1_reckon, [(2, [0, 1, 2, 3]), (44, [0, 1, 3]), (57, [0, 1, 3, 4])])
set_option maxRecDepth 100000 in
def gB_X1_join : List (Nat × List gs_N) := [(0, [(.iload_n 1, 1, 1, 0, 0, 0, .inl 0, []),
    (.iload_n 2, 2, 2, 0, 0, 0, .inl 0, []),
    (.invokestatic 33, 5, 314, 2, 0, 1, .inl 0, []),
    (.istore_n 3, 6, 3, 0, 0, 0, .inl 0, []),
    (.iload_n 1, 7, 1, 0, 0, 0, .inl 0, []),
    (.iload_n 2, 8, 2, 0, 0, 0, .inl 0, []),
    (.invokestatic 39, 11, 312, 2, 0, 1, .inl 0, []),
    (.istore 4, 13, 4, 0, 0, 0, .inl 0, []),
    (.iconst 0, 14, 0, 0, 0, 0, .inl 0, []),
    (.istore 5, 16, 5, 0, 0, 0, .inl 0, [])]),
  (16, [(.iload 5, 18, 5, 0, 0, 0, .inl 0, []),
    (.bipush 12, 20, 0, 0, 0, 0, .inl 12, []),
    (.if_icmp .ge 29, 23, 49, 0, 0, 0, .inl 0, []),
    (.aload_n 0, 24, 0, 0, 0, 0, .inl 0, []),
    (.getfield 9, 27, 1, 0, 2, 1, .inl 0, []),
    (.iload 5, 29, 5, 0, 0, 0, .inl 0, []),
    (.iaload, 30, 0, 0, 0, 0, .inl 0, []),
    (.iload 4, 32, 4, 0, 0, 0, .inl 0, []),
    (.if_icmp .ne 11, 35, 43, 0, 0, 0, .inl 0, []),
    (.aload_n 0, 36, 0, 0, 0, 0, .inl 0, []),
    (.getfield 9, 39, 1, 0, 2, 1, .inl 0, []),
    (.iload 5, 41, 5, 0, 0, 0, .inl 0, []),
    (.iload_n 3, 42, 3, 0, 0, 0, .inl 0, []),
    (.iastore, 43, 0, 0, 0, 0, .inl 0, [])]),
  (43, [(.iinc 5 1, 46, 5, 0, 0, 0, .inl 1, []),
    (.goto (-30), 49, 16, 0, 0, 0, .inl 0, [])]),
  (49, [(.return_, 50, 0, 0, 0, 0, .inl 0, [])])]
def gT_X1_join : gs_T := ([], gB_X1_join, [(16, [0, 3, 4, 5])])
set_option maxRecDepth 100000 in
def gB_X1_countAll : List (Nat × List gs_N) := [(0, [(.iconst 0, 1, 0, 0, 0, 0, .inl 0, []),
    (.istore_n 1, 2, 1, 0, 0, 0, .inl 0, []),
    (.iconst 0, 3, 0, 0, 0, 0, .inl 0, []),
    (.istore_n 2, 4, 2, 0, 0, 0, .inl 0, [])]),
  (4, [(.iload_n 2, 5, 2, 0, 0, 0, .inl 0, []),
    (.bipush 12, 7, 0, 0, 0, 0, .inl 12, []),
    (.if_icmp .ge 22, 10, 29, 0, 0, 0, .inl 0, []),
    (.aload_n 0, 11, 0, 0, 0, 0, .inl 0, []),
    (.getfield 9, 14, 1, 0, 2, 1, .inl 0, []),
    (.iload_n 2, 15, 2, 0, 0, 0, .inl 0, []),
    (.iaload, 16, 0, 0, 0, 0, .inl 0, []),
    (.iload_n 2, 17, 2, 0, 0, 0, .inl 0, []),
    (.if_icmp .ne 6, 20, 23, 0, 0, 0, .inl 0, []),
    (.iinc 1 1, 23, 1, 0, 0, 0, .inl 1, [])]),
  (23, [(.iinc 2 1, 26, 2, 0, 0, 0, .inl 1, []),
    (.goto (-22), 29, 4, 0, 0, 0, .inl 0, [])]),
  (29, [(.iload_n 1, 30, 1, 0, 0, 0, .inl 0, []),
    (.ireturn, 31, 0, 0, 0, 0, .inl 0, [])])]
def gT_X1_countAll : gs_T := ([], gB_X1_countAll, [(4, [0, 1, 2])])
set_option maxRecDepth 100000 in
def gB_X1_sourceOf : List (Nat × List gs_N) := [(0, [(.aload_n 1, 1, 1, 0, 0, 0, .inl 0, []),
    (.getfield 21, 4, 7, 6, 2, 1, .inl 0, []),
    (.iload_n 2, 5, 2, 0, 0, 0, .inl 0, []),
    (.aaload, 6, 0, 0, 0, 0, .inl 0, []),
    (.astore_n 3, 7, 3, 0, 0, 0, .inl 0, []),
    (.aload_n 0, 8, 0, 0, 0, 0, .inl 0, []),
    (.getfield 9, 11, 1, 0, 2, 1, .inl 0, []),
    (.iload_n 2, 12, 2, 0, 0, 0, .inl 0, []),
    (.iaload, 13, 0, 0, 0, 0, .inl 0, []),
    (.iconst (-1), 14, 0, 0, 0, 0, .inl (-1), []),
    (.if_icmp .eq 11, 17, 25, 0, 0, 0, .inl 0, []),
    (.aload_n 3, 18, 3, 0, 0, 0, .inl 0, []),
    (.getfield 42, 21, 2, 15, 0, 0, .inl 0, []),
    (.iconst (-1), 22, 0, 0, 0, 0, .inl (-1), []),
    (.if_icmp .ne 5, 25, 27, 0, 0, 0, .inl 0, [])]),
  (25, [(.iconst (-1), 26, 0, 0, 0, 0, .inl (-1), []),
    (.ireturn, 27, 0, 0, 0, 0, .inl 0, [])]),
  (27, [(.iconst (-1), 28, 0, 0, 0, 0, .inl (-1), []),
    (.istore 4, 30, 4, 0, 0, 0, .inl 0, []),
    (.ldc 49, 32, 0, 0, 0, 0, .inl 2147483647, []),
    (.istore 5, 34, 5, 0, 0, 0, .inl 0, []),
    (.iconst 0, 35, 0, 0, 0, 0, .inl 0, []),
    (.istore 6, 37, 6, 0, 0, 0, .inl 0, [])]),
  (37, [(.iload 6, 39, 6, 0, 0, 0, .inl 0, []),
    (.aload_n 1, 40, 1, 0, 0, 0, .inl 0, []),
    (.getfield 15, 43, 7, 8, 0, 0, .inl 0, []),
    (.if_icmp .ge 82, 46, 125, 0, 0, 0, .inl 0, []),
    (.aload_n 1, 47, 1, 0, 0, 0, .inl 0, []),
    (.getfield 21, 50, 7, 6, 2, 1, .inl 0, []),
    (.iload 6, 52, 6, 0, 0, 0, .inl 0, []),
    (.aaload, 53, 0, 0, 0, 0, .inl 0, []),
    (.astore 7, 55, 7, 0, 0, 0, .inl 0, []),
    (.aload_n 0, 56, 0, 0, 0, 0, .inl 0, []),
    (.getfield 9, 59, 1, 0, 2, 1, .inl 0, []),
    (.iload 6, 61, 6, 0, 0, 0, .inl 0, []),
    (.iaload, 62, 0, 0, 0, 0, .inl 0, []),
    (.aload_n 0, 63, 0, 0, 0, 0, .inl 0, []),
    (.getfield 9, 66, 1, 0, 2, 1, .inl 0, []),
    (.iload_n 2, 67, 2, 0, 0, 0, .inl 0, []),
    (.iaload, 68, 0, 0, 0, 0, .inl 0, []),
    (.if_icmp .ne 51, 71, 119, 0, 0, 0, .inl 0, []),
    (.aload 7, 73, 7, 0, 0, 0, .inl 0, []),
    (.getfield 42, 76, 2, 15, 0, 0, .inl 0, []),
    (.iconst (-1), 77, 0, 0, 0, 0, .inl (-1), []),
    (.if_icmp .eq 42, 80, 119, 0, 0, 0, .inl 0, []),
    (.aload_n 1, 81, 1, 0, 0, 0, .inl 0, []),
    (.aload_n 3, 82, 3, 0, 0, 0, .inl 0, []),
    (.getfield 42, 85, 2, 15, 0, 0, .inl 0, []),
    (.aload 7, 87, 7, 0, 0, 0, .inl 0, []),
    (.getfield 42, 90, 2, 15, 0, 0, .inl 0, []),
    (.invokevirtual 50, 93, 104, 3, 0, 7, .inl 0, []),
    (.ifCond .eq 26, 96, 119, 0, 0, 0, .inl 0, []),
    (.aload_n 3, 97, 3, 0, 0, 0, .inl 0, []),
    (.aload 7, 99, 7, 0, 0, 0, .inl 0, []),
    (.invokevirtual 54, 102, 21, 2, 0, 2, .inl 0, []),
    (.iload 5, 104, 5, 0, 0, 0, .inl 0, []),
    (.if_icmp .ge 15, 107, 119, 0, 0, 0, .inl 0, []),
    (.iload 6, 109, 6, 0, 0, 0, .inl 0, []),
    (.istore 4, 111, 4, 0, 0, 0, .inl 0, []),
    (.aload_n 3, 112, 3, 0, 0, 0, .inl 0, []),
    (.aload 7, 114, 7, 0, 0, 0, .inl 0, []),
    (.invokevirtual 54, 117, 21, 2, 0, 2, .inl 0, []),
    (.istore 5, 119, 5, 0, 0, 0, .inl 0, [])]),
  (119, [(.iinc 6 1, 122, 6, 0, 0, 0, .inl 1, []),
    (.goto (-85), 125, 37, 0, 0, 0, .inl 0, [])]),
  (125, [(.iload 4, 127, 4, 0, 0, 0, .inl 0, []),
    (.ireturn, 128, 0, 0, 0, 0, .inl 0, [])])]
def gT_X1_sourceOf : gs_T := ([], gB_X1_sourceOf, [(37, [0, 1, 2, 3, 4, 5, 6])])
set_option maxRecDepth 100000 in
def gB_X1_worthOf : List (Nat × List gs_N) := [(0, [(.lconst 1, 1, 0, 0, 0, 0, .inr (.inl 1), []),
    (.lstore 4, 3, 4, 0, 0, 0, .inl 0, []),
    (.lconst 1, 4, 0, 0, 0, 0, .inr (.inl 1), []),
    (.lstore 6, 6, 6, 0, 0, 0, .inl 0, []),
    (.iconst 0, 7, 0, 0, 0, 0, .inl 0, []),
    (.istore 8, 9, 8, 0, 0, 0, .inl 0, [])]),
  (9, [(.iload 8, 11, 8, 0, 0, 0, .inl 0, []),
    (.aload_n 1, 12, 1, 0, 0, 0, .inl 0, []),
    (.getfield 15, 15, 7, 8, 0, 0, .inl 0, []),
    (.if_icmp .ge 58, 18, 73, 0, 0, 0, .inl 0, []),
    (.aload_n 0, 19, 0, 0, 0, 0, .inl 0, []),
    (.getfield 9, 22, 1, 0, 2, 1, .inl 0, []),
    (.iload 8, 24, 8, 0, 0, 0, .inl 0, []),
    (.iaload, 25, 0, 0, 0, 0, .inl 0, []),
    (.iload_n 2, 26, 2, 0, 0, 0, .inl 0, []),
    (.if_icmp .ne 41, 29, 67, 0, 0, 0, .inl 0, []),
    (.aload_n 0, 30, 0, 0, 0, 0, .inl 0, []),
    (.aload_n 1, 31, 1, 0, 0, 0, .inl 0, []),
    (.iload 8, 33, 8, 0, 0, 0, .inl 0, []),
    (.invokevirtual 58, 36, 14, 3, 0, 1, .inl 0, []),
    (.iconst (-1), 37, 0, 0, 0, 0, .inl (-1), []),
    (.if_icmp .ne 30, 40, 67, 0, 0, 0, .inl 0, []),
    (.lload 4, 42, 4, 0, 0, 0, .inl 0, []),
    (.bipush 10, 44, 0, 0, 0, 0, .inl 10, []),
    (.aload_n 1, 45, 1, 0, 0, 0, .inl 0, []),
    (.getfield 21, 48, 7, 6, 2, 1, .inl 0, []),
    (.iload 8, 50, 8, 0, 0, 0, .inl 0, []),
    (.aaload, 51, 0, 0, 0, 0, .inl 0, []),
    (.getfield 62, 54, 2, 14, 0, 0, .inl 0, []),
    (.isub, 55, 0, 0, 0, 0, .inl 0, []),
    (.i2l, 56, 0, 0, 0, 0, .inl 0, []),
    (.lmul, 57, 0, 0, 0, 0, .inl 0, []),
    (.lstore 4, 59, 4, 0, 0, 0, .inl 0, []),
    (.lload 6, 61, 6, 0, 0, 0, .inl 0, []),
    (.ldc2_w 65, 64, 0, 0, 0, 0, .inr (.inl 10), []),
    (.lmul, 65, 0, 0, 0, 0, .inl 0, []),
    (.lstore 6, 67, 6, 0, 0, 0, .inl 0, [])]),
  (67, [(.iinc 8 1, 70, 8, 0, 0, 0, .inl 1, []),
    (.goto (-61), 73, 9, 0, 0, 0, .inl 0, [])]),
  (73, [(.lload 6, 75, 6, 0, 0, 0, .inl 0, []),
    (.lload 4, 77, 4, 0, 0, 0, .inl 0, []),
    (.lsub, 78, 0, 0, 0, 0, .inl 0, []),
    (.lload 6, 80, 6, 0, 0, 0, .inl 0, []),
    (.iload_n 3, 81, 3, 0, 0, 0, .inl 0, []),
    (.invokestatic 67, 84, 85, 3, 1, 1, .inl 0, []),
    (.lreturn, 85, 0, 0, 0, 0, .inl 0, [])])]
def gT_X1_worthOf : gs_T := ([], gB_X1_worthOf, [(9, [0, 1, 2, 3, 4, 6, 8])])
set_option maxRecDepth 100000 in
def gB_X1_hasSuch : List (Nat × List gs_N) := [(0, [(.iconst 0, 1, 0, 0, 0, 0, .inl 0, []),
    (.istore 6, 3, 6, 0, 0, 0, .inl 0, [])]),
  (3, [(.iload 6, 5, 6, 0, 0, 0, .inl 0, []),
    (.aload_n 1, 6, 1, 0, 0, 0, .inl 0, []),
    (.getfield 15, 9, 7, 8, 0, 0, .inl 0, []),
    (.if_icmp .ge 89, 12, 98, 0, 0, 0, .inl 0, []),
    (.aload_n 1, 13, 1, 0, 0, 0, .inl 0, []),
    (.getfield 21, 16, 7, 6, 2, 1, .inl 0, []),
    (.iload 6, 18, 6, 0, 0, 0, .inl 0, []),
    (.aaload, 19, 0, 0, 0, 0, .inl 0, []),
    (.astore 7, 21, 7, 0, 0, 0, .inl 0, []),
    (.aload_n 0, 22, 0, 0, 0, 0, .inl 0, []),
    (.getfield 9, 25, 1, 0, 2, 1, .inl 0, []),
    (.iload 6, 27, 6, 0, 0, 0, .inl 0, []),
    (.iaload, 28, 0, 0, 0, 0, .inl 0, []),
    (.iload_n 2, 29, 2, 0, 0, 0, .inl 0, []),
    (.if_icmp .ne 63, 32, 92, 0, 0, 0, .inl 0, []),
    (.aload 7, 34, 7, 0, 0, 0, .inl 0, []),
    (.invokevirtual 73, 37, 19, 1, 0, 2, .inl 0, []),
    (.ifCond .ne 55, 40, 92, 0, 0, 0, .inl 0, []),
    (.iload 4, 42, 4, 0, 0, 0, .inl 0, []),
    (.aload 7, 44, 7, 0, 0, 0, .inl 0, []),
    (.getfield 77, 47, 2, 1, 0, 0, .inl 0, []),
    (.if_icmp .gt 45, 50, 92, 0, 0, 0, .inl 0, []),
    (.aload 7, 52, 7, 0, 0, 0, .inl 0, []),
    (.getfield 77, 55, 2, 1, 0, 0, .inl 0, []),
    (.iload 5, 57, 5, 0, 0, 0, .inl 0, []),
    (.if_icmp .gt 35, 60, 92, 0, 0, 0, .inl 0, []),
    (.aload_n 1, 61, 1, 0, 0, 0, .inl 0, []),
    (.getfield 80, 64, 7, 5, 2, 1, .inl 0, []),
    (.aload 7, 66, 7, 0, 0, 0, .inl 0, []),
    (.getfield 77, 69, 2, 1, 0, 0, .inl 0, []),
    (.invokevirtual 84, 72, 115, 2, 0, 9, .inl 0, []),
    (.ifCond .le 20, 75, 92, 0, 0, 0, .inl 0, []),
    (.iload_n 3, 76, 3, 0, 0, 0, .inl 0, []),
    (.iconst (-1), 77, 0, 0, 0, 0, .inl (-1), []),
    (.if_icmp .eq 13, 80, 90, 0, 0, 0, .inl 0, []),
    (.aload_n 1, 81, 1, 0, 0, 0, .inl 0, []),
    (.aload 7, 83, 7, 0, 0, 0, .inl 0, []),
    (.invokevirtual 90, 86, 95, 2, 0, 7, .inl 0, []),
    (.iload_n 3, 87, 3, 0, 0, 0, .inl 0, []),
    (.if_icmp .ne 5, 90, 92, 0, 0, 0, .inl 0, [])]),
  (90, [(.iconst 1, 91, 0, 0, 0, 0, .inl 1, []),
    (.ireturn, 92, 1, 0, 0, 0, .inl 0, [])]),
  (92, [(.iinc 6 1, 95, 6, 0, 0, 0, .inl 1, []),
    (.goto (-92), 98, 3, 0, 0, 0, .inl 0, [])]),
  (98, [(.iconst 0, 99, 0, 0, 0, 0, .inl 0, []),
    (.ireturn, 100, 1, 0, 0, 0, .inl 0, [])])]
def gT_X1_hasSuch : gs_T := ([], gB_X1_hasSuch, [(3, [0, 1, 2, 3, 4, 5, 6])])
set_option maxRecDepth 100000 in
def gB_X2_init : List (Nat × List gs_N) := [(0, [(.aload_n 0, 1, 0, 0, 0, 0, .inl 0, []),
    (.invokespecial 3, 4, 9000, 1, 2, 92, .inl 0, []),
    (.return_, 5, 0, 0, 0, 0, .inl 0, [])])]
def gT_X2_init : gs_T := ([], gB_X2_init, [])
set_option maxRecDepth 100000 in
def gB_X2_clear : List (Nat × List gs_N) := [(0, [(.aload_n 0, 1, 0, 0, 0, 0, .inl 0, []),
    (.iconst (-1), 2, 0, 0, 0, 0, .inl (-1), []),
    (.putfield 9, 5, 2, 0, 0, 0, .inl 0, []),
    (.aload_n 0, 6, 0, 0, 0, 0, .inl 0, []),
    (.iconst 0, 7, 0, 0, 0, 0, .inl 0, []),
    (.putfield 15, 10, 2, 1, 0, 0, .inl 0, []),
    (.aload_n 0, 11, 0, 0, 0, 0, .inl 0, []),
    (.iconst 0, 12, 0, 0, 0, 0, .inl 0, []),
    (.putfield 18, 15, 2, 2, 0, 0, .inl 0, []),
    (.aload_n 0, 16, 0, 0, 0, 0, .inl 0, []),
    (.iconst 0, 17, 0, 0, 0, 0, .inl 0, []),
    (.putfield 21, 20, 2, 3, 0, 0, .inl 0, []),
    (.aload_n 0, 21, 0, 0, 0, 0, .inl 0, []),
    (.iconst 0, 22, 0, 0, 0, 0, .inl 0, []),
    (.putfield 24, 25, 2, 4, 0, 0, .inl 0, []),
    (.aload_n 0, 26, 0, 0, 0, 0, .inl 0, []),
    (.iconst (-1), 27, 0, 0, 0, 0, .inl (-1), []),
    (.putfield 27, 30, 2, 5, 0, 0, .inl 0, []),
    (.aload_n 0, 31, 0, 0, 0, 0, .inl 0, []),
    (.iconst 0, 32, 0, 0, 0, 0, .inl 0, []),
    (.putfield 30, 35, 2, 6, 0, 0, .inl 0, []),
    (.aload_n 0, 36, 0, 0, 0, 0, .inl 0, []),
    (.iconst 0, 37, 0, 0, 0, 0, .inl 0, []),
    (.putfield 33, 40, 2, 7, 0, 0, .inl 0, []),
    (.aload_n 0, 41, 0, 0, 0, 0, .inl 0, []),
    (.iconst 0, 42, 0, 0, 0, 0, .inl 0, []),
    (.putfield 36, 45, 2, 8, 0, 0, .inl 0, []),
    (.aload_n 0, 46, 0, 0, 0, 0, .inl 0, []),
    (.iconst 0, 47, 0, 0, 0, 0, .inl 0, []),
    (.putfield 39, 50, 2, 9, 0, 0, .inl 0, []),
    (.aload_n 0, 51, 0, 0, 0, 0, .inl 0, []),
    (.iconst 0, 52, 0, 0, 0, 0, .inl 0, []),
    (.putfield 42, 55, 2, 10, 0, 0, .inl 0, []),
    (.aload_n 0, 56, 0, 0, 0, 0, .inl 0, []),
    (.iconst 0, 57, 0, 0, 0, 0, .inl 0, []),
    (.putfield 45, 60, 2, 11, 0, 0, .inl 0, []),
    (.aload_n 0, 61, 0, 0, 0, 0, .inl 0, []),
    (.iconst 0, 62, 0, 0, 0, 0, .inl 0, []),
    (.putfield 48, 65, 2, 12, 0, 0, .inl 0, []),
    (.aload_n 0, 66, 0, 0, 0, 0, .inl 0, []),
    (.iconst 0, 67, 0, 0, 0, 0, .inl 0, []),
    (.putfield 51, 70, 2, 13, 0, 0, .inl 0, []),
    (.aload_n 0, 71, 0, 0, 0, 0, .inl 0, []),
    (.bipush 9, 73, 0, 0, 0, 0, .inl 9, []),
    (.putfield 54, 76, 2, 14, 0, 0, .inl 0, []),
    (.aload_n 0, 77, 0, 0, 0, 0, .inl 0, []),
    (.iconst (-1), 78, 0, 0, 0, 0, .inl (-1), []),
    (.putfield 57, 81, 2, 15, 0, 0, .inl 0, []),
    (.return_, 82, 0, 0, 0, 0, .inl 0, [])])]
def gT_X2_clear : gs_T := ([], gB_X2_clear, [])
set_option maxRecDepth 100000 in
def gB_X2_isRock : List (Nat × List gs_N) := [(0, [(.aload_n 0, 1, 0, 0, 0, 0, .inl 0, []),
    (.getfield 9, 4, 2, 0, 0, 0, .inl 0, []),
    (.iconst (-1), 5, 0, 0, 0, 0, .inl (-1), []),
    (.if_icmp .ne 7, 8, 12, 0, 0, 0, .inl 0, []),
    (.iconst 1, 9, 0, 0, 0, 0, .inl 1, []),
    (.goto 4, 12, 13, 0, 0, 0, .inl 0, [])]),
  (12, [(.iconst 0, 13, 0, 0, 0, 0, .inl 0, [])]),
  (13, [(.ireturn, 14, 1, 0, 0, 0, .inl 0, [])])]
def gT_X2_isRock : gs_T := ([], gB_X2_isRock, [])
set_option maxRecDepth 100000 in
def gB_X2_detail : List (Nat × List gs_N) := [(0, [(.iload_n 1, 1, 1, 0, 0, 0, .inl 0, []),
    (.tableswitch 123 0 11 #[63, 68, 73, 78, 83, 88, 93, 98, 103, 108, 113, 118], 64, 124, 63, 0, 0, .inl 0, [(0, 64), (1, 69), (2, 74), (3, 79), (4, 84), (5, 89), (6, 94), (7, 99), (8, 104), (9, 109), (10, 114), (11, 119)])]),
  (64, [(.aload_n 0, 65, 0, 0, 0, 0, .inl 0, []),
    (.getfield 15, 68, 2, 1, 0, 0, .inl 0, []),
    (.ireturn, 69, 0, 0, 0, 0, .inl 0, [])]),
  (69, [(.aload_n 0, 70, 0, 0, 0, 0, .inl 0, []),
    (.getfield 21, 73, 2, 3, 0, 0, .inl 0, []),
    (.ireturn, 74, 0, 0, 0, 0, .inl 0, [])]),
  (74, [(.aload_n 0, 75, 0, 0, 0, 0, .inl 0, []),
    (.getfield 24, 78, 2, 4, 0, 0, .inl 0, []),
    (.ireturn, 79, 0, 0, 0, 0, .inl 0, [])]),
  (79, [(.aload_n 0, 80, 0, 0, 0, 0, .inl 0, []),
    (.getfield 27, 83, 2, 5, 0, 0, .inl 0, []),
    (.ireturn, 84, 0, 0, 0, 0, .inl 0, [])]),
  (84, [(.aload_n 0, 85, 0, 0, 0, 0, .inl 0, []),
    (.getfield 30, 88, 2, 6, 0, 0, .inl 0, []),
    (.ireturn, 89, 0, 0, 0, 0, .inl 0, [])]),
  (89, [(.aload_n 0, 90, 0, 0, 0, 0, .inl 0, []),
    (.getfield 33, 93, 2, 7, 0, 0, .inl 0, []),
    (.ireturn, 94, 0, 0, 0, 0, .inl 0, [])]),
  (94, [(.aload_n 0, 95, 0, 0, 0, 0, .inl 0, []),
    (.getfield 42, 98, 2, 10, 0, 0, .inl 0, []),
    (.ireturn, 99, 0, 0, 0, 0, .inl 0, [])]),
  (99, [(.aload_n 0, 100, 0, 0, 0, 0, .inl 0, []),
    (.getfield 45, 103, 2, 11, 0, 0, .inl 0, []),
    (.ireturn, 104, 0, 0, 0, 0, .inl 0, [])]),
  (104, [(.aload_n 0, 105, 0, 0, 0, 0, .inl 0, []),
    (.getfield 48, 108, 2, 12, 0, 0, .inl 0, []),
    (.ireturn, 109, 0, 0, 0, 0, .inl 0, [])]),
  (109, [(.aload_n 0, 110, 0, 0, 0, 0, .inl 0, []),
    (.getfield 51, 113, 2, 13, 0, 0, .inl 0, []),
    (.ireturn, 114, 0, 0, 0, 0, .inl 0, [])]),
  (114, [(.aload_n 0, 115, 0, 0, 0, 0, .inl 0, []),
    (.getfield 54, 118, 2, 14, 0, 0, .inl 0, []),
    (.ireturn, 119, 0, 0, 0, 0, .inl 0, [])]),
  (119, [(.aload_n 0, 120, 0, 0, 0, 0, .inl 0, []),
    (.getfield 57, 123, 2, 15, 0, 0, .inl 0, []),
    (.ireturn, 124, 0, 0, 0, 0, .inl 0, [])]),
  (124, [(.aload_n 0, 125, 0, 0, 0, 0, .inl 0, []),
    (.getfield 18, 128, 2, 2, 0, 0, .inl 0, []),
    (.ireturn, 129, 0, 0, 0, 0, .inl 0, [])])]
def gT_X2_detail : gs_T := ([], gB_X2_detail, [])
set_option maxRecDepth 100000 in
def gB_X2_countUnlike : List (Nat × List gs_N) := [(0, [(.iconst 0, 1, 0, 0, 0, 0, .inl 0, []),
    (.istore_n 2, 2, 2, 0, 0, 0, .inl 0, []),
    (.iconst 1, 3, 0, 0, 0, 0, .inl 1, []),
    (.istore_n 3, 4, 3, 0, 0, 0, .inl 0, [])]),
  (4, [(.iload_n 3, 5, 3, 0, 0, 0, .inl 0, []),
    (.bipush 9, 7, 0, 0, 0, 0, .inl 9, []),
    (.if_icmp .gt 25, 10, 32, 0, 0, 0, .inl 0, []),
    (.aload_n 0, 11, 0, 0, 0, 0, .inl 0, []),
    (.iload_n 3, 12, 3, 0, 0, 0, .inl 0, []),
    (.invokevirtual 60, 15, 20, 2, 0, 2, .inl 0, []),
    (.aload_n 1, 16, 1, 0, 0, 0, .inl 0, []),
    (.iload_n 3, 17, 3, 0, 0, 0, .inl 0, []),
    (.invokevirtual 60, 20, 20, 2, 0, 2, .inl 0, []),
    (.if_icmp .eq 6, 23, 26, 0, 0, 0, .inl 0, []),
    (.iinc 2 1, 26, 2, 0, 0, 0, .inl 1, [])]),
  (26, [(.iinc 3 1, 29, 3, 0, 0, 0, .inl 1, []),
    (.goto (-25), 32, 4, 0, 0, 0, .inl 0, [])]),
  (32, [(.iload_n 2, 33, 2, 0, 0, 0, .inl 0, []),
    (.ireturn, 34, 0, 0, 0, 0, .inl 0, [])])]
def gT_X2_countUnlike : gs_T := ([], gB_X2_countUnlike, [(4, [0, 1, 2, 3])])
set_option maxRecDepth 100000 in
def gB_X2_valueOf : List (Nat × List gs_N) := [(0, [(.iload_n 1, 1, 1, 0, 0, 0, .inl 0, []),
    (.lookupswitch 89 #[(8, 59), (9, 64), (10, 69), (12, 74), (30, 79), (31, 84)], 60, 90, 59, 0, 0, .inl 0, [(8, 60), (9, 65), (10, 70), (12, 75), (30, 80), (31, 85)])]),
  (60, [(.aload_n 0, 61, 0, 0, 0, 0, .inl 0, []),
    (.getfield 42, 64, 2, 10, 0, 0, .inl 0, []),
    (.ireturn, 65, 0, 0, 0, 0, .inl 0, [])]),
  (65, [(.aload_n 0, 66, 0, 0, 0, 0, .inl 0, []),
    (.getfield 45, 69, 2, 11, 0, 0, .inl 0, []),
    (.ireturn, 70, 0, 0, 0, 0, .inl 0, [])]),
  (70, [(.aload_n 0, 71, 0, 0, 0, 0, .inl 0, []),
    (.getfield 48, 74, 2, 12, 0, 0, .inl 0, []),
    (.ireturn, 75, 0, 0, 0, 0, .inl 0, [])]),
  (75, [(.aload_n 0, 76, 0, 0, 0, 0, .inl 0, []),
    (.getfield 51, 79, 2, 13, 0, 0, .inl 0, []),
    (.ireturn, 80, 0, 0, 0, 0, .inl 0, [])]),
  (80, [(.aload_n 0, 81, 0, 0, 0, 0, .inl 0, []),
    (.getfield 30, 84, 2, 6, 0, 0, .inl 0, []),
    (.ireturn, 85, 0, 0, 0, 0, .inl 0, [])]),
  (85, [(.aload_n 0, 86, 0, 0, 0, 0, .inl 0, []),
    (.getfield 21, 89, 2, 3, 0, 0, .inl 0, []),
    (.ireturn, 90, 0, 0, 0, 0, .inl 0, [])]),
  (90, [(.iconst 0, 91, 0, 0, 0, 0, .inl 0, []),
    (.ireturn, 92, 0, 0, 0, 0, .inl 0, [])])]
def gT_X2_valueOf : gs_T := ([], gB_X2_valueOf, [])
set_option maxRecDepth 100000 in
def gB_X2_tellSides : List (Nat × List gs_N) := [(0, [(.aload_n 0, 1, 0, 0, 0, 0, .inl 0, []),
    (.iload_n 1, 2, 1, 0, 0, 0, .inl 0, []),
    (.putfield 33, 5, 2, 7, 0, 0, .inl 0, []),
    (.aload_n 0, 6, 0, 0, 0, 0, .inl 0, []),
    (.iload_n 1, 7, 1, 0, 0, 0, .inl 0, []),
    (.iconst 4, 8, 0, 0, 0, 0, .inl 4, []),
    (.iand, 9, 0, 0, 0, 0, .inl 0, []),
    (.ifCond .eq 7, 12, 16, 0, 0, 0, .inl 0, []),
    (.iconst 1, 13, 0, 0, 0, 0, .inl 1, []),
    (.goto 15, 16, 28, 0, 0, 0, .inl 0, [])]),
  (16, [(.iload_n 1, 17, 1, 0, 0, 0, .inl 0, []),
    (.bipush 8, 19, 0, 0, 0, 0, .inl 8, []),
    (.iand, 20, 0, 0, 0, 0, .inl 0, []),
    (.ifCond .eq 7, 23, 27, 0, 0, 0, .inl 0, []),
    (.iconst (-1), 24, 0, 0, 0, 0, .inl (-1), []),
    (.goto 4, 27, 28, 0, 0, 0, .inl 0, [])]),
  (27, [(.iconst 0, 28, 0, 0, 0, 0, .inl 0, [])]),
  (28, [(.putfield 36, 31, 2, 8, 0, 0, .inl 0, []),
    (.aload_n 0, 32, 0, 0, 0, 0, .inl 0, []),
    (.iload_n 1, 33, 1, 0, 0, 0, .inl 0, []),
    (.iconst 1, 34, 0, 0, 0, 0, .inl 1, []),
    (.iand, 35, 0, 0, 0, 0, .inl 0, []),
    (.ifCond .eq 7, 38, 42, 0, 0, 0, .inl 0, []),
    (.iconst 1, 39, 0, 0, 0, 0, .inl 1, []),
    (.goto 14, 42, 53, 0, 0, 0, .inl 0, [])]),
  (42, [(.iload_n 1, 43, 1, 0, 0, 0, .inl 0, []),
    (.iconst 2, 44, 0, 0, 0, 0, .inl 2, []),
    (.iand, 45, 0, 0, 0, 0, .inl 0, []),
    (.ifCond .eq 7, 48, 52, 0, 0, 0, .inl 0, []),
    (.iconst (-1), 49, 0, 0, 0, 0, .inl (-1), []),
    (.goto 4, 52, 53, 0, 0, 0, .inl 0, [])]),
  (52, [(.iconst 0, 53, 0, 0, 0, 0, .inl 0, [])]),
  (53, [(.putfield 39, 56, 2, 9, 0, 0, .inl 0, []),
    (.return_, 57, 0, 0, 0, 0, .inl 0, [])])]
def gT_X2_tellSides : gs_T := ([], gB_X2_tellSides, [])
set_option maxRecDepth 100000 in
def gB_X2_waysTold : List (Nat × List gs_N) := [(0, [(.aload_n 0, 1, 0, 0, 0, 0, .inl 0, []),
    (.getfield 36, 4, 2, 8, 0, 0, .inl 0, []),
    (.ifCond .eq 7, 7, 11, 0, 0, 0, .inl 0, []),
    (.iconst 1, 8, 0, 0, 0, 0, .inl 1, []),
    (.goto 4, 11, 12, 0, 0, 0, .inl 0, [])]),
  (11, [(.iconst 0, 12, 0, 0, 0, 0, .inl 0, [])]),
  (12, [(.aload_n 0, 13, 0, 0, 0, 0, .inl 0, []),
    (.getfield 39, 16, 2, 9, 0, 0, .inl 0, []),
    (.ifCond .eq 7, 19, 23, 0, 0, 0, .inl 0, []),
    (.iconst 2, 20, 0, 0, 0, 0, .inl 2, []),
    (.goto 4, 23, 24, 0, 0, 0, .inl 0, [])]),
  (23, [(.iconst 0, 24, 0, 0, 0, 0, .inl 0, [])]),
  (24, [(.ior, 25, 0, 0, 0, 0, .inl 0, []),
    (.ireturn, 26, 0, 0, 0, 0, .inl 0, [])])]
def gT_X2_waysTold : gs_T := ([], gB_X2_waysTold, [])
set_option maxRecDepth 100000 in
def gB_X3_init : List (Nat × List gs_N) := [(0, [(.aload_n 0, 1, 0, 0, 0, 0, .inl 0, []),
    (.invokespecial 3, 4, 9000, 1, 2, 92, .inl 0, []),
    (.iload_n 1, 5, 1, 0, 0, 0, .inl 0, []),
    (.ifCond .le 7, 8, 12, 0, 0, 0, .inl 0, []),
    (.iload_n 1, 9, 1, 0, 0, 0, .inl 0, []),
    (.goto 4, 12, 13, 0, 0, 0, .inl 0, [])]),
  (12, [(.iconst 0, 13, 0, 0, 0, 0, .inl 0, [])]),
  (13, [(.istore_n 2, 14, 2, 0, 0, 0, .inl 0, []),
    (.aload_n 0, 15, 0, 0, 0, 0, .inl 0, []),
    (.iload_n 2, 16, 2, 0, 0, 0, .inl 0, []),
    (.newarray .int, 18, 13, 0, 0, 0, .inl 0, []),
    (.putfield 9, 21, 3, 0, 2, 1, .inl 0, []),
    (.aload_n 0, 22, 0, 0, 0, 0, .inl 0, []),
    (.iload_n 2, 23, 2, 0, 0, 0, .inl 0, []),
    (.newarray .int, 25, 13, 0, 0, 0, .inl 0, []),
    (.putfield 15, 28, 3, 1, 2, 1, .inl 0, []),
    (.aload_n 0, 29, 0, 0, 0, 0, .inl 0, []),
    (.iload_n 2, 30, 2, 0, 0, 0, .inl 0, []),
    (.newarray .int, 32, 13, 0, 0, 0, .inl 0, []),
    (.putfield 18, 35, 3, 2, 2, 1, .inl 0, []),
    (.return_, 36, 0, 0, 0, 0, .inl 0, [])])]
def gT_X3_init : gs_T := ([], gB_X3_init, [])
set_option maxRecDepth 100000 in
def gB_X3_add : List (Nat × List gs_N) := [(0, [(.aload_n 0, 1, 0, 0, 0, 0, .inl 0, []),
    (.getfield 21, 4, 3, 3, 0, 0, .inl 0, []),
    (.aload_n 0, 5, 0, 0, 0, 0, .inl 0, []),
    (.getfield 9, 8, 3, 0, 2, 1, .inl 0, []),
    (.arraylength, 9, 0, 0, 0, 0, .inl 0, []),
    (.if_icmp .ge 43, 12, 52, 0, 0, 0, .inl 0, []),
    (.aload_n 0, 13, 0, 0, 0, 0, .inl 0, []),
    (.getfield 9, 16, 3, 0, 2, 1, .inl 0, []),
    (.aload_n 0, 17, 0, 0, 0, 0, .inl 0, []),
    (.getfield 21, 20, 3, 3, 0, 0, .inl 0, []),
    (.iload_n 1, 21, 1, 0, 0, 0, .inl 0, []),
    (.iastore, 22, 0, 0, 0, 0, .inl 0, []),
    (.aload_n 0, 23, 0, 0, 0, 0, .inl 0, []),
    (.getfield 15, 26, 3, 1, 2, 1, .inl 0, []),
    (.aload_n 0, 27, 0, 0, 0, 0, .inl 0, []),
    (.getfield 21, 30, 3, 3, 0, 0, .inl 0, []),
    (.iload_n 2, 31, 2, 0, 0, 0, .inl 0, []),
    (.iastore, 32, 0, 0, 0, 0, .inl 0, []),
    (.aload_n 0, 33, 0, 0, 0, 0, .inl 0, []),
    (.getfield 18, 36, 3, 2, 2, 1, .inl 0, []),
    (.aload_n 0, 37, 0, 0, 0, 0, .inl 0, []),
    (.getfield 21, 40, 3, 3, 0, 0, .inl 0, []),
    (.iload_n 3, 41, 3, 0, 0, 0, .inl 0, []),
    (.iastore, 42, 0, 0, 0, 0, .inl 0, []),
    (.aload_n 0, 43, 0, 0, 0, 0, .inl 0, []),
    (.dup, 44, 0, 0, 0, 0, .inl 0, []),
    (.getfield 21, 47, 3, 3, 0, 0, .inl 0, []),
    (.iconst 1, 48, 0, 0, 0, 0, .inl 1, []),
    (.iadd, 49, 0, 0, 0, 0, .inl 0, []),
    (.putfield 21, 52, 3, 3, 0, 0, .inl 0, [])]),
  (52, [(.return_, 53, 0, 0, 0, 0, .inl 0, [])])]
def gT_X3_add : gs_T := ([], gB_X3_add, [])
set_option maxRecDepth 100000 in
def gB_X3_find : List (Nat × List gs_N) := [(0, [(.iconst 0, 1, 0, 0, 0, 0, .inl 0, []),
    (.istore_n 2, 2, 2, 0, 0, 0, .inl 0, [])]),
  (2, [(.iload_n 2, 3, 2, 0, 0, 0, .inl 0, []),
    (.aload_n 0, 4, 0, 0, 0, 0, .inl 0, []),
    (.getfield 21, 7, 3, 3, 0, 0, .inl 0, []),
    (.if_icmp .ge 21, 10, 28, 0, 0, 0, .inl 0, []),
    (.aload_n 0, 11, 0, 0, 0, 0, .inl 0, []),
    (.getfield 9, 14, 3, 0, 2, 1, .inl 0, []),
    (.iload_n 2, 15, 2, 0, 0, 0, .inl 0, []),
    (.iaload, 16, 0, 0, 0, 0, .inl 0, []),
    (.iload_n 1, 17, 1, 0, 0, 0, .inl 0, []),
    (.if_icmp .ne 5, 20, 22, 0, 0, 0, .inl 0, []),
    (.iload_n 2, 21, 2, 0, 0, 0, .inl 0, []),
    (.ireturn, 22, 0, 0, 0, 0, .inl 0, [])]),
  (22, [(.iinc 2 1, 25, 2, 0, 0, 0, .inl 1, []),
    (.goto (-23), 28, 2, 0, 0, 0, .inl 0, [])]),
  (28, [(.iconst (-1), 29, 0, 0, 0, 0, .inl (-1), []),
    (.ireturn, 30, 0, 0, 0, 0, .inl 0, [])])]
def gT_X3_find : gs_T := ([], gB_X3_find, [(2, [0, 1, 2])])
set_option maxRecDepth 100000 in
def gB_X4_init : List (Nat × List gs_N) := [(0, [(.aload_n 0, 1, 0, 0, 0, 0, .inl 0, []),
    (.invokespecial 5, 4, 9000, 1, 2, 92, .inl 0, []),
    (.aload_n 0, 5, 0, 0, 0, 0, .inl 0, []),
    (.bipush 120, 7, 0, 0, 0, 0, .inl 120, []),
    (.newarray .int, 9, 13, 0, 0, 0, .inl 0, []),
    (.putfield 11, 12, 4, 0, 2, 1, .inl 0, []),
    (.aload_n 0, 13, 0, 0, 0, 0, .inl 0, []),
    (.bipush 13, 15, 0, 0, 0, 0, .inl 13, []),
    (.newarray .long, 17, 14, 0, 0, 0, .inl 0, []),
    (.putfield 17, 20, 4, 1, 2, 1, .inl 0, []),
    (.aload_n 0, 21, 0, 0, 0, 0, .inl 0, []),
    (.bipush 23, 23, 0, 0, 0, 0, .inl 23, []),
    (.newarray .long, 25, 14, 0, 0, 0, .inl 0, []),
    (.putfield 21, 28, 4, 2, 2, 1, .inl 0, []),
    (.aload_n 0, 29, 0, 0, 0, 0, .inl 0, []),
    (.bipush 23, 31, 0, 0, 0, 0, .inl 23, []),
    (.newarray .long, 33, 14, 0, 0, 0, .inl 0, []),
    (.putfield 24, 36, 4, 3, 2, 1, .inl 0, []),
    (.aload_n 0, 37, 0, 0, 0, 0, .inl 0, []),
    (.bipush 23, 39, 0, 0, 0, 0, .inl 23, []),
    (.newarray .int, 41, 13, 0, 0, 0, .inl 0, []),
    (.putfield 27, 44, 4, 4, 2, 1, .inl 0, []),
    (.aload_n 0, 45, 0, 0, 0, 0, .inl 0, []),
    (.bipush 23, 47, 0, 0, 0, 0, .inl 23, []),
    (.newarray .int, 49, 13, 0, 0, 0, .inl 0, []),
    (.putfield 30, 52, 4, 5, 2, 1, .inl 0, []),
    (.aload_n 0, 53, 0, 0, 0, 0, .inl 0, []),
    (.bipush 10, 55, 0, 0, 0, 0, .inl 10, []),
    (.newarray .int, 57, 13, 0, 0, 0, .inl 0, []),
    (.putfield 33, 60, 4, 6, 2, 1, .inl 0, []),
    (.aload_n 0, 61, 0, 0, 0, 0, .inl 0, []),
    (.bipush 12, 63, 0, 0, 0, 0, .inl 12, []),
    (.newarray .int, 65, 13, 0, 0, 0, .inl 0, []),
    (.putfield 36, 68, 4, 11, 2, 1, .inl 0, []),
    (.aload_n 0, 69, 0, 0, 0, 0, .inl 0, []),
    (.bipush 12, 71, 0, 0, 0, 0, .inl 12, []),
    (.newarray .int, 73, 13, 0, 0, 0, .inl 0, []),
    (.putfield 39, 76, 4, 12, 2, 1, .inl 0, []),
    (.return_, 77, 0, 0, 0, 0, .inl 0, [])])]
def gT_X4_init : gs_T := ([], gB_X4_init, [])
set_option maxRecDepth 100000 in
def gB_X4_reckon : List (Nat × List gs_N) := [(0, [(.aload_n 0, 1, 0, 0, 0, 0, .inl 0, []),
    (.aload_n 1, 2, 1, 0, 0, 0, .inl 0, []),
    (.getfield 42, 5, 7, 8, 0, 0, .inl 0, []),
    (.putfield 48, 8, 4, 7, 0, 0, .inl 0, []),
    (.aload_n 0, 9, 0, 0, 0, 0, .inl 0, []),
    (.aload_n 1, 10, 1, 0, 0, 0, .inl 0, []),
    (.getfield 49, 13, 7, 9, 0, 0, .inl 0, []),
    (.putfield 52, 16, 4, 8, 0, 0, .inl 0, []),
    (.aload_n 0, 17, 0, 0, 0, 0, .inl 0, []),
    (.aload_n 0, 18, 0, 0, 0, 0, .inl 0, []),
    (.getfield 52, 21, 4, 8, 0, 0, .inl 0, []),
    (.aload_n 0, 22, 0, 0, 0, 0, .inl 0, []),
    (.getfield 48, 25, 4, 7, 0, 0, .inl 0, []),
    (.iadd, 26, 0, 0, 0, 0, .inl 0, []),
    (.putfield 53, 29, 4, 9, 0, 0, .inl 0, []),
    (.iconst 0, 30, 0, 0, 0, 0, .inl 0, []),
    (.istore_n 3, 31, 3, 0, 0, 0, .inl 0, [])]),
  (31, [(.iload_n 3, 32, 3, 0, 0, 0, .inl 0, []),
    (.aload_n 0, 33, 0, 0, 0, 0, .inl 0, []),
    (.getfield 48, 36, 4, 7, 0, 0, .inl 0, []),
    (.if_icmp .ge 94, 39, 130, 0, 0, 0, .inl 0, []),
    (.iconst 0, 40, 0, 0, 0, 0, .inl 0, []),
    (.istore 4, 42, 4, 0, 0, 0, .inl 0, [])]),
  (42, [(.iload 4, 44, 4, 0, 0, 0, .inl 0, []),
    (.aload_n 0, 45, 0, 0, 0, 0, .inl 0, []),
    (.getfield 52, 48, 4, 8, 0, 0, .inl 0, []),
    (.if_icmp .ge 76, 51, 124, 0, 0, 0, .inl 0, []),
    (.aload_n 1, 52, 1, 0, 0, 0, .inl 0, []),
    (.aload_n 1, 53, 1, 0, 0, 0, .inl 0, []),
    (.getfield 56, 56, 7, 6, 2, 1, .inl 0, []),
    (.iload_n 3, 57, 3, 0, 0, 0, .inl 0, []),
    (.aaload, 58, 0, 0, 0, 0, .inl 0, []),
    (.aload_n 1, 59, 1, 0, 0, 0, .inl 0, []),
    (.getfield 60, 62, 7, 7, 2, 1, .inl 0, []),
    (.iload 4, 64, 4, 0, 0, 0, .inl 0, []),
    (.aaload, 65, 0, 0, 0, 0, .inl 0, []),
    (.invokevirtual 64, 68, 100, 3, 0, 7, .inl 0, []),
    (.istore 5, 70, 5, 0, 0, 0, .inl 0, []),
    (.iload_n 2, 71, 2, 0, 0, 0, .inl 0, []),
    (.iload_n 3, 72, 3, 0, 0, 0, .inl 0, []),
    (.ishr, 73, 0, 0, 0, 0, .inl 0, []),
    (.iconst 1, 74, 0, 0, 0, 0, .inl 1, []),
    (.iand, 75, 0, 0, 0, 0, .inl 0, []),
    (.iconst 1, 76, 0, 0, 0, 0, .inl 1, []),
    (.if_icmp .ne 16, 79, 92, 0, 0, 0, .inl 0, []),
    (.iload 5, 81, 5, 0, 0, 0, .inl 0, []),
    (.aload_n 1, 82, 1, 0, 0, 0, .inl 0, []),
    (.getfield 68, 85, 7, 12, 0, 0, .inl 0, []),
    (.if_icmp .gt 7, 88, 92, 0, 0, 0, .inl 0, []),
    (.iconst 1, 89, 0, 0, 0, 0, .inl 1, []),
    (.goto 4, 92, 93, 0, 0, 0, .inl 0, [])]),
  (92, [(.iconst 0, 93, 0, 0, 0, 0, .inl 0, [])]),
  (93, [(.istore 6, 95, 6, 0, 0, 0, .inl 0, []),
    (.aload_n 0, 96, 0, 0, 0, 0, .inl 0, []),
    (.getfield 11, 99, 4, 0, 2, 1, .inl 0, []),
    (.iload_n 3, 100, 3, 0, 0, 0, .inl 0, []),
    (.bipush 10, 102, 0, 0, 0, 0, .inl 10, []),
    (.imul, 103, 0, 0, 0, 0, .inl 0, []),
    (.iload 4, 105, 4, 0, 0, 0, .inl 0, []),
    (.iadd, 106, 0, 0, 0, 0, .inl 0, []),
    (.iload 6, 108, 6, 0, 0, 0, .inl 0, []),
    (.ifCond .eq 8, 111, 116, 0, 0, 0, .inl 0, []),
    (.iload 5, 113, 5, 0, 0, 0, .inl 0, []),
    (.goto 4, 116, 117, 0, 0, 0, .inl 0, [])]),
  (116, [(.iconst (-1), 117, 0, 0, 0, 0, .inl (-1), [])]),
  (117, [(.iastore, 118, 0, 0, 0, 0, .inl 0, []),
    (.iinc 4 1, 121, 4, 0, 0, 0, .inl 1, []),
    (.goto (-79), 124, 42, 0, 0, 0, .inl 0, [])]),
  (124, [(.iinc 3 1, 127, 3, 0, 0, 0, .inl 1, []),
    (.goto (-96), 130, 31, 0, 0, 0, .inl 0, [])]),
  (130, [(.aload_n 0, 131, 0, 0, 0, 0, .inl 0, []),
    (.getfield 17, 134, 4, 1, 2, 1, .inl 0, []),
    (.lconst 0, 135, 0, 0, 0, 0, .inr (.inl 0), []),
    (.invokestatic 71, 138, 316, 2, 2, 1, .inl 0, []),
    (.aload_n 0, 139, 0, 0, 0, 0, .inl 0, []),
    (.getfield 21, 142, 4, 2, 2, 1, .inl 0, []),
    (.lconst 0, 143, 0, 0, 0, 0, .inr (.inl 0), []),
    (.invokestatic 71, 146, 316, 2, 2, 1, .inl 0, []),
    (.aload_n 0, 147, 0, 0, 0, 0, .inl 0, []),
    (.getfield 27, 150, 4, 4, 2, 1, .inl 0, []),
    (.iconst 0, 151, 0, 0, 0, 0, .inl 0, []),
    (.invokestatic 77, 154, 317, 2, 2, 1, .inl 0, []),
    (.iconst 1, 155, 0, 0, 0, 0, .inl 1, []),
    (.istore_n 3, 156, 3, 0, 0, 0, .inl 0, [])]),
  (156, [(.iload_n 3, 157, 3, 0, 0, 0, .inl 0, []),
    (.aload_n 0, 158, 0, 0, 0, 0, .inl 0, []),
    (.getfield 48, 161, 4, 7, 0, 0, .inl 0, []),
    (.if_icmp .gt 14, 164, 175, 0, 0, 0, .inl 0, []),
    (.aload_n 0, 165, 0, 0, 0, 0, .inl 0, []),
    (.iload_n 3, 166, 3, 0, 0, 0, .inl 0, []),
    (.invokevirtual 80, 169, 32, 2, 2, 4, .inl 0, []),
    (.iinc 3 1, 172, 3, 0, 0, 0, .inl 1, []),
    (.goto (-16), 175, 156, 0, 0, 0, .inl 0, [])]),
  (175, [(.aload_n 0, 176, 0, 0, 0, 0, .inl 0, []),
    (.invokevirtual 84, 179, 35, 1, 2, 4, .inl 0, []),
    (.return_, 180, 0, 0, 0, 0, .inl 0, [])])]
def gT_X4_reckon : gs_T := ([], gB_X4_reckon, [(31, [0, 1, 2, 3]), (42, [0, 1, 2, 3, 4]), (156, [0, 3])])
set_option maxRecDepth 100000 in
def gB_X4_isAble : List (Nat × List gs_N) := [(0, [(.aload_n 0, 1, 0, 0, 0, 0, .inl 0, []),
    (.getfield 11, 4, 4, 0, 2, 1, .inl 0, []),
    (.iload_n 1, 5, 1, 0, 0, 0, .inl 0, []),
    (.bipush 10, 7, 0, 0, 0, 0, .inl 10, []),
    (.imul, 8, 0, 0, 0, 0, .inl 0, []),
    (.iload_n 2, 9, 2, 0, 0, 0, .inl 0, []),
    (.iadd, 10, 0, 0, 0, 0, .inl 0, []),
    (.iaload, 11, 0, 0, 0, 0, .inl 0, []),
    (.iconst (-1), 12, 0, 0, 0, 0, .inl (-1), []),
    (.if_icmp .eq 7, 15, 19, 0, 0, 0, .inl 0, []),
    (.iconst 1, 16, 0, 0, 0, 0, .inl 1, []),
    (.goto 4, 19, 20, 0, 0, 0, .inl 0, [])]),
  (19, [(.iconst 0, 20, 0, 0, 0, 0, .inl 0, [])]),
  (20, [(.ireturn, 21, 1, 0, 0, 0, .inl 0, [])])]
def gT_X4_isAble : gs_T := ([], gB_X4_isAble, [])
set_option maxRecDepth 100000 in
def gB_X4_costOf : List (Nat × List gs_N) := [(0, [(.getstatic 87, 3, 0, 0, 0, 0, .inl 0, []),
    (.iload_n 1, 4, 1, 0, 0, 0, .inl 0, []),
    (.iconst 1, 5, 0, 0, 0, 0, .inl 1, []),
    (.isub, 6, 0, 0, 0, 0, .inl 0, []),
    (.laload, 7, 1, 0, 0, 0, .inl 0, []),
    (.lstore_n 3, 8, 3, 0, 0, 0, .inl 0, []),
    (.iload_n 2, 9, 2, 0, 0, 0, .inl 0, []),
    (.aload_n 0, 10, 0, 0, 0, 0, .inl 0, []),
    (.getfield 52, 13, 4, 8, 0, 0, .inl 0, []),
    (.if_icmp .le 9, 16, 22, 0, 0, 0, .inl 0, []),
    (.ldc2_w 90, 19, 0, 0, 0, 0, .inr (.inl 10), []),
    (.lload_n 3, 20, 3, 0, 0, 0, .inl 0, []),
    (.lmul, 21, 0, 0, 0, 0, .inl 0, []),
    (.lreturn, 22, 0, 0, 0, 0, .inl 0, [])]),
  (22, [(.aload_n 0, 23, 0, 0, 0, 0, .inl 0, []),
    (.iload_n 1, 24, 1, 0, 0, 0, .inl 0, []),
    (.iconst 1, 25, 0, 0, 0, 0, .inl 1, []),
    (.isub, 26, 0, 0, 0, 0, .inl 0, []),
    (.iload_n 2, 27, 2, 0, 0, 0, .inl 0, []),
    (.iconst 1, 28, 0, 0, 0, 0, .inl 1, []),
    (.isub, 29, 0, 0, 0, 0, .inl 0, []),
    (.invokevirtual 92, 32, 30, 3, 0, 4, .inl 0, []),
    (.ifCond .ne 7, 35, 39, 0, 0, 0, .inl 0, []),
    (.ldc2_w 96, 38, 0, 0, 0, 0, .inr (.inl 9223372036854775807), []),
    (.lreturn, 39, 0, 0, 0, 0, .inl 0, [])]),
  (39, [(.aload_n 0, 40, 0, 0, 0, 0, .inl 0, []),
    (.getfield 11, 43, 4, 0, 2, 1, .inl 0, []),
    (.iload_n 1, 44, 1, 0, 0, 0, .inl 0, []),
    (.iconst 1, 45, 0, 0, 0, 0, .inl 1, []),
    (.isub, 46, 0, 0, 0, 0, .inl 0, []),
    (.bipush 10, 48, 0, 0, 0, 0, .inl 10, []),
    (.imul, 49, 0, 0, 0, 0, .inl 0, []),
    (.iload_n 2, 50, 2, 0, 0, 0, .inl 0, []),
    (.iadd, 51, 0, 0, 0, 0, .inl 0, []),
    (.iconst 1, 52, 0, 0, 0, 0, .inl 1, []),
    (.isub, 53, 0, 0, 0, 0, .inl 0, []),
    (.iaload, 54, 0, 0, 0, 0, .inl 0, []),
    (.istore 5, 56, 5, 0, 0, 0, .inl 0, []),
    (.iload 5, 58, 5, 0, 0, 0, .inl 0, []),
    (.i2l, 59, 0, 0, 0, 0, .inl 0, []),
    (.ldc2_w 98, 62, 0, 0, 0, 0, .inr (.inl 3138428376721), []),
    (.lmul, 63, 0, 0, 0, 0, .inl 0, []),
    (.iload_n 2, 64, 2, 0, 0, 0, .inl 0, []),
    (.iconst 1, 65, 0, 0, 0, 0, .inl 1, []),
    (.isub, 66, 0, 0, 0, 0, .inl 0, []),
    (.i2l, 67, 0, 0, 0, 0, .inl 0, []),
    (.lload_n 3, 68, 3, 0, 0, 0, .inl 0, []),
    (.lmul, 69, 0, 0, 0, 0, .inl 0, []),
    (.ladd, 70, 0, 0, 0, 0, .inl 0, []),
    (.ldc2_w 100, 73, 0, 0, 0, 0, .inr (.inl 31384283767210000), []),
    (.lsub, 74, 0, 0, 0, 0, .inl 0, []),
    (.lreturn, 75, 0, 0, 0, 0, .inl 0, [])])]
def gT_X4_costOf : gs_T := ([], gB_X4_costOf, [])
set_option maxRecDepth 100000 in
def gB_X4_seatGuest : List (Nat × List gs_N) := [(0, [(.aload_n 0, 1, 0, 0, 0, 0, .inl 0, []),
    (.getfield 24, 4, 4, 3, 2, 1, .inl 0, []),
    (.ldc2_w 96, 7, 0, 0, 0, 0, .inr (.inl 9223372036854775807), []),
    (.invokestatic 71, 10, 316, 2, 2, 1, .inl 0, []),
    (.aload_n 0, 11, 0, 0, 0, 0, .inl 0, []),
    (.getfield 27, 14, 4, 4, 2, 1, .inl 0, []),
    (.iconst 0, 15, 0, 0, 0, 0, .inl 0, []),
    (.iload_n 1, 16, 1, 0, 0, 0, .inl 0, []),
    (.iastore, 17, 0, 0, 0, 0, .inl 0, []),
    (.iconst 0, 18, 0, 0, 0, 0, .inl 0, []),
    (.istore_n 2, 19, 2, 0, 0, 0, .inl 0, []),
    (.iconst 0, 20, 0, 0, 0, 0, .inl 0, []),
    (.istore_n 3, 21, 3, 0, 0, 0, .inl 0, []),
    (.iconst 0, 22, 0, 0, 0, 0, .inl 0, []),
    (.istore 4, 24, 4, 0, 0, 0, .inl 0, [])]),
  (24, [(.iload 4, 26, 4, 0, 0, 0, .inl 0, []),
    (.aload_n 0, 27, 0, 0, 0, 0, .inl 0, []),
    (.getfield 53, 30, 4, 9, 0, 0, .inl 0, []),
    (.if_icmp .gt 50, 33, 80, 0, 0, 0, .inl 0, []),
    (.iload_n 3, 34, 3, 0, 0, 0, .inl 0, []),
    (.iconst 1, 35, 0, 0, 0, 0, .inl 1, []),
    (.iload_n 2, 36, 2, 0, 0, 0, .inl 0, []),
    (.ishl, 37, 0, 0, 0, 0, .inl 0, []),
    (.ior, 38, 0, 0, 0, 0, .inl 0, []),
    (.istore_n 3, 39, 3, 0, 0, 0, .inl 0, []),
    (.aload_n 0, 40, 0, 0, 0, 0, .inl 0, []),
    (.iload_n 2, 41, 2, 0, 0, 0, .inl 0, []),
    (.iload_n 3, 42, 3, 0, 0, 0, .inl 0, []),
    (.invokevirtual 102, 45, 33, 3, 0, 4, .inl 0, []),
    (.istore 5, 47, 5, 0, 0, 0, .inl 0, []),
    (.aload_n 0, 48, 0, 0, 0, 0, .inl 0, []),
    (.aload_n 0, 49, 0, 0, 0, 0, .inl 0, []),
    (.getfield 24, 52, 4, 3, 2, 1, .inl 0, []),
    (.iload 5, 54, 5, 0, 0, 0, .inl 0, []),
    (.laload, 55, 0, 0, 0, 0, .inl 0, []),
    (.iload_n 3, 56, 3, 0, 0, 0, .inl 0, []),
    (.invokevirtual 106, 59, 34, 3, 2, 4, .inl 0, []),
    (.iload 5, 61, 5, 0, 0, 0, .inl 0, []),
    (.istore_n 2, 62, 2, 0, 0, 0, .inl 0, []),
    (.aload_n 0, 63, 0, 0, 0, 0, .inl 0, []),
    (.getfield 27, 66, 4, 4, 2, 1, .inl 0, []),
    (.iload_n 2, 67, 2, 0, 0, 0, .inl 0, []),
    (.iaload, 68, 0, 0, 0, 0, .inl 0, []),
    (.ifCond .ne 6, 71, 74, 0, 0, 0, .inl 0, []),
    (.goto 9, 74, 80, 0, 0, 0, .inl 0, [])]),
  (74, [(.iinc 4 1, 77, 4, 0, 0, 0, .inl 1, []),
    (.goto (-53), 80, 24, 0, 0, 0, .inl 0, [])]),
  (80, [(.iconst 0, 81, 0, 0, 0, 0, .inl 0, []),
    (.istore 4, 83, 4, 0, 0, 0, .inl 0, [])]),
  (83, [(.iload 4, 85, 4, 0, 0, 0, .inl 0, []),
    (.aload_n 0, 86, 0, 0, 0, 0, .inl 0, []),
    (.getfield 53, 89, 4, 9, 0, 0, .inl 0, []),
    (.if_icmp .gt 37, 92, 126, 0, 0, 0, .inl 0, []),
    (.iload_n 2, 93, 2, 0, 0, 0, .inl 0, []),
    (.ifCond .eq 33, 96, 126, 0, 0, 0, .inl 0, []),
    (.aload_n 0, 97, 0, 0, 0, 0, .inl 0, []),
    (.getfield 30, 100, 4, 5, 2, 1, .inl 0, []),
    (.iload_n 2, 101, 2, 0, 0, 0, .inl 0, []),
    (.iaload, 102, 0, 0, 0, 0, .inl 0, []),
    (.istore 5, 104, 5, 0, 0, 0, .inl 0, []),
    (.aload_n 0, 105, 0, 0, 0, 0, .inl 0, []),
    (.getfield 27, 108, 4, 4, 2, 1, .inl 0, []),
    (.iload_n 2, 109, 2, 0, 0, 0, .inl 0, []),
    (.aload_n 0, 110, 0, 0, 0, 0, .inl 0, []),
    (.getfield 27, 113, 4, 4, 2, 1, .inl 0, []),
    (.iload 5, 115, 5, 0, 0, 0, .inl 0, []),
    (.iaload, 116, 0, 0, 0, 0, .inl 0, []),
    (.iastore, 117, 0, 0, 0, 0, .inl 0, []),
    (.iload 5, 119, 5, 0, 0, 0, .inl 0, []),
    (.istore_n 2, 120, 2, 0, 0, 0, .inl 0, []),
    (.iinc 4 1, 123, 4, 0, 0, 0, .inl 1, []),
    (.goto (-40), 126, 83, 0, 0, 0, .inl 0, [])]),
  (126, [(.return_, 127, 0, 0, 0, 0, .inl 0, [])])]
def gT_X4_seatGuest : gs_T := ([], gB_X4_seatGuest, [(24, [0, 2, 3, 4]), (83, [0, 2, 4])])
set_option maxRecDepth 100000 in
def gB_X4_reachFrom : List (Nat × List gs_N) := [(0, [(.aload_n 0, 1, 0, 0, 0, 0, .inl 0, []),
    (.getfield 27, 4, 4, 4, 2, 1, .inl 0, []),
    (.iload_n 1, 5, 1, 0, 0, 0, .inl 0, []),
    (.iaload, 6, 0, 0, 0, 0, .inl 0, []),
    (.istore_n 3, 7, 3, 0, 0, 0, .inl 0, []),
    (.iconst 0, 8, 0, 0, 0, 0, .inl 0, []),
    (.istore 4, 10, 4, 0, 0, 0, .inl 0, []),
    (.iconst 1, 11, 0, 0, 0, 0, .inl 1, []),
    (.istore 5, 13, 5, 0, 0, 0, .inl 0, [])]),
  (13, [(.iload 5, 15, 5, 0, 0, 0, .inl 0, []),
    (.aload_n 0, 16, 0, 0, 0, 0, .inl 0, []),
    (.getfield 53, 19, 4, 9, 0, 0, .inl 0, []),
    (.if_icmp .gt 127, 22, 146, 0, 0, 0, .inl 0, []),
    (.iload_n 2, 23, 2, 0, 0, 0, .inl 0, []),
    (.iload 5, 25, 5, 0, 0, 0, .inl 0, []),
    (.ishr, 26, 0, 0, 0, 0, .inl 0, []),
    (.iconst 1, 27, 0, 0, 0, 0, .inl 1, []),
    (.iand, 28, 0, 0, 0, 0, .inl 0, []),
    (.iconst 1, 29, 0, 0, 0, 0, .inl 1, []),
    (.if_icmp .ne 6, 32, 35, 0, 0, 0, .inl 0, []),
    (.goto 108, 35, 140, 0, 0, 0, .inl 0, [])]),
  (35, [(.aload_n 0, 36, 0, 0, 0, 0, .inl 0, []),
    (.iload_n 3, 37, 3, 0, 0, 0, .inl 0, []),
    (.iload 5, 39, 5, 0, 0, 0, .inl 0, []),
    (.invokevirtual 110, 42, 31, 3, 1, 4, .inl 0, []),
    (.lstore 6, 44, 6, 0, 0, 0, .inl 0, []),
    (.lload 6, 46, 6, 0, 0, 0, .inl 0, []),
    (.ldc2_w 96, 49, 0, 0, 0, 0, .inr (.inl 9223372036854775807), []),
    (.lcmp, 50, 0, 0, 0, 0, .inl 0, []),
    (.ifCond .eq 63, 53, 113, 0, 0, 0, .inl 0, []),
    (.lload 6, 55, 6, 0, 0, 0, .inl 0, []),
    (.aload_n 0, 56, 0, 0, 0, 0, .inl 0, []),
    (.getfield 17, 59, 4, 1, 2, 1, .inl 0, []),
    (.iload_n 3, 60, 3, 0, 0, 0, .inl 0, []),
    (.laload, 61, 0, 0, 0, 0, .inl 0, []),
    (.lsub, 62, 0, 0, 0, 0, .inl 0, []),
    (.aload_n 0, 63, 0, 0, 0, 0, .inl 0, []),
    (.getfield 21, 66, 4, 2, 2, 1, .inl 0, []),
    (.iload 5, 68, 5, 0, 0, 0, .inl 0, []),
    (.laload, 69, 0, 0, 0, 0, .inl 0, []),
    (.lsub, 70, 0, 0, 0, 0, .inl 0, []),
    (.aload_n 0, 71, 0, 0, 0, 0, .inl 0, []),
    (.getfield 24, 74, 4, 3, 2, 1, .inl 0, []),
    (.iload 5, 76, 5, 0, 0, 0, .inl 0, []),
    (.laload, 77, 0, 0, 0, 0, .inl 0, []),
    (.lcmp, 78, 0, 0, 0, 0, .inl 0, []),
    (.ifCond .ge 35, 81, 113, 0, 0, 0, .inl 0, []),
    (.aload_n 0, 82, 0, 0, 0, 0, .inl 0, []),
    (.getfield 24, 85, 4, 3, 2, 1, .inl 0, []),
    (.iload 5, 87, 5, 0, 0, 0, .inl 0, []),
    (.lload 6, 89, 6, 0, 0, 0, .inl 0, []),
    (.aload_n 0, 90, 0, 0, 0, 0, .inl 0, []),
    (.getfield 17, 93, 4, 1, 2, 1, .inl 0, []),
    (.iload_n 3, 94, 3, 0, 0, 0, .inl 0, []),
    (.laload, 95, 0, 0, 0, 0, .inl 0, []),
    (.lsub, 96, 0, 0, 0, 0, .inl 0, []),
    (.aload_n 0, 97, 0, 0, 0, 0, .inl 0, []),
    (.getfield 21, 100, 4, 2, 2, 1, .inl 0, []),
    (.iload 5, 102, 5, 0, 0, 0, .inl 0, []),
    (.laload, 103, 0, 0, 0, 0, .inl 0, []),
    (.lsub, 104, 0, 0, 0, 0, .inl 0, []),
    (.lastore, 105, 0, 0, 0, 0, .inl 0, []),
    (.aload_n 0, 106, 0, 0, 0, 0, .inl 0, []),
    (.getfield 30, 109, 4, 5, 2, 1, .inl 0, []),
    (.iload 5, 111, 5, 0, 0, 0, .inl 0, []),
    (.iload_n 1, 112, 1, 0, 0, 0, .inl 0, []),
    (.iastore, 113, 0, 0, 0, 0, .inl 0, [])]),
  (113, [(.iload 4, 115, 4, 0, 0, 0, .inl 0, []),
    (.ifCond .eq 21, 118, 136, 0, 0, 0, .inl 0, []),
    (.aload_n 0, 119, 0, 0, 0, 0, .inl 0, []),
    (.getfield 24, 122, 4, 3, 2, 1, .inl 0, []),
    (.iload 5, 124, 5, 0, 0, 0, .inl 0, []),
    (.laload, 125, 0, 0, 0, 0, .inl 0, []),
    (.aload_n 0, 126, 0, 0, 0, 0, .inl 0, []),
    (.getfield 24, 129, 4, 3, 2, 1, .inl 0, []),
    (.iload 4, 131, 4, 0, 0, 0, .inl 0, []),
    (.laload, 132, 0, 0, 0, 0, .inl 0, []),
    (.lcmp, 133, 0, 0, 0, 0, .inl 0, []),
    (.ifCond .ge 7, 136, 140, 0, 0, 0, .inl 0, [])]),
  (136, [(.iload 5, 138, 5, 0, 0, 0, .inl 0, []),
    (.istore 4, 140, 4, 0, 0, 0, .inl 0, [])]),
  (140, [(.iinc 5 1, 143, 5, 0, 0, 0, .inl 1, []),
    (.goto (-130), 146, 13, 0, 0, 0, .inl 0, [])]),
  (146, [(.iload 4, 148, 4, 0, 0, 0, .inl 0, []),
    (.ireturn, 149, 0, 0, 0, 0, .inl 0, [])])]
def gT_X4_reachFrom : gs_T := ([], gB_X4_reachFrom, [(13, [0, 1, 2, 3, 4, 5])])
set_option maxRecDepth 100000 in
def gB_X4_liftBy : List (Nat × List gs_N) := [(0, [(.iconst 0, 1, 0, 0, 0, 0, .inl 0, []),
    (.istore 4, 3, 4, 0, 0, 0, .inl 0, [])]),
  (3, [(.iload 4, 5, 4, 0, 0, 0, .inl 0, []),
    (.aload_n 0, 6, 0, 0, 0, 0, .inl 0, []),
    (.getfield 53, 9, 4, 9, 0, 0, .inl 0, []),
    (.if_icmp .gt 74, 12, 83, 0, 0, 0, .inl 0, []),
    (.iload_n 3, 13, 3, 0, 0, 0, .inl 0, []),
    (.iload 4, 15, 4, 0, 0, 0, .inl 0, []),
    (.ishr, 16, 0, 0, 0, 0, .inl 0, []),
    (.iconst 1, 17, 0, 0, 0, 0, .inl 1, []),
    (.iand, 18, 0, 0, 0, 0, .inl 0, []),
    (.iconst 1, 19, 0, 0, 0, 0, .inl 1, []),
    (.if_icmp .ne 33, 22, 52, 0, 0, 0, .inl 0, []),
    (.aload_n 0, 23, 0, 0, 0, 0, .inl 0, []),
    (.getfield 17, 26, 4, 1, 2, 1, .inl 0, []),
    (.aload_n 0, 27, 0, 0, 0, 0, .inl 0, []),
    (.getfield 27, 30, 4, 4, 2, 1, .inl 0, []),
    (.iload 4, 32, 4, 0, 0, 0, .inl 0, []),
    (.iaload, 33, 0, 0, 0, 0, .inl 0, []),
    (.dup2, 34, 0, 0, 0, 0, .inl 0, []),
    (.laload, 35, 0, 0, 0, 0, .inl 0, []),
    (.lload_n 1, 36, 1, 0, 0, 0, .inl 0, []),
    (.ladd, 37, 0, 0, 0, 0, .inl 0, []),
    (.lastore, 38, 0, 0, 0, 0, .inl 0, []),
    (.aload_n 0, 39, 0, 0, 0, 0, .inl 0, []),
    (.getfield 21, 42, 4, 2, 2, 1, .inl 0, []),
    (.iload 4, 44, 4, 0, 0, 0, .inl 0, []),
    (.dup2, 45, 0, 0, 0, 0, .inl 0, []),
    (.laload, 46, 0, 0, 0, 0, .inl 0, []),
    (.lload_n 1, 47, 1, 0, 0, 0, .inl 0, []),
    (.lsub, 48, 0, 0, 0, 0, .inl 0, []),
    (.lastore, 49, 0, 0, 0, 0, .inl 0, []),
    (.goto 28, 52, 77, 0, 0, 0, .inl 0, [])]),
  (52, [(.aload_n 0, 53, 0, 0, 0, 0, .inl 0, []),
    (.getfield 24, 56, 4, 3, 2, 1, .inl 0, []),
    (.iload 4, 58, 4, 0, 0, 0, .inl 0, []),
    (.laload, 59, 0, 0, 0, 0, .inl 0, []),
    (.ldc2_w 96, 62, 0, 0, 0, 0, .inr (.inl 9223372036854775807), []),
    (.lcmp, 63, 0, 0, 0, 0, .inl 0, []),
    (.ifCond .eq 14, 66, 77, 0, 0, 0, .inl 0, []),
    (.aload_n 0, 67, 0, 0, 0, 0, .inl 0, []),
    (.getfield 24, 70, 4, 3, 2, 1, .inl 0, []),
    (.iload 4, 72, 4, 0, 0, 0, .inl 0, []),
    (.dup2, 73, 0, 0, 0, 0, .inl 0, []),
    (.laload, 74, 0, 0, 0, 0, .inl 0, []),
    (.lload_n 1, 75, 1, 0, 0, 0, .inl 0, []),
    (.lsub, 76, 0, 0, 0, 0, .inl 0, []),
    (.lastore, 77, 0, 0, 0, 0, .inl 0, [])]),
  (77, [(.iinc 4 1, 80, 4, 0, 0, 0, .inl 1, []),
    (.goto (-77), 83, 3, 0, 0, 0, .inl 0, [])]),
  (83, [(.return_, 84, 0, 0, 0, 0, .inl 0, [])])]
def gT_X4_liftBy : gs_T := ([], gB_X4_liftBy, [(3, [0, 1, 3, 4])])
set_option maxRecDepth 100000 in
def gB_X4_keepPairs : List (Nat × List gs_N) := [(0, [(.aload_n 0, 1, 0, 0, 0, 0, .inl 0, []),
    (.getfield 36, 4, 4, 11, 2, 1, .inl 0, []),
    (.iconst (-1), 5, 0, 0, 0, 0, .inl (-1), []),
    (.invokestatic 77, 8, 317, 2, 2, 1, .inl 0, []),
    (.aload_n 0, 9, 0, 0, 0, 0, .inl 0, []),
    (.iconst 0, 10, 0, 0, 0, 0, .inl 0, []),
    (.putfield 114, 13, 4, 13, 0, 0, .inl 0, []),
    (.aload_n 0, 14, 0, 0, 0, 0, .inl 0, []),
    (.iconst 0, 15, 0, 0, 0, 0, .inl 0, []),
    (.putfield 117, 18, 4, 14, 0, 0, .inl 0, []),
    (.iconst 0, 19, 0, 0, 0, 0, .inl 0, []),
    (.istore_n 1, 20, 1, 0, 0, 0, .inl 0, [])]),
  (20, [(.iload_n 1, 21, 1, 0, 0, 0, .inl 0, []),
    (.aload_n 0, 22, 0, 0, 0, 0, .inl 0, []),
    (.getfield 52, 25, 4, 8, 0, 0, .inl 0, []),
    (.if_icmp .ge 61, 28, 86, 0, 0, 0, .inl 0, []),
    (.aload_n 0, 29, 0, 0, 0, 0, .inl 0, []),
    (.getfield 27, 32, 4, 4, 2, 1, .inl 0, []),
    (.iload_n 1, 33, 1, 0, 0, 0, .inl 0, []),
    (.iconst 1, 34, 0, 0, 0, 0, .inl 1, []),
    (.iadd, 35, 0, 0, 0, 0, .inl 0, []),
    (.iaload, 36, 0, 0, 0, 0, .inl 0, []),
    (.iconst 1, 37, 0, 0, 0, 0, .inl 1, []),
    (.isub, 38, 0, 0, 0, 0, .inl 0, []),
    (.istore_n 2, 39, 2, 0, 0, 0, .inl 0, []),
    (.iload_n 2, 40, 2, 0, 0, 0, .inl 0, []),
    (.ifCond .lt 40, 43, 80, 0, 0, 0, .inl 0, []),
    (.aload_n 0, 44, 0, 0, 0, 0, .inl 0, []),
    (.getfield 36, 47, 4, 11, 2, 1, .inl 0, []),
    (.iload_n 2, 48, 2, 0, 0, 0, .inl 0, []),
    (.iload_n 1, 49, 1, 0, 0, 0, .inl 0, []),
    (.iastore, 50, 0, 0, 0, 0, .inl 0, []),
    (.aload_n 0, 51, 0, 0, 0, 0, .inl 0, []),
    (.dup, 52, 0, 0, 0, 0, .inl 0, []),
    (.getfield 114, 55, 4, 13, 0, 0, .inl 0, []),
    (.iconst 1, 56, 0, 0, 0, 0, .inl 1, []),
    (.iadd, 57, 0, 0, 0, 0, .inl 0, []),
    (.putfield 114, 60, 4, 13, 0, 0, .inl 0, []),
    (.aload_n 0, 61, 0, 0, 0, 0, .inl 0, []),
    (.dup, 62, 0, 0, 0, 0, .inl 0, []),
    (.getfield 117, 65, 4, 14, 0, 0, .inl 0, []),
    (.aload_n 0, 66, 0, 0, 0, 0, .inl 0, []),
    (.getfield 11, 69, 4, 0, 2, 1, .inl 0, []),
    (.iload_n 2, 70, 2, 0, 0, 0, .inl 0, []),
    (.bipush 10, 72, 0, 0, 0, 0, .inl 10, []),
    (.imul, 73, 0, 0, 0, 0, .inl 0, []),
    (.iload_n 1, 74, 1, 0, 0, 0, .inl 0, []),
    (.iadd, 75, 0, 0, 0, 0, .inl 0, []),
    (.iaload, 76, 0, 0, 0, 0, .inl 0, []),
    (.iadd, 77, 0, 0, 0, 0, .inl 0, []),
    (.putfield 117, 80, 4, 14, 0, 0, .inl 0, [])]),
  (80, [(.iinc 1 1, 83, 1, 0, 0, 0, .inl 1, []),
    (.goto (-63), 86, 20, 0, 0, 0, .inl 0, [])]),
  (86, [(.return_, 87, 0, 0, 0, 0, .inl 0, [])])]
def gT_X4_keepPairs : gs_T := ([], gB_X4_keepPairs, [(20, [0, 1])])
set_option maxRecDepth 100000 in
def gB_X4_guestOf : List (Nat × List gs_N) := [(0, [(.iconst 0, 1, 0, 0, 0, 0, .inl 0, []),
    (.istore_n 2, 2, 2, 0, 0, 0, .inl 0, [])]),
  (2, [(.iload_n 2, 3, 2, 0, 0, 0, .inl 0, []),
    (.aload_n 0, 4, 0, 0, 0, 0, .inl 0, []),
    (.getfield 48, 7, 4, 7, 0, 0, .inl 0, []),
    (.if_icmp .ge 21, 10, 28, 0, 0, 0, .inl 0, []),
    (.aload_n 0, 11, 0, 0, 0, 0, .inl 0, []),
    (.getfield 36, 14, 4, 11, 2, 1, .inl 0, []),
    (.iload_n 2, 15, 2, 0, 0, 0, .inl 0, []),
    (.iaload, 16, 0, 0, 0, 0, .inl 0, []),
    (.iload_n 1, 17, 1, 0, 0, 0, .inl 0, []),
    (.if_icmp .ne 5, 20, 22, 0, 0, 0, .inl 0, []),
    (.iload_n 2, 21, 2, 0, 0, 0, .inl 0, []),
    (.ireturn, 22, 0, 0, 0, 0, .inl 0, [])]),
  (22, [(.iinc 2 1, 25, 2, 0, 0, 0, .inl 1, []),
    (.goto (-23), 28, 2, 0, 0, 0, .inl 0, [])]),
  (28, [(.iconst (-1), 29, 0, 0, 0, 0, .inl (-1), []),
    (.ireturn, 30, 0, 0, 0, 0, .inl 0, [])])]
def gT_X4_guestOf : gs_T := ([], gB_X4_guestOf, [(2, [0, 1, 2])])
set_option maxRecDepth 100000 in
def gB_X4_guestsFor : List (Nat × List gs_N) := [(0, [(.iconst 0, 1, 0, 0, 0, 0, .inl 0, []),
    (.istore_n 2, 2, 2, 0, 0, 0, .inl 0, []),
    (.iconst 0, 3, 0, 0, 0, 0, .inl 0, []),
    (.istore_n 3, 4, 3, 0, 0, 0, .inl 0, [])]),
  (4, [(.iload_n 3, 5, 3, 0, 0, 0, .inl 0, []),
    (.aload_n 0, 6, 0, 0, 0, 0, .inl 0, []),
    (.getfield 48, 9, 4, 7, 0, 0, .inl 0, []),
    (.if_icmp .ge 21, 12, 30, 0, 0, 0, .inl 0, []),
    (.aload_n 0, 13, 0, 0, 0, 0, .inl 0, []),
    (.iload_n 3, 14, 3, 0, 0, 0, .inl 0, []),
    (.iload_n 1, 15, 1, 0, 0, 0, .inl 0, []),
    (.invokevirtual 92, 18, 30, 3, 0, 4, .inl 0, []),
    (.ifCond .eq 6, 21, 24, 0, 0, 0, .inl 0, []),
    (.iinc 2 1, 24, 2, 0, 0, 0, .inl 1, [])]),
  (24, [(.iinc 3 1, 27, 3, 0, 0, 0, .inl 1, []),
    (.goto (-23), 30, 4, 0, 0, 0, .inl 0, [])]),
  (30, [(.iload_n 2, 31, 2, 0, 0, 0, .inl 0, []),
    (.ireturn, 32, 0, 0, 0, 0, .inl 0, [])])]
def gT_X4_guestsFor : gs_T := ([], gB_X4_guestsFor, [(4, [0, 1, 2, 3])])
set_option maxRecDepth 100000 in
def gB_X4_cloudsFor : List (Nat × List gs_N) := [(0, [(.iconst 0, 1, 0, 0, 0, 0, .inl 0, []),
    (.istore_n 2, 2, 2, 0, 0, 0, .inl 0, []),
    (.iconst 0, 3, 0, 0, 0, 0, .inl 0, []),
    (.istore_n 3, 4, 3, 0, 0, 0, .inl 0, [])]),
  (4, [(.iload_n 3, 5, 3, 0, 0, 0, .inl 0, []),
    (.aload_n 0, 6, 0, 0, 0, 0, .inl 0, []),
    (.getfield 52, 9, 4, 8, 0, 0, .inl 0, []),
    (.if_icmp .ge 21, 12, 30, 0, 0, 0, .inl 0, []),
    (.aload_n 0, 13, 0, 0, 0, 0, .inl 0, []),
    (.iload_n 1, 14, 1, 0, 0, 0, .inl 0, []),
    (.iload_n 3, 15, 3, 0, 0, 0, .inl 0, []),
    (.invokevirtual 92, 18, 30, 3, 0, 4, .inl 0, []),
    (.ifCond .eq 6, 21, 24, 0, 0, 0, .inl 0, []),
    (.iinc 2 1, 24, 2, 0, 0, 0, .inl 1, [])]),
  (24, [(.iinc 3 1, 27, 3, 0, 0, 0, .inl 1, []),
    (.goto (-23), 30, 4, 0, 0, 0, .inl 0, [])]),
  (30, [(.iload_n 2, 31, 2, 0, 0, 0, .inl 0, []),
    (.ireturn, 32, 0, 0, 0, 0, .inl 0, [])])]
def gT_X4_cloudsFor : gs_T := ([], gB_X4_cloudsFor, [(4, [0, 1, 2, 3])])
set_option maxRecDepth 100000 in
def gB_X4_countDrawn : List (Nat × List gs_N) := [(0, [(.aload_n 0, 1, 0, 0, 0, 0, .inl 0, []),
    (.getfield 33, 4, 4, 6, 2, 1, .inl 0, []),
    (.iconst (-1), 5, 0, 0, 0, 0, .inl (-1), []),
    (.invokestatic 77, 8, 317, 2, 2, 1, .inl 0, []),
    (.iconst 0, 9, 0, 0, 0, 0, .inl 0, []),
    (.istore_n 1, 10, 1, 0, 0, 0, .inl 0, []),
    (.iconst 0, 11, 0, 0, 0, 0, .inl 0, []),
    (.istore_n 2, 12, 2, 0, 0, 0, .inl 0, [])]),
  (12, [(.iload_n 2, 13, 2, 0, 0, 0, .inl 0, []),
    (.aload_n 0, 14, 0, 0, 0, 0, .inl 0, []),
    (.getfield 48, 17, 4, 7, 0, 0, .inl 0, []),
    (.if_icmp .ge 26, 20, 43, 0, 0, 0, .inl 0, []),
    (.aload_n 0, 21, 0, 0, 0, 0, .inl 0, []),
    (.iconst 0, 22, 0, 0, 0, 0, .inl 0, []),
    (.putfield 120, 25, 4, 10, 0, 0, .inl 0, []),
    (.aload_n 0, 26, 0, 0, 0, 0, .inl 0, []),
    (.iload_n 2, 27, 2, 0, 0, 0, .inl 0, []),
    (.iconst 0, 28, 0, 0, 0, 0, .inl 0, []),
    (.invokevirtual 123, 31, 40, 3, 0, 4, .inl 0, []),
    (.ifCond .eq 6, 34, 37, 0, 0, 0, .inl 0, []),
    (.iinc 1 1, 37, 1, 0, 0, 0, .inl 1, [])]),
  (37, [(.iinc 2 1, 40, 2, 0, 0, 0, .inl 1, []),
    (.goto (-28), 43, 12, 0, 0, 0, .inl 0, [])]),
  (43, [(.iload_n 1, 44, 1, 0, 0, 0, .inl 0, []),
    (.ireturn, 45, 0, 0, 0, 0, .inl 0, [])])]
def gT_X4_countDrawn : gs_T := ([], gB_X4_countDrawn, [(12, [0, 1, 2])])
set_option maxRecDepth 100000 in
def gB_X4_findsCloud : List (Nat × List gs_N) := [(0, [(.iload_n 2, 1, 2, 0, 0, 0, .inl 0, []),
    (.bipush 10, 3, 0, 0, 0, 0, .inl 10, []),
    (.if_icmp .le 5, 6, 8, 0, 0, 0, .inl 0, []),
    (.iconst 0, 7, 0, 0, 0, 0, .inl 0, []),
    (.ireturn, 8, 1, 0, 0, 0, .inl 0, [])]),
  (8, [(.iconst 0, 9, 0, 0, 0, 0, .inl 0, []),
    (.istore_n 3, 10, 3, 0, 0, 0, .inl 0, [])]),
  (10, [(.iload_n 3, 11, 3, 0, 0, 0, .inl 0, []),
    (.aload_n 0, 12, 0, 0, 0, 0, .inl 0, []),
    (.getfield 52, 15, 4, 8, 0, 0, .inl 0, []),
    (.if_icmp .ge 85, 18, 100, 0, 0, 0, .inl 0, []),
    (.iconst 1, 19, 0, 0, 0, 0, .inl 1, []),
    (.iload_n 3, 20, 3, 0, 0, 0, .inl 0, []),
    (.ishl, 21, 0, 0, 0, 0, .inl 0, []),
    (.istore 4, 23, 4, 0, 0, 0, .inl 0, []),
    (.aload_n 0, 24, 0, 0, 0, 0, .inl 0, []),
    (.getfield 39, 27, 4, 12, 2, 1, .inl 0, []),
    (.iload_n 1, 28, 1, 0, 0, 0, .inl 0, []),
    (.iaload, 29, 0, 0, 0, 0, .inl 0, []),
    (.iload 4, 31, 4, 0, 0, 0, .inl 0, []),
    (.iand, 32, 0, 0, 0, 0, .inl 0, []),
    (.ifCond .eq 62, 35, 94, 0, 0, 0, .inl 0, []),
    (.aload_n 0, 36, 0, 0, 0, 0, .inl 0, []),
    (.getfield 120, 39, 4, 10, 0, 0, .inl 0, []),
    (.iload 4, 41, 4, 0, 0, 0, .inl 0, []),
    (.iand, 42, 0, 0, 0, 0, .inl 0, []),
    (.ifCond .eq 6, 45, 48, 0, 0, 0, .inl 0, []),
    (.goto 49, 48, 94, 0, 0, 0, .inl 0, [])]),
  (48, [(.aload_n 0, 49, 0, 0, 0, 0, .inl 0, []),
    (.dup, 50, 0, 0, 0, 0, .inl 0, []),
    (.getfield 120, 53, 4, 10, 0, 0, .inl 0, []),
    (.iload 4, 55, 4, 0, 0, 0, .inl 0, []),
    (.ior, 56, 0, 0, 0, 0, .inl 0, []),
    (.putfield 120, 59, 4, 10, 0, 0, .inl 0, []),
    (.aload_n 0, 60, 0, 0, 0, 0, .inl 0, []),
    (.getfield 33, 63, 4, 6, 2, 1, .inl 0, []),
    (.iload_n 3, 64, 3, 0, 0, 0, .inl 0, []),
    (.iaload, 65, 0, 0, 0, 0, .inl 0, []),
    (.iconst (-1), 66, 0, 0, 0, 0, .inl (-1), []),
    (.if_icmp .eq 19, 69, 85, 0, 0, 0, .inl 0, []),
    (.aload_n 0, 70, 0, 0, 0, 0, .inl 0, []),
    (.aload_n 0, 71, 0, 0, 0, 0, .inl 0, []),
    (.getfield 33, 74, 4, 6, 2, 1, .inl 0, []),
    (.iload_n 3, 75, 3, 0, 0, 0, .inl 0, []),
    (.iaload, 76, 0, 0, 0, 0, .inl 0, []),
    (.iload_n 2, 77, 2, 0, 0, 0, .inl 0, []),
    (.iconst 1, 78, 0, 0, 0, 0, .inl 1, []),
    (.iadd, 79, 0, 0, 0, 0, .inl 0, []),
    (.invokevirtual 123, 82, 40, 3, 0, 4, .inl 0, []),
    (.ifCond .eq 12, 85, 94, 0, 0, 0, .inl 0, [])]),
  (85, [(.aload_n 0, 86, 0, 0, 0, 0, .inl 0, []),
    (.getfield 33, 89, 4, 6, 2, 1, .inl 0, []),
    (.iload_n 3, 90, 3, 0, 0, 0, .inl 0, []),
    (.iload_n 1, 91, 1, 0, 0, 0, .inl 0, []),
    (.iastore, 92, 0, 0, 0, 0, .inl 0, []),
    (.iconst 1, 93, 0, 0, 0, 0, .inl 1, []),
    (.ireturn, 94, 1, 0, 0, 0, .inl 0, [])]),
  (94, [(.iinc 3 1, 97, 3, 0, 0, 0, .inl 1, []),
    (.goto (-87), 100, 10, 0, 0, 0, .inl 0, [])]),
  (100, [(.iconst 0, 101, 0, 0, 0, 0, .inl 0, []),
    (.ireturn, 102, 1, 0, 0, 0, .inl 0, [])])]
def gT_X4_findsCloud : gs_T := ([], gB_X4_findsCloud, [(10, [0, 1, 2, 3])])
set_option maxRecDepth 100000 in
def gB_X5_init : List (Nat × List gs_N) := [(0, [(.aload_n 0, 1, 0, 0, 0, 0, .inl 0, []),
    (.invokespecial 3, 4, 9000, 1, 2, 92, .inl 0, []),
    (.aload_n 0, 5, 0, 0, 0, 0, .inl 0, []),
    (.bipush 72, 7, 0, 0, 0, 0, .inl 72, []),
    (.newarray .int, 9, 13, 0, 0, 0, .inl 0, []),
    (.putfield 9, 12, 5, 0, 2, 1, .inl 0, []),
    (.aload_n 0, 13, 0, 0, 0, 0, .inl 0, []),
    (.new 15, 16, 8, 8, 0, 0, .inl 0, []),
    (.dup, 17, 0, 0, 0, 0, .inl 0, []),
    (.invokespecial 17, 20, 105, 1, 2, 2, .inl 0, []),
    (.putfield 18, 23, 5, 8, 2, 1, .inl 0, []),
    (.aload_n 0, 24, 0, 0, 0, 0, .inl 0, []),
    (.iconst 0, 25, 0, 0, 0, 0, .inl 0, []),
    (.putfield 22, 28, 5, 9, 0, 0, .inl 0, []),
    (.aload_n 0, 29, 0, 0, 0, 0, .inl 0, []),
    (.iconst (-1), 30, 0, 0, 0, 0, .inl (-1), []),
    (.putfield 26, 33, 5, 10, 0, 0, .inl 0, []),
    (.return_, 34, 0, 0, 0, 0, .inl 0, [])])]
def gT_X5_init : gs_T := ([], gB_X5_init, [])
set_option maxRecDepth 100000 in
def gB_X5_readLines : List (Nat × List gs_N) := [(0, [(.aload_n 0, 1, 0, 0, 0, 0, .inl 0, []),
    (.aload_n 1, 2, 1, 0, 0, 0, .inl 0, []),
    (.putfield 29, 5, 5, 1, 2, 0, .inl 0, []),
    (.aload_n 0, 6, 0, 0, 0, 0, .inl 0, []),
    (.getfield 29, 9, 5, 1, 2, 0, .inl 0, []),
    (.invokevirtual 33, 12, 87, 1, 2, 7, .inl 0, []),
    (.aload_n 0, 13, 0, 0, 0, 0, .inl 0, []),
    (.iconst 0, 14, 0, 0, 0, 0, .inl 0, []),
    (.putfield 38, 17, 5, 4, 0, 0, .inl 0, []),
    (.aload_n 0, 18, 0, 0, 0, 0, .inl 0, []),
    (.iconst 0, 19, 0, 0, 0, 0, .inl 0, []),
    (.putfield 41, 22, 5, 7, 0, 0, .inl 0, []),
    (.aload_n 0, 23, 0, 0, 0, 0, .inl 0, []),
    (.iconst 0, 24, 0, 0, 0, 0, .inl 0, []),
    (.putfield 22, 27, 5, 9, 0, 0, .inl 0, []),
    (.aload_n 0, 28, 0, 0, 0, 0, .inl 0, []),
    (.iconst (-1), 29, 0, 0, 0, 0, .inl (-1), []),
    (.putfield 26, 32, 5, 10, 0, 0, .inl 0, []),
    (.aload_n 0, 33, 0, 0, 0, 0, .inl 0, []),
    (.getfield 18, 36, 5, 8, 2, 1, .inl 0, []),
    (.iload_n 2, 37, 2, 0, 0, 0, .inl 0, []),
    (.invokevirtual 44, 40, 107, 2, 2, 8, .inl 0, []),
    (.iconst 0, 41, 0, 0, 0, 0, .inl 0, []),
    (.istore_n 3, 42, 3, 0, 0, 0, .inl 0, [])]),
  (42, [(.aload_n 0, 43, 0, 0, 0, 0, .inl 0, []),
    (.getfield 18, 46, 5, 8, 2, 1, .inl 0, []),
    (.getfield 48, 49, 8, 5, 0, 0, .inl 0, []),
    (.bipush 34, 51, 0, 0, 0, 0, .inl 34, []),
    (.if_icmp .eq 26, 54, 77, 0, 0, 0, .inl 0, []),
    (.iload_n 3, 55, 3, 0, 0, 0, .inl 0, []),
    (.sipush 800, 58, 0, 0, 0, 0, .inl 800, []),
    (.if_icmp .ge 19, 61, 77, 0, 0, 0, .inl 0, []),
    (.aload_n 0, 62, 0, 0, 0, 0, .inl 0, []),
    (.invokevirtual 51, 65, 49, 1, 2, 5, .inl 0, []),
    (.aload_n 0, 66, 0, 0, 0, 0, .inl 0, []),
    (.bipush 36, 68, 0, 0, 0, 0, .inl 36, []),
    (.invokevirtual 54, 71, 44, 2, 2, 5, .inl 0, []),
    (.iinc 3 1, 74, 3, 0, 0, 0, .inl 1, []),
    (.goto (-32), 77, 42, 0, 0, 0, .inl 0, [])]),
  (77, [(.iconst 0, 78, 0, 0, 0, 0, .inl 0, []),
    (.istore 4, 80, 4, 0, 0, 0, .inl 0, [])]),
  (80, [(.iload 4, 82, 4, 0, 0, 0, .inl 0, []),
    (.aload_n 0, 83, 0, 0, 0, 0, .inl 0, []),
    (.getfield 29, 86, 5, 1, 2, 0, .inl 0, []),
    (.getfield 57, 89, 7, 9, 0, 0, .inl 0, []),
    (.if_icmp .ge 29, 92, 118, 0, 0, 0, .inl 0, []),
    (.aload_n 0, 93, 0, 0, 0, 0, .inl 0, []),
    (.getfield 29, 96, 5, 1, 2, 0, .inl 0, []),
    (.getfield 60, 99, 7, 7, 2, 1, .inl 0, []),
    (.iload 4, 101, 4, 0, 0, 0, .inl 0, []),
    (.aaload, 102, 0, 0, 0, 0, .inl 0, []),
    (.aload_n 0, 103, 0, 0, 0, 0, .inl 0, []),
    (.getfield 29, 106, 5, 1, 2, 0, .inl 0, []),
    (.getfield 64, 109, 7, 13, 0, 0, .inl 0, []),
    (.invokevirtual 67, 112, 2, 2, 2, 0, .inl 0, []),
    (.iinc 4 1, 115, 4, 0, 0, 0, .inl 1, []),
    (.goto (-35), 118, 80, 0, 0, 0, .inl 0, [])]),
  (118, [(.iload_n 3, 119, 3, 0, 0, 0, .inl 0, []),
    (.ireturn, 120, 0, 0, 0, 0, .inl 0, [])])]
def gT_X5_readLines : gs_T := ([], gB_X5_readLines, [(42, [0, 3]), (80, [0, 3, 4])])
set_option maxRecDepth 100000 in
def gB_X5_fail : List (Nat × List gs_N) := [(0, [(.aload_n 0, 1, 0, 0, 0, 0, .inl 0, []),
    (.iload_n 1, 2, 1, 0, 0, 0, .inl 0, []),
    (.putfield 22, 5, 5, 9, 0, 0, .inl 0, []),
    (.aload_n 0, 6, 0, 0, 0, 0, .inl 0, []),
    (.aload_n 0, 7, 0, 0, 0, 0, .inl 0, []),
    (.getfield 18, 10, 5, 8, 2, 1, .inl 0, []),
    (.getfield 72, 13, 8, 6, 0, 0, .inl 0, []),
    (.putfield 26, 16, 5, 10, 0, 0, .inl 0, []),
    (.new 75, 19, 100, 0, 0, 0, .inl 0, [])])]
def gT_X5_fail : gs_T := ([], gB_X5_fail, [])
set_option maxRecDepth 100000 in
def gB_X5_take : List (Nat × List gs_N) := [(0, [(.aload_n 0, 1, 0, 0, 0, 0, .inl 0, []),
    (.getfield 18, 4, 5, 8, 2, 1, .inl 0, []),
    (.getfield 48, 7, 8, 5, 0, 0, .inl 0, []),
    (.iload_n 1, 8, 1, 0, 0, 0, .inl 0, []),
    (.if_icmp .eq 8, 11, 16, 0, 0, 0, .inl 0, []),
    (.aload_n 0, 12, 0, 0, 0, 0, .inl 0, []),
    (.iconst 1, 13, 0, 0, 0, 0, .inl 1, []),
    (.invokevirtual 82, 16, 43, 2, 2, 5, .inl 0, [])]),
  (16, [(.aload_n 0, 17, 0, 0, 0, 0, .inl 0, []),
    (.getfield 18, 20, 5, 8, 2, 1, .inl 0, []),
    (.invokevirtual 85, 23, 108, 1, 2, 8, .inl 0, []),
    (.return_, 24, 0, 0, 0, 0, .inl 0, [])])]
def gT_X5_take : gs_T := ([], gB_X5_take, [])
set_option maxRecDepth 100000 in
def gB_X5_number : List (Nat × List gs_N) := [(0, [(.aload_n 0, 1, 0, 0, 0, 0, .inl 0, []),
    (.getfield 18, 4, 5, 8, 2, 1, .inl 0, []),
    (.getfield 48, 7, 8, 5, 0, 0, .inl 0, []),
    (.bipush 33, 9, 0, 0, 0, 0, .inl 33, []),
    (.if_icmp .eq 8, 12, 17, 0, 0, 0, .inl 0, []),
    (.aload_n 0, 13, 0, 0, 0, 0, .inl 0, []),
    (.iconst 1, 14, 0, 0, 0, 0, .inl 1, []),
    (.invokevirtual 82, 17, 43, 2, 2, 5, .inl 0, [])]),
  (17, [(.aload_n 0, 18, 0, 0, 0, 0, .inl 0, []),
    (.getfield 18, 21, 5, 8, 2, 1, .inl 0, []),
    (.getfield 88, 24, 8, 7, 0, 0, .inl 0, []),
    (.istore_n 3, 25, 3, 0, 0, 0, .inl 0, []),
    (.iload_n 3, 26, 3, 0, 0, 0, .inl 0, []),
    (.iload_n 1, 27, 1, 0, 0, 0, .inl 0, []),
    (.if_icmp .lt 8, 30, 35, 0, 0, 0, .inl 0, []),
    (.iload_n 3, 31, 3, 0, 0, 0, .inl 0, []),
    (.iload_n 2, 32, 2, 0, 0, 0, .inl 0, []),
    (.if_icmp .le 8, 35, 40, 0, 0, 0, .inl 0, [])]),
  (35, [(.aload_n 0, 36, 0, 0, 0, 0, .inl 0, []),
    (.iconst 2, 37, 0, 0, 0, 0, .inl 2, []),
    (.invokevirtual 82, 40, 43, 2, 2, 5, .inl 0, [])]),
  (40, [(.aload_n 0, 41, 0, 0, 0, 0, .inl 0, []),
    (.getfield 18, 44, 5, 8, 2, 1, .inl 0, []),
    (.invokevirtual 85, 47, 108, 1, 2, 8, .inl 0, []),
    (.iload_n 3, 48, 3, 0, 0, 0, .inl 0, []),
    (.ireturn, 49, 0, 0, 0, 0, .inl 0, [])])]
def gT_X5_number : gs_T := ([], gB_X5_number, [])
set_option maxRecDepth 100000 in
def gB_X5_newName : List (Nat × List gs_N) := [(0, [(.aload_n 0, 1, 0, 0, 0, 0, .inl 0, []),
    (.getfield 18, 4, 5, 8, 2, 1, .inl 0, []),
    (.getfield 48, 7, 8, 5, 0, 0, .inl 0, []),
    (.bipush 32, 9, 0, 0, 0, 0, .inl 32, []),
    (.if_icmp .eq 8, 12, 17, 0, 0, 0, .inl 0, []),
    (.aload_n 0, 13, 0, 0, 0, 0, .inl 0, []),
    (.iconst 1, 14, 0, 0, 0, 0, .inl 1, []),
    (.invokevirtual 82, 17, 43, 2, 2, 5, .inl 0, [])]),
  (17, [(.aload_n 1, 18, 1, 0, 0, 0, .inl 0, []),
    (.aload_n 0, 19, 0, 0, 0, 0, .inl 0, []),
    (.getfield 18, 22, 5, 8, 2, 1, .inl 0, []),
    (.getfield 88, 25, 8, 7, 0, 0, .inl 0, []),
    (.invokevirtual 91, 28, 27, 2, 0, 3, .inl 0, []),
    (.iconst (-1), 29, 0, 0, 0, 0, .inl (-1), []),
    (.if_icmp .eq 8, 32, 37, 0, 0, 0, .inl 0, []),
    (.aload_n 0, 33, 0, 0, 0, 0, .inl 0, []),
    (.iconst 3, 34, 0, 0, 0, 0, .inl 3, []),
    (.invokevirtual 82, 37, 43, 2, 2, 5, .inl 0, [])]),
  (37, [(.aload_n 0, 38, 0, 0, 0, 0, .inl 0, []),
    (.getfield 18, 41, 5, 8, 2, 1, .inl 0, []),
    (.getfield 88, 44, 8, 7, 0, 0, .inl 0, []),
    (.istore_n 2, 45, 2, 0, 0, 0, .inl 0, []),
    (.aload_n 0, 46, 0, 0, 0, 0, .inl 0, []),
    (.getfield 18, 49, 5, 8, 2, 1, .inl 0, []),
    (.invokevirtual 85, 52, 108, 1, 2, 8, .inl 0, []),
    (.iload_n 2, 53, 2, 0, 0, 0, .inl 0, []),
    (.ireturn, 54, 0, 0, 0, 0, .inl 0, [])])]
def gT_X5_newName : gs_T := ([], gB_X5_newName, [])
set_option maxRecDepth 100000 in
def gB_X5_toldName : List (Nat × List gs_N) := [(0, [(.aload_n 0, 1, 0, 0, 0, 0, .inl 0, []),
    (.getfield 18, 4, 5, 8, 2, 1, .inl 0, []),
    (.getfield 48, 7, 8, 5, 0, 0, .inl 0, []),
    (.bipush 32, 9, 0, 0, 0, 0, .inl 32, []),
    (.if_icmp .eq 8, 12, 17, 0, 0, 0, .inl 0, []),
    (.aload_n 0, 13, 0, 0, 0, 0, .inl 0, []),
    (.iconst 1, 14, 0, 0, 0, 0, .inl 1, []),
    (.invokevirtual 82, 17, 43, 2, 2, 5, .inl 0, [])]),
  (17, [(.aload_n 1, 18, 1, 0, 0, 0, .inl 0, []),
    (.aload_n 0, 19, 0, 0, 0, 0, .inl 0, []),
    (.getfield 18, 22, 5, 8, 2, 1, .inl 0, []),
    (.getfield 88, 25, 8, 7, 0, 0, .inl 0, []),
    (.invokevirtual 91, 28, 27, 2, 0, 3, .inl 0, []),
    (.istore_n 2, 29, 2, 0, 0, 0, .inl 0, []),
    (.iload_n 2, 30, 2, 0, 0, 0, .inl 0, []),
    (.iconst (-1), 31, 0, 0, 0, 0, .inl (-1), []),
    (.if_icmp .ne 8, 34, 39, 0, 0, 0, .inl 0, []),
    (.aload_n 0, 35, 0, 0, 0, 0, .inl 0, []),
    (.iconst 4, 36, 0, 0, 0, 0, .inl 4, []),
    (.invokevirtual 82, 39, 43, 2, 2, 5, .inl 0, [])]),
  (39, [(.aload_n 0, 40, 0, 0, 0, 0, .inl 0, []),
    (.getfield 18, 43, 5, 8, 2, 1, .inl 0, []),
    (.invokevirtual 85, 46, 108, 1, 2, 8, .inl 0, []),
    (.iload_n 2, 47, 2, 0, 0, 0, .inl 0, []),
    (.ireturn, 48, 0, 0, 0, 0, .inl 0, [])])]
def gT_X5_toldName : gs_T := ([], gB_X5_toldName, [])
set_option maxRecDepth 100000 in
def gB_X5_begin : List (Nat × List gs_N) := [(0, [(.iload_n 1, 1, 1, 0, 0, 0, .inl 0, []),
    (.iload_n 2, 2, 2, 0, 0, 0, .inl 0, []),
    (.if_icmp .lt 8, 5, 10, 0, 0, 0, .inl 0, []),
    (.aload_n 0, 6, 0, 0, 0, 0, .inl 0, []),
    (.iconst 2, 7, 0, 0, 0, 0, .inl 2, []),
    (.invokevirtual 82, 10, 43, 2, 2, 5, .inl 0, [])]),
  (10, [(.aload_n 0, 11, 0, 0, 0, 0, .inl 0, []),
    (.getfield 18, 14, 5, 8, 2, 1, .inl 0, []),
    (.invokevirtual 85, 17, 108, 1, 2, 8, .inl 0, []),
    (.return_, 18, 0, 0, 0, 0, .inl 0, [])])]
def gT_X5_begin : gs_T := ([], gB_X5_begin, [])
set_option maxRecDepth 100000 in
def gB_X5_readLine : List (Nat × List gs_N) := [(0, [(.aload_n 0, 1, 0, 0, 0, 0, .inl 0, []),
    (.getfield 18, 4, 5, 8, 2, 1, .inl 0, []),
    (.getfield 48, 7, 8, 5, 0, 0, .inl 0, []),
    (.tableswitch 234 0 22 #[105, 112, 119, 234, 126, 137, 234, 234, 234, 234, 234, 234, 234, 148, 234, 234, 234, 155, 162, 169, 185, 201, 218], 112, 241, 105, 0, 0, .inl 0, [(0, 112), (1, 119), (2, 126), (4, 133), (5, 144), (13, 155), (17, 162), (18, 169), (19, 176), (20, 192), (21, 208), (22, 225)])]),
  (112, [(.aload_n 0, 113, 0, 0, 0, 0, .inl 0, []),
    (.invokevirtual 97, 116, 52, 1, 2, 5, .inl 0, []),
    (.goto 130, 119, 246, 0, 0, 0, .inl 0, [])]),
  (119, [(.aload_n 0, 120, 0, 0, 0, 0, .inl 0, []),
    (.invokevirtual 100, 123, 53, 1, 2, 5, .inl 0, []),
    (.goto 123, 126, 246, 0, 0, 0, .inl 0, [])]),
  (126, [(.aload_n 0, 127, 0, 0, 0, 0, .inl 0, []),
    (.invokevirtual 103, 130, 54, 1, 2, 5, .inl 0, []),
    (.goto 116, 133, 246, 0, 0, 0, .inl 0, [])]),
  (133, [(.aload_n 0, 134, 0, 0, 0, 0, .inl 0, []),
    (.invokevirtual 106, 137, 56, 1, 2, 5, .inl 0, []),
    (.aload_n 0, 138, 0, 0, 0, 0, .inl 0, []),
    (.invokevirtual 109, 141, 58, 1, 2, 5, .inl 0, []),
    (.goto 105, 144, 246, 0, 0, 0, .inl 0, [])]),
  (144, [(.aload_n 0, 145, 0, 0, 0, 0, .inl 0, []),
    (.invokevirtual 112, 148, 57, 1, 2, 5, .inl 0, []),
    (.aload_n 0, 149, 0, 0, 0, 0, .inl 0, []),
    (.invokevirtual 109, 152, 58, 1, 2, 5, .inl 0, []),
    (.goto 94, 155, 246, 0, 0, 0, .inl 0, [])]),
  (155, [(.aload_n 0, 156, 0, 0, 0, 0, .inl 0, []),
    (.invokevirtual 115, 159, 62, 1, 2, 5, .inl 0, []),
    (.goto 87, 162, 246, 0, 0, 0, .inl 0, [])]),
  (162, [(.aload_n 0, 163, 0, 0, 0, 0, .inl 0, []),
    (.invokevirtual 118, 166, 63, 1, 2, 5, .inl 0, []),
    (.goto 80, 169, 246, 0, 0, 0, .inl 0, [])]),
  (169, [(.aload_n 0, 170, 0, 0, 0, 0, .inl 0, []),
    (.invokevirtual 121, 173, 55, 1, 2, 5, .inl 0, []),
    (.goto 73, 176, 246, 0, 0, 0, .inl 0, [])]),
  (176, [(.aload_n 0, 177, 0, 0, 0, 0, .inl 0, []),
    (.getfield 29, 180, 5, 1, 2, 0, .inl 0, []),
    (.aload_n 0, 181, 0, 0, 0, 0, .inl 0, []),
    (.bipush 59, 183, 0, 0, 0, 0, .inl 59, []),
    (.invokevirtual 124, 186, 50, 2, 0, 5, .inl 0, []),
    (.putfield 127, 189, 7, 10, 0, 0, .inl 0, []),
    (.goto 57, 192, 246, 0, 0, 0, .inl 0, [])]),
  (192, [(.aload_n 0, 193, 0, 0, 0, 0, .inl 0, []),
    (.getfield 29, 196, 5, 1, 2, 0, .inl 0, []),
    (.aload_n 0, 197, 0, 0, 0, 0, .inl 0, []),
    (.bipush 99, 199, 0, 0, 0, 0, .inl 99, []),
    (.invokevirtual 124, 202, 50, 2, 0, 5, .inl 0, []),
    (.putfield 130, 205, 7, 11, 0, 0, .inl 0, []),
    (.goto 41, 208, 246, 0, 0, 0, .inl 0, [])]),
  (208, [(.aload_n 0, 209, 0, 0, 0, 0, .inl 0, []),
    (.getfield 29, 212, 5, 1, 2, 0, .inl 0, []),
    (.aload_n 0, 213, 0, 0, 0, 0, .inl 0, []),
    (.sipush 999, 216, 0, 0, 0, 0, .inl 999, []),
    (.invokevirtual 124, 219, 50, 2, 0, 5, .inl 0, []),
    (.putfield 133, 222, 7, 12, 0, 0, .inl 0, []),
    (.goto 24, 225, 246, 0, 0, 0, .inl 0, [])]),
  (225, [(.aload_n 0, 226, 0, 0, 0, 0, .inl 0, []),
    (.getfield 29, 229, 5, 1, 2, 0, .inl 0, []),
    (.aload_n 0, 230, 0, 0, 0, 0, .inl 0, []),
    (.bipush 99, 232, 0, 0, 0, 0, .inl 99, []),
    (.invokevirtual 124, 235, 50, 2, 0, 5, .inl 0, []),
    (.putfield 64, 238, 7, 13, 0, 0, .inl 0, []),
    (.goto 8, 241, 246, 0, 0, 0, .inl 0, [])]),
  (241, [(.aload_n 0, 242, 0, 0, 0, 0, .inl 0, []),
    (.iconst 1, 243, 0, 0, 0, 0, .inl 1, []),
    (.invokevirtual 82, 246, 43, 2, 2, 5, .inl 0, [])]),
  (246, [(.return_, 247, 0, 0, 0, 0, .inl 0, [])])]
def gT_X5_readLine : gs_T := ([], gB_X5_readLine, [])
set_option maxRecDepth 100000 in
def gB_X5_readSetting : List (Nat × List gs_N) := [(0, [(.aload_n 0, 1, 0, 0, 0, 0, .inl 0, []),
    (.aload_n 0, 2, 0, 0, 0, 0, .inl 0, []),
    (.aload_n 0, 3, 0, 0, 0, 0, .inl 0, []),
    (.getfield 41, 6, 5, 7, 0, 0, .inl 0, []),
    (.invokevirtual 136, 9, 51, 2, 0, 5, .inl 0, []),
    (.putfield 41, 12, 5, 7, 0, 0, .inl 0, []),
    (.aload_n 0, 13, 0, 0, 0, 0, .inl 0, []),
    (.iconst 0, 14, 0, 0, 0, 0, .inl 0, []),
    (.iload_n 1, 15, 1, 0, 0, 0, .inl 0, []),
    (.invokevirtual 139, 18, 45, 3, 0, 5, .inl 0, []),
    (.ireturn, 19, 0, 0, 0, 0, .inl 0, [])])]
def gT_X5_readSetting : gs_T := ([], gB_X5_readSetting, [])
set_option maxRecDepth 100000 in
def gB_X5_tellOnce : List (Nat × List gs_N) := [(0, [(.iconst 1, 1, 0, 0, 0, 0, .inl 1, []),
    (.aload_n 0, 2, 0, 0, 0, 0, .inl 0, []),
    (.getfield 18, 5, 5, 8, 2, 1, .inl 0, []),
    (.getfield 48, 8, 8, 5, 0, 0, .inl 0, []),
    (.ishl, 9, 0, 0, 0, 0, .inl 0, []),
    (.istore_n 2, 10, 2, 0, 0, 0, .inl 0, []),
    (.iload_n 1, 11, 1, 0, 0, 0, .inl 0, []),
    (.iload_n 2, 12, 2, 0, 0, 0, .inl 0, []),
    (.iand, 13, 0, 0, 0, 0, .inl 0, []),
    (.ifCond .eq 8, 16, 21, 0, 0, 0, .inl 0, []),
    (.aload_n 0, 17, 0, 0, 0, 0, .inl 0, []),
    (.iconst 3, 18, 0, 0, 0, 0, .inl 3, []),
    (.invokevirtual 82, 21, 43, 2, 2, 5, .inl 0, [])]),
  (21, [(.aload_n 0, 22, 0, 0, 0, 0, .inl 0, []),
    (.getfield 18, 25, 5, 8, 2, 1, .inl 0, []),
    (.invokevirtual 85, 28, 108, 1, 2, 8, .inl 0, []),
    (.iload_n 1, 29, 1, 0, 0, 0, .inl 0, []),
    (.iload_n 2, 30, 2, 0, 0, 0, .inl 0, []),
    (.ior, 31, 0, 0, 0, 0, .inl 0, []),
    (.ireturn, 32, 0, 0, 0, 0, .inl 0, [])])]
def gT_X5_tellOnce : gs_T := ([], gB_X5_tellOnce, [])
set_option maxRecDepth 100000 in
def gB_X5_readReign : List (Nat × List gs_N) := [(0, [(.aload_n 0, 1, 0, 0, 0, 0, .inl 0, []),
    (.aload_n 0, 2, 0, 0, 0, 0, .inl 0, []),
    (.getfield 29, 5, 5, 1, 2, 0, .inl 0, []),
    (.getfield 143, 8, 7, 0, 2, 1, .inl 0, []),
    (.getfield 147, 11, 3, 3, 0, 0, .inl 0, []),
    (.bipush 8, 13, 0, 0, 0, 0, .inl 8, []),
    (.invokevirtual 150, 16, 48, 3, 2, 5, .inl 0, []),
    (.aload_n 0, 17, 0, 0, 0, 0, .inl 0, []),
    (.aload_n 0, 18, 0, 0, 0, 0, .inl 0, []),
    (.getfield 29, 21, 5, 1, 2, 0, .inl 0, []),
    (.getfield 143, 24, 7, 0, 2, 1, .inl 0, []),
    (.invokevirtual 154, 27, 46, 2, 0, 5, .inl 0, []),
    (.istore_n 1, 28, 1, 0, 0, 0, .inl 0, []),
    (.aload_n 0, 29, 0, 0, 0, 0, .inl 0, []),
    (.iconst 0, 30, 0, 0, 0, 0, .inl 0, []),
    (.sipush 1900, 33, 0, 0, 0, 0, .inl 1900, []),
    (.invokevirtual 139, 36, 45, 3, 0, 5, .inl 0, []),
    (.istore_n 2, 37, 2, 0, 0, 0, .inl 0, []),
    (.aload_n 0, 38, 0, 0, 0, 0, .inl 0, []),
    (.iconst 1, 39, 0, 0, 0, 0, .inl 1, []),
    (.bipush 60, 41, 0, 0, 0, 0, .inl 60, []),
    (.invokevirtual 139, 44, 45, 3, 0, 5, .inl 0, []),
    (.istore_n 3, 45, 3, 0, 0, 0, .inl 0, []),
    (.aload_n 0, 46, 0, 0, 0, 0, .inl 0, []),
    (.getfield 29, 49, 5, 1, 2, 0, .inl 0, []),
    (.getfield 143, 52, 7, 0, 2, 1, .inl 0, []),
    (.iload_n 1, 53, 1, 0, 0, 0, .inl 0, []),
    (.iload_n 2, 54, 2, 0, 0, 0, .inl 0, []),
    (.iload_n 3, 55, 3, 0, 0, 0, .inl 0, []),
    (.invokevirtual 158, 58, 26, 4, 2, 3, .inl 0, []),
    (.return_, 59, 0, 0, 0, 0, .inl 0, [])])]
def gT_X5_readReign : gs_T := ([], gB_X5_readReign, [])
set_option maxRecDepth 100000 in
def gB_X5_readGate : List (Nat × List gs_N) := [(0, [(.aload_n 0, 1, 0, 0, 0, 0, .inl 0, []),
    (.aload_n 0, 2, 0, 0, 0, 0, .inl 0, []),
    (.getfield 29, 5, 5, 1, 2, 0, .inl 0, []),
    (.getfield 162, 8, 7, 1, 2, 1, .inl 0, []),
    (.getfield 147, 11, 3, 3, 0, 0, .inl 0, []),
    (.bipush 10, 13, 0, 0, 0, 0, .inl 10, []),
    (.invokevirtual 150, 16, 48, 3, 2, 5, .inl 0, []),
    (.aload_n 0, 17, 0, 0, 0, 0, .inl 0, []),
    (.aload_n 0, 18, 0, 0, 0, 0, .inl 0, []),
    (.getfield 29, 21, 5, 1, 2, 0, .inl 0, []),
    (.getfield 162, 24, 7, 1, 2, 1, .inl 0, []),
    (.invokevirtual 154, 27, 46, 2, 0, 5, .inl 0, []),
    (.istore_n 1, 28, 1, 0, 0, 0, .inl 0, []),
    (.aload_n 0, 29, 0, 0, 0, 0, .inl 0, []),
    (.iconst 0, 30, 0, 0, 0, 0, .inl 0, []),
    (.bipush 119, 32, 0, 0, 0, 0, .inl 119, []),
    (.invokevirtual 139, 35, 45, 3, 0, 5, .inl 0, []),
    (.istore_n 2, 36, 2, 0, 0, 0, .inl 0, []),
    (.aload_n 0, 37, 0, 0, 0, 0, .inl 0, []),
    (.iconst 0, 38, 0, 0, 0, 0, .inl 0, []),
    (.bipush 59, 40, 0, 0, 0, 0, .inl 59, []),
    (.invokevirtual 139, 43, 45, 3, 0, 5, .inl 0, []),
    (.istore_n 3, 44, 3, 0, 0, 0, .inl 0, []),
    (.aload_n 0, 45, 0, 0, 0, 0, .inl 0, []),
    (.getfield 29, 48, 5, 1, 2, 0, .inl 0, []),
    (.getfield 162, 51, 7, 1, 2, 1, .inl 0, []),
    (.iload_n 1, 52, 1, 0, 0, 0, .inl 0, []),
    (.iload_n 2, 53, 2, 0, 0, 0, .inl 0, []),
    (.iload_n 3, 54, 3, 0, 0, 0, .inl 0, []),
    (.invokevirtual 158, 57, 26, 4, 2, 3, .inl 0, []),
    (.return_, 58, 0, 0, 0, 0, .inl 0, [])])]
def gT_X5_readGate : gs_T := ([], gB_X5_readGate, [])
set_option maxRecDepth 100000 in
def gB_X5_readBook : List (Nat × List gs_N) := [(0, [(.aload_n 0, 1, 0, 0, 0, 0, .inl 0, []),
    (.aload_n 0, 2, 0, 0, 0, 0, .inl 0, []),
    (.getfield 29, 5, 5, 1, 2, 0, .inl 0, []),
    (.getfield 165, 8, 7, 2, 2, 1, .inl 0, []),
    (.getfield 147, 11, 3, 3, 0, 0, .inl 0, []),
    (.bipush 8, 13, 0, 0, 0, 0, .inl 8, []),
    (.invokevirtual 150, 16, 48, 3, 2, 5, .inl 0, []),
    (.aload_n 0, 17, 0, 0, 0, 0, .inl 0, []),
    (.aload_n 0, 18, 0, 0, 0, 0, .inl 0, []),
    (.getfield 29, 21, 5, 1, 2, 0, .inl 0, []),
    (.getfield 165, 24, 7, 2, 2, 1, .inl 0, []),
    (.invokevirtual 154, 27, 46, 2, 0, 5, .inl 0, []),
    (.istore_n 1, 28, 1, 0, 0, 0, .inl 0, []),
    (.iconst (-1), 29, 0, 0, 0, 0, .inl (-1), []),
    (.istore_n 2, 30, 2, 0, 0, 0, .inl 0, []),
    (.aload_n 0, 31, 0, 0, 0, 0, .inl 0, []),
    (.getfield 18, 34, 5, 8, 2, 1, .inl 0, []),
    (.getfield 48, 37, 8, 5, 0, 0, .inl 0, []),
    (.iconst 3, 38, 0, 0, 0, 0, .inl 3, []),
    (.if_icmp .ne 22, 41, 60, 0, 0, 0, .inl 0, []),
    (.aload_n 0, 42, 0, 0, 0, 0, .inl 0, []),
    (.getfield 18, 45, 5, 8, 2, 1, .inl 0, []),
    (.invokevirtual 85, 48, 108, 1, 2, 8, .inl 0, []),
    (.aload_n 0, 49, 0, 0, 0, 0, .inl 0, []),
    (.aload_n 0, 50, 0, 0, 0, 0, .inl 0, []),
    (.getfield 29, 53, 5, 1, 2, 0, .inl 0, []),
    (.getfield 165, 56, 7, 2, 2, 1, .inl 0, []),
    (.invokevirtual 168, 59, 47, 2, 0, 5, .inl 0, []),
    (.istore_n 2, 60, 2, 0, 0, 0, .inl 0, [])]),
  (60, [(.aload_n 0, 61, 0, 0, 0, 0, .inl 0, []),
    (.getfield 29, 64, 5, 1, 2, 0, .inl 0, []),
    (.getfield 165, 67, 7, 2, 2, 1, .inl 0, []),
    (.iload_n 1, 68, 1, 0, 0, 0, .inl 0, []),
    (.iload_n 2, 69, 2, 0, 0, 0, .inl 0, []),
    (.iconst 0, 70, 0, 0, 0, 0, .inl 0, []),
    (.invokevirtual 158, 73, 26, 4, 2, 3, .inl 0, []),
    (.return_, 74, 0, 0, 0, 0, .inl 0, [])])]
def gT_X5_readBook : gs_T := ([], gB_X5_readBook, [])
set_option maxRecDepth 100000 in
def gB_X5_readWatch : List (Nat × List gs_N) := [(0, [(.aload_n 0, 1, 0, 0, 0, 0, .inl 0, []),
    (.aload_n 0, 2, 0, 0, 0, 0, .inl 0, []),
    (.getfield 29, 5, 5, 1, 2, 0, .inl 0, []),
    (.getfield 171, 8, 7, 5, 2, 1, .inl 0, []),
    (.getfield 175, 11, 9, 3, 0, 0, .inl 0, []),
    (.bipush 6, 13, 0, 0, 0, 0, .inl 6, []),
    (.invokevirtual 150, 16, 48, 3, 2, 5, .inl 0, []),
    (.aload_n 0, 17, 0, 0, 0, 0, .inl 0, []),
    (.iconst 0, 18, 0, 0, 0, 0, .inl 0, []),
    (.sipush 1999, 21, 0, 0, 0, 0, .inl 1999, []),
    (.invokevirtual 139, 24, 45, 3, 0, 5, .inl 0, []),
    (.istore_n 1, 25, 1, 0, 0, 0, .inl 0, []),
    (.aload_n 0, 26, 0, 0, 0, 0, .inl 0, []),
    (.iload_n 1, 27, 1, 0, 0, 0, .inl 0, []),
    (.sipush 1999, 30, 0, 0, 0, 0, .inl 1999, []),
    (.invokevirtual 139, 33, 45, 3, 0, 5, .inl 0, []),
    (.istore_n 2, 34, 2, 0, 0, 0, .inl 0, []),
    (.aload_n 0, 35, 0, 0, 0, 0, .inl 0, []),
    (.iconst 1, 36, 0, 0, 0, 0, .inl 1, []),
    (.bipush 10, 38, 0, 0, 0, 0, .inl 10, []),
    (.invokevirtual 139, 41, 45, 3, 0, 5, .inl 0, []),
    (.istore_n 3, 42, 3, 0, 0, 0, .inl 0, []),
    (.aload_n 0, 43, 0, 0, 0, 0, .inl 0, []),
    (.getfield 29, 46, 5, 1, 2, 0, .inl 0, []),
    (.getfield 171, 49, 7, 5, 2, 1, .inl 0, []),
    (.iload_n 1, 50, 1, 0, 0, 0, .inl 0, []),
    (.iload_n 2, 51, 2, 0, 0, 0, .inl 0, []),
    (.iload_n 3, 52, 3, 0, 0, 0, .inl 0, []),
    (.invokevirtual 178, 55, 114, 4, 2, 9, .inl 0, []),
    (.return_, 56, 0, 0, 0, 0, .inl 0, [])])]
def gT_X5_readWatch : gs_T := ([], gB_X5_readWatch, [])
set_option maxRecDepth 100000 in
def gB_X5_startGuest : List (Nat × List gs_N) := [(0, [(.aload_n 0, 1, 0, 0, 0, 0, .inl 0, []),
    (.aload_n 0, 2, 0, 0, 0, 0, .inl 0, []),
    (.getfield 29, 5, 5, 1, 2, 0, .inl 0, []),
    (.getfield 179, 8, 7, 8, 0, 0, .inl 0, []),
    (.bipush 12, 10, 0, 0, 0, 0, .inl 12, []),
    (.invokevirtual 150, 13, 48, 3, 2, 5, .inl 0, []),
    (.aload_n 0, 14, 0, 0, 0, 0, .inl 0, []),
    (.getfield 29, 17, 5, 1, 2, 0, .inl 0, []),
    (.getfield 182, 20, 7, 6, 2, 1, .inl 0, []),
    (.aload_n 0, 21, 0, 0, 0, 0, .inl 0, []),
    (.getfield 29, 24, 5, 1, 2, 0, .inl 0, []),
    (.getfield 179, 27, 7, 8, 0, 0, .inl 0, []),
    (.aaload, 28, 0, 0, 0, 0, .inl 0, []),
    (.astore_n 1, 29, 1, 0, 0, 0, .inl 0, []),
    (.aload_n 1, 30, 1, 0, 0, 0, .inl 0, []),
    (.invokevirtual 186, 33, 18, 1, 2, 2, .inl 0, []),
    (.aload_n 1, 34, 1, 0, 0, 0, .inl 0, []),
    (.aload_n 0, 35, 0, 0, 0, 0, .inl 0, []),
    (.aload_n 0, 36, 0, 0, 0, 0, .inl 0, []),
    (.getfield 29, 39, 5, 1, 2, 0, .inl 0, []),
    (.getfield 143, 42, 7, 0, 2, 1, .inl 0, []),
    (.invokevirtual 168, 45, 47, 2, 0, 5, .inl 0, []),
    (.putfield 189, 48, 2, 0, 0, 0, .inl 0, []),
    (.aload_n 1, 49, 1, 0, 0, 0, .inl 0, []),
    (.aload_n 0, 50, 0, 0, 0, 0, .inl 0, []),
    (.getfield 29, 53, 5, 1, 2, 0, .inl 0, []),
    (.getfield 143, 56, 7, 0, 2, 1, .inl 0, []),
    (.getfield 192, 59, 3, 1, 2, 1, .inl 0, []),
    (.aload_n 1, 60, 1, 0, 0, 0, .inl 0, []),
    (.getfield 189, 63, 2, 0, 0, 0, .inl 0, []),
    (.iaload, 64, 0, 0, 0, 0, .inl 0, []),
    (.aload_n 0, 65, 0, 0, 0, 0, .inl 0, []),
    (.iconst 1, 66, 0, 0, 0, 0, .inl 1, []),
    (.aload_n 0, 67, 0, 0, 0, 0, .inl 0, []),
    (.getfield 29, 70, 5, 1, 2, 0, .inl 0, []),
    (.getfield 143, 73, 7, 0, 2, 1, .inl 0, []),
    (.getfield 195, 76, 3, 2, 2, 1, .inl 0, []),
    (.aload_n 1, 77, 1, 0, 0, 0, .inl 0, []),
    (.getfield 189, 80, 2, 0, 0, 0, .inl 0, []),
    (.iaload, 81, 0, 0, 0, 0, .inl 0, []),
    (.invokevirtual 139, 84, 45, 3, 0, 5, .inl 0, []),
    (.iadd, 85, 0, 0, 0, 0, .inl 0, []),
    (.iconst 1, 86, 0, 0, 0, 0, .inl 1, []),
    (.isub, 87, 0, 0, 0, 0, .inl 0, []),
    (.putfield 198, 90, 2, 1, 0, 0, .inl 0, []),
    (.aload_n 1, 91, 1, 0, 0, 0, .inl 0, []),
    (.aload_n 1, 92, 1, 0, 0, 0, .inl 0, []),
    (.getfield 198, 95, 2, 1, 0, 0, .inl 0, []),
    (.putfield 201, 98, 2, 2, 0, 0, .inl 0, []),
    (.aload_n 1, 99, 1, 0, 0, 0, .inl 0, []),
    (.aload_n 0, 100, 0, 0, 0, 0, .inl 0, []),
    (.iconst 1, 101, 0, 0, 0, 0, .inl 1, []),
    (.bipush 12, 103, 0, 0, 0, 0, .inl 12, []),
    (.invokevirtual 139, 106, 45, 3, 0, 5, .inl 0, []),
    (.putfield 204, 109, 2, 3, 0, 0, .inl 0, []),
    (.aload_n 1, 110, 1, 0, 0, 0, .inl 0, []),
    (.aload_n 0, 111, 0, 0, 0, 0, .inl 0, []),
    (.iconst 0, 112, 0, 0, 0, 0, .inl 0, []),
    (.bipush 59, 114, 0, 0, 0, 0, .inl 59, []),
    (.invokevirtual 139, 117, 45, 3, 0, 5, .inl 0, []),
    (.putfield 207, 120, 2, 4, 0, 0, .inl 0, []),
    (.return_, 121, 0, 0, 0, 0, .inl 0, [])])]
def gT_X5_startGuest : gs_T := ([], gB_X5_startGuest, [])
set_option maxRecDepth 100000 in
def gB_X5_startRock : List (Nat × List gs_N) := [(0, [(.aload_n 0, 1, 0, 0, 0, 0, .inl 0, []),
    (.aload_n 0, 2, 0, 0, 0, 0, .inl 0, []),
    (.getfield 29, 5, 5, 1, 2, 0, .inl 0, []),
    (.getfield 179, 8, 7, 8, 0, 0, .inl 0, []),
    (.bipush 12, 10, 0, 0, 0, 0, .inl 12, []),
    (.invokevirtual 150, 13, 48, 3, 2, 5, .inl 0, []),
    (.aload_n 0, 14, 0, 0, 0, 0, .inl 0, []),
    (.getfield 29, 17, 5, 1, 2, 0, .inl 0, []),
    (.getfield 182, 20, 7, 6, 2, 1, .inl 0, []),
    (.aload_n 0, 21, 0, 0, 0, 0, .inl 0, []),
    (.getfield 29, 24, 5, 1, 2, 0, .inl 0, []),
    (.getfield 179, 27, 7, 8, 0, 0, .inl 0, []),
    (.aaload, 28, 0, 0, 0, 0, .inl 0, []),
    (.astore_n 1, 29, 1, 0, 0, 0, .inl 0, []),
    (.aload_n 1, 30, 1, 0, 0, 0, .inl 0, []),
    (.invokevirtual 186, 33, 18, 1, 2, 2, .inl 0, []),
    (.aload_n 1, 34, 1, 0, 0, 0, .inl 0, []),
    (.aload_n 0, 35, 0, 0, 0, 0, .inl 0, []),
    (.iconst 0, 36, 0, 0, 0, 0, .inl 0, []),
    (.sipush 1999, 39, 0, 0, 0, 0, .inl 1999, []),
    (.invokevirtual 139, 42, 45, 3, 0, 5, .inl 0, []),
    (.putfield 198, 45, 2, 1, 0, 0, .inl 0, []),
    (.aload_n 1, 46, 1, 0, 0, 0, .inl 0, []),
    (.aload_n 0, 47, 0, 0, 0, 0, .inl 0, []),
    (.aload_n 1, 48, 1, 0, 0, 0, .inl 0, []),
    (.getfield 198, 51, 2, 1, 0, 0, .inl 0, []),
    (.sipush 1999, 54, 0, 0, 0, 0, .inl 1999, []),
    (.invokevirtual 139, 57, 45, 3, 0, 5, .inl 0, []),
    (.putfield 201, 60, 2, 2, 0, 0, .inl 0, []),
    (.return_, 61, 0, 0, 0, 0, .inl 0, [])])]
def gT_X5_startRock : gs_T := ([], gB_X5_startRock, [])
set_option maxRecDepth 100000 in
def gB_X5_readDetails : List (Nat × List gs_N) := [(0, [(.aload_n 0, 1, 0, 0, 0, 0, .inl 0, []),
    (.getfield 29, 4, 5, 1, 2, 0, .inl 0, []),
    (.getfield 182, 7, 7, 6, 2, 1, .inl 0, []),
    (.aload_n 0, 8, 0, 0, 0, 0, .inl 0, []),
    (.getfield 29, 11, 5, 1, 2, 0, .inl 0, []),
    (.getfield 179, 14, 7, 8, 0, 0, .inl 0, []),
    (.aaload, 15, 0, 0, 0, 0, .inl 0, []),
    (.astore_n 1, 16, 1, 0, 0, 0, .inl 0, []),
    (.iconst 0, 17, 0, 0, 0, 0, .inl 0, []),
    (.istore_n 2, 18, 2, 0, 0, 0, .inl 0, []),
    (.iconst 0, 19, 0, 0, 0, 0, .inl 0, []),
    (.istore_n 3, 20, 3, 0, 0, 0, .inl 0, [])]),
  (20, [(.iload_n 3, 21, 3, 0, 0, 0, .inl 0, []),
    (.bipush 8, 23, 0, 0, 0, 0, .inl 8, []),
    (.if_icmp .ge 204, 26, 227, 0, 0, 0, .inl 0, []),
    (.aload_n 0, 27, 0, 0, 0, 0, .inl 0, []),
    (.getfield 18, 30, 5, 8, 2, 1, .inl 0, []),
    (.getfield 48, 33, 8, 5, 0, 0, .inl 0, []),
    (.bipush 6, 35, 0, 0, 0, 0, .inl 6, []),
    (.if_icmp .lt 192, 38, 227, 0, 0, 0, .inl 0, []),
    (.aload_n 0, 39, 0, 0, 0, 0, .inl 0, []),
    (.getfield 18, 42, 5, 8, 2, 1, .inl 0, []),
    (.getfield 48, 45, 8, 5, 0, 0, .inl 0, []),
    (.bipush 12, 47, 0, 0, 0, 0, .inl 12, []),
    (.if_icmp .gt 180, 50, 227, 0, 0, 0, .inl 0, []),
    (.aload_n 0, 51, 0, 0, 0, 0, .inl 0, []),
    (.getfield 18, 54, 5, 8, 2, 1, .inl 0, []),
    (.getfield 48, 57, 8, 5, 0, 0, .inl 0, []),
    (.istore 4, 59, 4, 0, 0, 0, .inl 0, []),
    (.aload_n 0, 60, 0, 0, 0, 0, .inl 0, []),
    (.iload_n 2, 61, 2, 0, 0, 0, .inl 0, []),
    (.invokevirtual 136, 64, 51, 2, 0, 5, .inl 0, []),
    (.istore_n 2, 65, 2, 0, 0, 0, .inl 0, []),
    (.iload 4, 67, 4, 0, 0, 0, .inl 0, []),
    (.tableswitch 149 6 11 #[37, 55, 92, 107, 121, 135], 104, 216, 37, 0, 0, .inl 0, [(6, 104), (7, 122), (8, 159), (9, 174), (10, 188), (11, 202)])]),
  (104, [(.aload_n 1, 105, 1, 0, 0, 0, .inl 0, []),
    (.aload_n 0, 106, 0, 0, 0, 0, .inl 0, []),
    (.aload_n 0, 107, 0, 0, 0, 0, .inl 0, []),
    (.getfield 29, 110, 5, 1, 2, 0, .inl 0, []),
    (.getfield 165, 113, 7, 2, 2, 1, .inl 0, []),
    (.invokevirtual 168, 116, 47, 2, 0, 5, .inl 0, []),
    (.putfield 210, 119, 2, 15, 0, 0, .inl 0, []),
    (.goto 102, 122, 221, 0, 0, 0, .inl 0, [])]),
  (122, [(.aload_n 1, 123, 1, 0, 0, 0, .inl 0, []),
    (.aload_n 0, 124, 0, 0, 0, 0, .inl 0, []),
    (.aload_n 0, 125, 0, 0, 0, 0, .inl 0, []),
    (.getfield 29, 128, 5, 1, 2, 0, .inl 0, []),
    (.getfield 162, 131, 7, 1, 2, 1, .inl 0, []),
    (.invokevirtual 168, 134, 47, 2, 0, 5, .inl 0, []),
    (.putfield 213, 137, 2, 5, 0, 0, .inl 0, []),
    (.aload_n 1, 138, 1, 0, 0, 0, .inl 0, []),
    (.aload_n 0, 139, 0, 0, 0, 0, .inl 0, []),
    (.iconst 1, 140, 0, 0, 0, 0, .inl 1, []),
    (.bipush 20, 142, 0, 0, 0, 0, .inl 20, []),
    (.invokevirtual 139, 145, 45, 3, 0, 5, .inl 0, []),
    (.putfield 216, 148, 2, 6, 0, 0, .inl 0, []),
    (.aload_n 1, 149, 1, 0, 0, 0, .inl 0, []),
    (.aload_n 0, 150, 0, 0, 0, 0, .inl 0, []),
    (.invokevirtual 219, 153, 59, 1, 0, 5, .inl 0, []),
    (.invokevirtual 223, 156, 23, 2, 2, 2, .inl 0, []),
    (.goto 65, 159, 221, 0, 0, 0, .inl 0, [])]),
  (159, [(.aload_n 1, 160, 1, 0, 0, 0, .inl 0, []),
    (.aload_n 0, 161, 0, 0, 0, 0, .inl 0, []),
    (.iconst 1, 162, 0, 0, 0, 0, .inl 1, []),
    (.sipush 999, 165, 0, 0, 0, 0, .inl 999, []),
    (.invokevirtual 139, 168, 45, 3, 0, 5, .inl 0, []),
    (.putfield 226, 171, 2, 10, 0, 0, .inl 0, []),
    (.goto 50, 174, 221, 0, 0, 0, .inl 0, [])]),
  (174, [(.aload_n 1, 175, 1, 0, 0, 0, .inl 0, []),
    (.aload_n 0, 176, 0, 0, 0, 0, .inl 0, []),
    (.iconst 0, 177, 0, 0, 0, 0, .inl 0, []),
    (.bipush 20, 179, 0, 0, 0, 0, .inl 20, []),
    (.invokevirtual 139, 182, 45, 3, 0, 5, .inl 0, []),
    (.putfield 229, 185, 2, 11, 0, 0, .inl 0, []),
    (.goto 36, 188, 221, 0, 0, 0, .inl 0, [])]),
  (188, [(.aload_n 1, 189, 1, 0, 0, 0, .inl 0, []),
    (.aload_n 0, 190, 0, 0, 0, 0, .inl 0, []),
    (.iconst 0, 191, 0, 0, 0, 0, .inl 0, []),
    (.bipush 99, 193, 0, 0, 0, 0, .inl 99, []),
    (.invokevirtual 139, 196, 45, 3, 0, 5, .inl 0, []),
    (.putfield 232, 199, 2, 12, 0, 0, .inl 0, []),
    (.goto 22, 202, 221, 0, 0, 0, .inl 0, [])]),
  (202, [(.aload_n 1, 203, 1, 0, 0, 0, .inl 0, []),
    (.aload_n 0, 204, 0, 0, 0, 0, .inl 0, []),
    (.iconst 1, 205, 0, 0, 0, 0, .inl 1, []),
    (.bipush 9, 207, 0, 0, 0, 0, .inl 9, []),
    (.invokevirtual 139, 210, 45, 3, 0, 5, .inl 0, []),
    (.putfield 235, 213, 2, 14, 0, 0, .inl 0, []),
    (.goto 8, 216, 221, 0, 0, 0, .inl 0, [])]),
  (216, [(.aload_n 1, 217, 1, 0, 0, 0, .inl 0, []),
    (.iconst 1, 218, 0, 0, 0, 0, .inl 1, []),
    (.putfield 238, 221, 2, 13, 0, 0, .inl 0, [])]),
  (221, [(.iinc 3 1, 224, 3, 0, 0, 0, .inl 1, []),
    (.goto (-204), 227, 20, 0, 0, 0, .inl 0, [])]),
  (227, [(.aload_n 0, 228, 0, 0, 0, 0, .inl 0, []),
    (.getfield 29, 231, 5, 1, 2, 0, .inl 0, []),
    (.dup, 232, 0, 0, 0, 0, .inl 0, []),
    (.getfield 179, 235, 7, 8, 0, 0, .inl 0, []),
    (.iconst 1, 236, 0, 0, 0, 0, .inl 1, []),
    (.iadd, 237, 0, 0, 0, 0, .inl 0, []),
    (.putfield 179, 240, 7, 8, 0, 0, .inl 0, []),
    (.return_, 241, 0, 0, 0, 0, .inl 0, [])])]
def gT_X5_readDetails : gs_T := ([], gB_X5_readDetails, [(20, [0, 1, 2, 3])])
set_option maxRecDepth 100000 in
def gB_X5_readSides : List (Nat × List gs_N) := [(0, [(.aload_n 0, 1, 0, 0, 0, 0, .inl 0, []),
    (.getfield 18, 4, 5, 8, 2, 1, .inl 0, []),
    (.getfield 48, 7, 8, 5, 0, 0, .inl 0, []),
    (.invokestatic 241, 10, 60, 1, 0, 1, .inl 0, []),
    (.ifCond .ne 8, 13, 18, 0, 0, 0, .inl 0, []),
    (.aload_n 0, 14, 0, 0, 0, 0, .inl 0, []),
    (.iconst 1, 15, 0, 0, 0, 0, .inl 1, []),
    (.invokevirtual 82, 18, 43, 2, 2, 5, .inl 0, [])]),
  (18, [(.aload_n 0, 19, 0, 0, 0, 0, .inl 0, []),
    (.getfield 18, 22, 5, 8, 2, 1, .inl 0, []),
    (.getfield 48, 25, 8, 5, 0, 0, .inl 0, []),
    (.istore_n 1, 26, 1, 0, 0, 0, .inl 0, []),
    (.aload_n 0, 27, 0, 0, 0, 0, .inl 0, []),
    (.getfield 18, 30, 5, 8, 2, 1, .inl 0, []),
    (.invokevirtual 85, 33, 108, 1, 2, 8, .inl 0, []),
    (.aload_n 0, 34, 0, 0, 0, 0, .inl 0, []),
    (.getfield 18, 37, 5, 8, 2, 1, .inl 0, []),
    (.getfield 48, 40, 8, 5, 0, 0, .inl 0, []),
    (.invokestatic 241, 43, 60, 1, 0, 1, .inl 0, []),
    (.ifCond .ne 8, 46, 51, 0, 0, 0, .inl 0, []),
    (.iload_n 1, 47, 1, 0, 0, 0, .inl 0, []),
    (.invokestatic 245, 50, 61, 1, 0, 1, .inl 0, []),
    (.ireturn, 51, 0, 0, 0, 0, .inl 0, [])]),
  (51, [(.aload_n 0, 52, 0, 0, 0, 0, .inl 0, []),
    (.getfield 18, 55, 5, 8, 2, 1, .inl 0, []),
    (.getfield 48, 58, 8, 5, 0, 0, .inl 0, []),
    (.istore_n 2, 59, 2, 0, 0, 0, .inl 0, []),
    (.iload_n 1, 60, 1, 0, 0, 0, .inl 0, []),
    (.bipush 24, 62, 0, 0, 0, 0, .inl 24, []),
    (.if_icmp .gt 7, 65, 69, 0, 0, 0, .inl 0, []),
    (.iconst 1, 66, 0, 0, 0, 0, .inl 1, []),
    (.goto 4, 69, 70, 0, 0, 0, .inl 0, [])]),
  (69, [(.iconst 0, 70, 0, 0, 0, 0, .inl 0, [])]),
  (70, [(.iload_n 2, 71, 2, 0, 0, 0, .inl 0, []),
    (.bipush 24, 73, 0, 0, 0, 0, .inl 24, []),
    (.if_icmp .gt 7, 76, 80, 0, 0, 0, .inl 0, []),
    (.iconst 1, 77, 0, 0, 0, 0, .inl 1, []),
    (.goto 4, 80, 81, 0, 0, 0, .inl 0, [])]),
  (80, [(.iconst 0, 81, 0, 0, 0, 0, .inl 0, [])]),
  (81, [(.if_icmp .ne 8, 84, 89, 0, 0, 0, .inl 0, []),
    (.aload_n 0, 85, 0, 0, 0, 0, .inl 0, []),
    (.iconst 3, 86, 0, 0, 0, 0, .inl 3, []),
    (.invokevirtual 82, 89, 43, 2, 2, 5, .inl 0, [])]),
  (89, [(.aload_n 0, 90, 0, 0, 0, 0, .inl 0, []),
    (.getfield 18, 93, 5, 8, 2, 1, .inl 0, []),
    (.invokevirtual 85, 96, 108, 1, 2, 8, .inl 0, []),
    (.iload_n 1, 97, 1, 0, 0, 0, .inl 0, []),
    (.invokestatic 245, 100, 61, 1, 0, 1, .inl 0, []),
    (.iload_n 2, 101, 2, 0, 0, 0, .inl 0, []),
    (.invokestatic 245, 104, 61, 1, 0, 1, .inl 0, []),
    (.ior, 105, 0, 0, 0, 0, .inl 0, []),
    (.ireturn, 106, 0, 0, 0, 0, .inl 0, [])])]
def gT_X5_readSides : gs_T := ([], gB_X5_readSides, [])
set_option maxRecDepth 100000 in
def gB_X5_isSide : List (Nat × List gs_N) := [(0, [(.iload_n 0, 1, 0, 0, 0, 0, .inl 0, []),
    (.bipush 23, 3, 0, 0, 0, 0, .inl 23, []),
    (.if_icmp .lt 13, 6, 16, 0, 0, 0, .inl 0, []),
    (.iload_n 0, 7, 0, 0, 0, 0, .inl 0, []),
    (.bipush 26, 9, 0, 0, 0, 0, .inl 26, []),
    (.if_icmp .gt 7, 12, 16, 0, 0, 0, .inl 0, []),
    (.iconst 1, 13, 0, 0, 0, 0, .inl 1, []),
    (.goto 4, 16, 17, 0, 0, 0, .inl 0, [])]),
  (16, [(.iconst 0, 17, 0, 0, 0, 0, .inl 0, [])]),
  (17, [(.ireturn, 18, 1, 0, 0, 0, .inl 0, [])])]
def gT_X5_isSide : gs_T := ([], gB_X5_isSide, [])
set_option maxRecDepth 100000 in
def gB_X5_sideBit : List (Nat × List gs_N) := [(0, [(.iload_n 0, 1, 0, 0, 0, 0, .inl 0, []),
    (.tableswitch 33 23 25 #[27, 29, 31], 28, 34, 27, 0, 0, .inl 0, [(23, 28), (24, 30), (25, 32)])]),
  (28, [(.iconst 1, 29, 0, 0, 0, 0, .inl 1, []),
    (.ireturn, 30, 0, 0, 0, 0, .inl 0, [])]),
  (30, [(.iconst 2, 31, 0, 0, 0, 0, .inl 2, []),
    (.ireturn, 32, 0, 0, 0, 0, .inl 0, [])]),
  (32, [(.iconst 4, 33, 0, 0, 0, 0, .inl 4, []),
    (.ireturn, 34, 0, 0, 0, 0, .inl 0, [])]),
  (34, [(.bipush 8, 36, 0, 0, 0, 0, .inl 8, []),
    (.ireturn, 37, 0, 0, 0, 0, .inl 0, [])])]
def gT_X5_sideBit : gs_T := ([], gB_X5_sideBit, [])
set_option maxRecDepth 100000 in
def gB_X5_readCloud : List (Nat × List gs_N) := [(0, [(.aload_n 0, 1, 0, 0, 0, 0, .inl 0, []),
    (.aload_n 0, 2, 0, 0, 0, 0, .inl 0, []),
    (.getfield 29, 5, 5, 1, 2, 0, .inl 0, []),
    (.getfield 57, 8, 7, 9, 0, 0, .inl 0, []),
    (.bipush 10, 10, 0, 0, 0, 0, .inl 10, []),
    (.invokevirtual 150, 13, 48, 3, 2, 5, .inl 0, []),
    (.aload_n 0, 14, 0, 0, 0, 0, .inl 0, []),
    (.getfield 29, 17, 5, 1, 2, 0, .inl 0, []),
    (.getfield 60, 20, 7, 7, 2, 1, .inl 0, []),
    (.aload_n 0, 21, 0, 0, 0, 0, .inl 0, []),
    (.getfield 29, 24, 5, 1, 2, 0, .inl 0, []),
    (.getfield 57, 27, 7, 9, 0, 0, .inl 0, []),
    (.aaload, 28, 0, 0, 0, 0, .inl 0, []),
    (.astore_n 1, 29, 1, 0, 0, 0, .inl 0, []),
    (.aload_n 1, 30, 1, 0, 0, 0, .inl 0, []),
    (.aload_n 0, 31, 0, 0, 0, 0, .inl 0, []),
    (.iconst 0, 32, 0, 0, 0, 0, .inl 0, []),
    (.bipush 119, 34, 0, 0, 0, 0, .inl 119, []),
    (.invokevirtual 139, 37, 45, 3, 0, 5, .inl 0, []),
    (.putfield 248, 40, 0, 0, 0, 0, .inl 0, []),
    (.aload_n 1, 41, 1, 0, 0, 0, .inl 0, []),
    (.aload_n 0, 42, 0, 0, 0, 0, .inl 0, []),
    (.iconst 0, 43, 0, 0, 0, 0, .inl 0, []),
    (.bipush 59, 45, 0, 0, 0, 0, .inl 59, []),
    (.invokevirtual 139, 48, 45, 3, 0, 5, .inl 0, []),
    (.putfield 251, 51, 0, 1, 0, 0, .inl 0, []),
    (.aload_n 0, 52, 0, 0, 0, 0, .inl 0, []),
    (.bipush 14, 54, 0, 0, 0, 0, .inl 14, []),
    (.invokevirtual 54, 57, 44, 2, 2, 5, .inl 0, []),
    (.aload_n 1, 58, 1, 0, 0, 0, .inl 0, []),
    (.aload_n 0, 59, 0, 0, 0, 0, .inl 0, []),
    (.iconst 0, 60, 0, 0, 0, 0, .inl 0, []),
    (.sipush 2999, 63, 0, 0, 0, 0, .inl 2999, []),
    (.invokevirtual 139, 66, 45, 3, 0, 5, .inl 0, []),
    (.putfield 254, 69, 0, 2, 0, 0, .inl 0, []),
    (.aload_n 1, 70, 1, 0, 0, 0, .inl 0, []),
    (.aload_n 0, 71, 0, 0, 0, 0, .inl 0, []),
    (.iconst 1, 72, 0, 0, 0, 0, .inl 1, []),
    (.sipush 9999, 75, 0, 0, 0, 0, .inl 9999, []),
    (.invokevirtual 139, 78, 45, 3, 0, 5, .inl 0, []),
    (.putfield 257, 81, 0, 3, 0, 0, .inl 0, []),
    (.aload_n 0, 82, 0, 0, 0, 0, .inl 0, []),
    (.bipush 14, 84, 0, 0, 0, 0, .inl 14, []),
    (.invokevirtual 54, 87, 44, 2, 2, 5, .inl 0, []),
    (.aload_n 1, 88, 1, 0, 0, 0, .inl 0, []),
    (.aload_n 0, 89, 0, 0, 0, 0, .inl 0, []),
    (.aload_n 1, 90, 1, 0, 0, 0, .inl 0, []),
    (.getfield 254, 93, 0, 2, 0, 0, .inl 0, []),
    (.iconst 1, 94, 0, 0, 0, 0, .inl 1, []),
    (.iadd, 95, 0, 0, 0, 0, .inl 0, []),
    (.sipush 2999, 98, 0, 0, 0, 0, .inl 2999, []),
    (.invokevirtual 139, 101, 45, 3, 0, 5, .inl 0, []),
    (.putfield 260, 104, 0, 4, 0, 0, .inl 0, []),
    (.aload_n 1, 105, 1, 0, 0, 0, .inl 0, []),
    (.aload_n 0, 106, 0, 0, 0, 0, .inl 0, []),
    (.aload_n 1, 107, 1, 0, 0, 0, .inl 0, []),
    (.getfield 257, 110, 0, 3, 0, 0, .inl 0, []),
    (.iconst 1, 111, 0, 0, 0, 0, .inl 1, []),
    (.iadd, 112, 0, 0, 0, 0, .inl 0, []),
    (.sipush 9999, 115, 0, 0, 0, 0, .inl 9999, []),
    (.invokevirtual 139, 118, 45, 3, 0, 5, .inl 0, []),
    (.putfield 263, 121, 0, 5, 0, 0, .inl 0, []),
    (.aload_n 1, 122, 1, 0, 0, 0, .inl 0, []),
    (.bipush 10, 124, 0, 0, 0, 0, .inl 10, []),
    (.putfield 266, 127, 0, 6, 0, 0, .inl 0, []),
    (.aload_n 1, 128, 1, 0, 0, 0, .inl 0, []),
    (.iconst 0, 129, 0, 0, 0, 0, .inl 0, []),
    (.putfield 269, 132, 0, 7, 0, 0, .inl 0, []),
    (.aload_n 1, 133, 1, 0, 0, 0, .inl 0, []),
    (.iconst 0, 134, 0, 0, 0, 0, .inl 0, []),
    (.putfield 272, 137, 0, 8, 0, 0, .inl 0, []),
    (.iconst 0, 138, 0, 0, 0, 0, .inl 0, []),
    (.istore_n 2, 139, 2, 0, 0, 0, .inl 0, []),
    (.iconst 0, 140, 0, 0, 0, 0, .inl 0, []),
    (.istore_n 3, 141, 3, 0, 0, 0, .inl 0, [])]),
  (141, [(.iload_n 3, 142, 3, 0, 0, 0, .inl 0, []),
    (.iconst 3, 143, 0, 0, 0, 0, .inl 3, []),
    (.if_icmp .ge 101, 146, 244, 0, 0, 0, .inl 0, []),
    (.aload_n 0, 147, 0, 0, 0, 0, .inl 0, []),
    (.getfield 18, 150, 5, 8, 2, 1, .inl 0, []),
    (.getfield 48, 153, 8, 5, 0, 0, .inl 0, []),
    (.bipush 15, 155, 0, 0, 0, 0, .inl 15, []),
    (.if_icmp .eq 15, 158, 170, 0, 0, 0, .inl 0, []),
    (.aload_n 0, 159, 0, 0, 0, 0, .inl 0, []),
    (.getfield 18, 162, 5, 8, 2, 1, .inl 0, []),
    (.getfield 48, 165, 8, 5, 0, 0, .inl 0, []),
    (.bipush 16, 167, 0, 0, 0, 0, .inl 16, []),
    (.if_icmp .ne 77, 170, 244, 0, 0, 0, .inl 0, [])]),
  (170, [(.aload_n 0, 171, 0, 0, 0, 0, .inl 0, []),
    (.getfield 18, 174, 5, 8, 2, 1, .inl 0, []),
    (.getfield 48, 177, 8, 5, 0, 0, .inl 0, []),
    (.bipush 15, 179, 0, 0, 0, 0, .inl 15, []),
    (.if_icmp .ne 7, 182, 186, 0, 0, 0, .inl 0, []),
    (.iconst 1, 183, 0, 0, 0, 0, .inl 1, []),
    (.goto 4, 186, 187, 0, 0, 0, .inl 0, [])]),
  (186, [(.iconst 0, 187, 0, 0, 0, 0, .inl 0, [])]),
  (187, [(.istore 4, 189, 4, 0, 0, 0, .inl 0, []),
    (.aload_n 0, 190, 0, 0, 0, 0, .inl 0, []),
    (.iload_n 2, 191, 2, 0, 0, 0, .inl 0, []),
    (.invokevirtual 136, 194, 51, 2, 0, 5, .inl 0, []),
    (.istore_n 2, 195, 2, 0, 0, 0, .inl 0, []),
    (.iload 4, 197, 4, 0, 0, 0, .inl 0, []),
    (.ifCond .eq 17, 200, 214, 0, 0, 0, .inl 0, []),
    (.aload_n 1, 201, 1, 0, 0, 0, .inl 0, []),
    (.aload_n 0, 202, 0, 0, 0, 0, .inl 0, []),
    (.iconst 1, 203, 0, 0, 0, 0, .inl 1, []),
    (.bipush 10, 205, 0, 0, 0, 0, .inl 10, []),
    (.invokevirtual 139, 208, 45, 3, 0, 5, .inl 0, []),
    (.putfield 266, 211, 0, 6, 0, 0, .inl 0, []),
    (.goto 27, 214, 238, 0, 0, 0, .inl 0, [])]),
  (214, [(.aload_n 1, 215, 1, 0, 0, 0, .inl 0, []),
    (.aload_n 0, 216, 0, 0, 0, 0, .inl 0, []),
    (.iconst 1, 217, 0, 0, 0, 0, .inl 1, []),
    (.sipush 9999, 220, 0, 0, 0, 0, .inl 9999, []),
    (.invokevirtual 139, 223, 45, 3, 0, 5, .inl 0, []),
    (.putfield 269, 226, 0, 7, 0, 0, .inl 0, []),
    (.aload_n 1, 227, 1, 0, 0, 0, .inl 0, []),
    (.aload_n 0, 228, 0, 0, 0, 0, .inl 0, []),
    (.iconst 1, 229, 0, 0, 0, 0, .inl 1, []),
    (.sipush 9999, 232, 0, 0, 0, 0, .inl 9999, []),
    (.invokevirtual 139, 235, 45, 3, 0, 5, .inl 0, []),
    (.putfield 272, 238, 0, 8, 0, 0, .inl 0, [])]),
  (238, [(.iinc 3 1, 241, 3, 0, 0, 0, .inl 1, []),
    (.goto (-100), 244, 141, 0, 0, 0, .inl 0, [])]),
  (244, [(.aload_n 0, 245, 0, 0, 0, 0, .inl 0, []),
    (.getfield 29, 248, 5, 1, 2, 0, .inl 0, []),
    (.dup, 249, 0, 0, 0, 0, .inl 0, []),
    (.getfield 57, 252, 7, 9, 0, 0, .inl 0, []),
    (.iconst 1, 253, 0, 0, 0, 0, .inl 1, []),
    (.iadd, 254, 0, 0, 0, 0, .inl 0, []),
    (.putfield 57, 257, 7, 9, 0, 0, .inl 0, []),
    (.return_, 258, 0, 0, 0, 0, .inl 0, [])])]
def gT_X5_readCloud : gs_T := ([], gB_X5_readCloud, [(141, [0, 1, 2, 3])])
set_option maxRecDepth 100000 in
def gB_X5_readSort : List (Nat × List gs_N) := [(0, [(.aload_n 0, 1, 0, 0, 0, 0, .inl 0, []),
    (.aload_n 0, 2, 0, 0, 0, 0, .inl 0, []),
    (.getfield 29, 5, 5, 1, 2, 0, .inl 0, []),
    (.getfield 275, 8, 7, 3, 2, 1, .inl 0, []),
    (.getfield 147, 11, 3, 3, 0, 0, .inl 0, []),
    (.bipush 6, 13, 0, 0, 0, 0, .inl 6, []),
    (.invokevirtual 150, 16, 48, 3, 2, 5, .inl 0, []),
    (.aload_n 0, 17, 0, 0, 0, 0, .inl 0, []),
    (.aload_n 0, 18, 0, 0, 0, 0, .inl 0, []),
    (.getfield 29, 21, 5, 1, 2, 0, .inl 0, []),
    (.getfield 275, 24, 7, 3, 2, 1, .inl 0, []),
    (.invokevirtual 154, 27, 46, 2, 0, 5, .inl 0, []),
    (.istore_n 1, 28, 1, 0, 0, 0, .inl 0, []),
    (.aload_n 0, 29, 0, 0, 0, 0, .inl 0, []),
    (.iconst 1, 30, 0, 0, 0, 0, .inl 1, []),
    (.bipush 99, 32, 0, 0, 0, 0, .inl 99, []),
    (.invokevirtual 139, 35, 45, 3, 0, 5, .inl 0, []),
    (.istore_n 2, 36, 2, 0, 0, 0, .inl 0, []),
    (.aload_n 0, 37, 0, 0, 0, 0, .inl 0, []),
    (.iconst 0, 38, 0, 0, 0, 0, .inl 0, []),
    (.putfield 278, 41, 5, 2, 0, 0, .inl 0, []),
    (.aload_n 0, 42, 0, 0, 0, 0, .inl 0, []),
    (.iconst 0, 43, 0, 0, 0, 0, .inl 0, []),
    (.putfield 281, 46, 5, 3, 0, 0, .inl 0, []),
    (.aload_n 0, 47, 0, 0, 0, 0, .inl 0, []),
    (.iconst 1, 48, 0, 0, 0, 0, .inl 1, []),
    (.putfield 284, 51, 5, 5, 3, 0, .inl 0, []),
    (.aload_n 0, 52, 0, 0, 0, 0, .inl 0, []),
    (.iconst 1, 53, 0, 0, 0, 0, .inl 1, []),
    (.putfield 288, 56, 5, 6, 3, 0, .inl 0, []),
    (.iconst 1, 57, 0, 0, 0, 0, .inl 1, []),
    (.istore_n 3, 58, 3, 0, 0, 0, .inl 0, []),
    (.iconst 0, 59, 0, 0, 0, 0, .inl 0, []),
    (.istore 4, 61, 4, 0, 0, 0, .inl 0, [])]),
  (61, [(.iload 4, 63, 4, 0, 0, 0, .inl 0, []),
    (.sipush 800, 66, 0, 0, 0, 0, .inl 800, []),
    (.if_icmp .ge 32, 69, 98, 0, 0, 0, .inl 0, []),
    (.iload_n 3, 70, 3, 0, 0, 0, .inl 0, []),
    (.ifCond .eq 28, 73, 98, 0, 0, 0, .inl 0, []),
    (.aload_n 0, 74, 0, 0, 0, 0, .inl 0, []),
    (.getfield 284, 77, 5, 5, 3, 0, .inl 0, []),
    (.ifCond .eq 10, 80, 87, 0, 0, 0, .inl 0, []),
    (.aload_n 0, 81, 0, 0, 0, 0, .inl 0, []),
    (.invokevirtual 291, 84, 64, 1, 2, 5, .inl 0, []),
    (.goto 8, 87, 92, 0, 0, 0, .inl 0, [])]),
  (87, [(.aload_n 0, 88, 0, 0, 0, 0, .inl 0, []),
    (.invokevirtual 294, 91, 65, 1, 0, 5, .inl 0, []),
    (.istore_n 3, 92, 3, 0, 0, 0, .inl 0, [])]),
  (92, [(.iinc 4 1, 95, 4, 0, 0, 0, .inl 1, []),
    (.goto (-34), 98, 61, 0, 0, 0, .inl 0, [])]),
  (98, [(.aload_n 0, 99, 0, 0, 0, 0, .inl 0, []),
    (.getfield 281, 102, 5, 3, 0, 0, .inl 0, []),
    (.ifCond .le 8, 105, 110, 0, 0, 0, .inl 0, []),
    (.aload_n 0, 106, 0, 0, 0, 0, .inl 0, []),
    (.iconst 1, 107, 0, 0, 0, 0, .inl 1, []),
    (.invokevirtual 82, 110, 43, 2, 2, 5, .inl 0, [])]),
  (110, [(.aload_n 0, 111, 0, 0, 0, 0, .inl 0, []),
    (.iconst 1, 112, 0, 0, 0, 0, .inl 1, []),
    (.invokevirtual 298, 115, 68, 2, 2, 5, .inl 0, []),
    (.aload_n 0, 116, 0, 0, 0, 0, .inl 0, []),
    (.getfield 29, 119, 5, 1, 2, 0, .inl 0, []),
    (.getfield 275, 122, 7, 3, 2, 1, .inl 0, []),
    (.iload_n 1, 123, 1, 0, 0, 0, .inl 0, []),
    (.iload_n 2, 124, 2, 0, 0, 0, .inl 0, []),
    (.aload_n 0, 125, 0, 0, 0, 0, .inl 0, []),
    (.getfield 29, 128, 5, 1, 2, 0, .inl 0, []),
    (.getfield 301, 131, 7, 4, 2, 1, .inl 0, []),
    (.getfield 305, 134, 6, 3, 0, 0, .inl 0, []),
    (.invokevirtual 158, 137, 26, 4, 2, 3, .inl 0, []),
    (.return_, 138, 0, 0, 0, 0, .inl 0, [])])]
def gT_X5_readSort : gs_T := ([], gB_X5_readSort, [(61, [0, 1, 2, 3, 4])])
set_option maxRecDepth 100000 in
def gB_X5_readOperand : List (Nat × List gs_N) := [(0, [(.aload_n 0, 1, 0, 0, 0, 0, .inl 0, []),
    (.getfield 18, 4, 5, 8, 2, 1, .inl 0, []),
    (.getfield 48, 7, 8, 5, 0, 0, .inl 0, []),
    (.istore_n 1, 8, 1, 0, 0, 0, .inl 0, []),
    (.iload_n 1, 9, 1, 0, 0, 0, .inl 0, []),
    (.bipush 37, 11, 0, 0, 0, 0, .inl 37, []),
    (.if_icmp .ne 41, 14, 52, 0, 0, 0, .inl 0, []),
    (.aload_n 0, 15, 0, 0, 0, 0, .inl 0, []),
    (.getfield 281, 18, 5, 3, 0, 0, .inl 0, []),
    (.bipush 8, 20, 0, 0, 0, 0, .inl 8, []),
    (.if_icmp .ne 8, 23, 28, 0, 0, 0, .inl 0, []),
    (.aload_n 0, 24, 0, 0, 0, 0, .inl 0, []),
    (.iconst 2, 25, 0, 0, 0, 0, .inl 2, []),
    (.invokevirtual 82, 28, 43, 2, 2, 5, .inl 0, [])]),
  (28, [(.aload_n 0, 29, 0, 0, 0, 0, .inl 0, []),
    (.dup, 30, 0, 0, 0, 0, .inl 0, []),
    (.getfield 281, 33, 5, 3, 0, 0, .inl 0, []),
    (.iconst 1, 34, 0, 0, 0, 0, .inl 1, []),
    (.iadd, 35, 0, 0, 0, 0, .inl 0, []),
    (.putfield 281, 38, 5, 3, 0, 0, .inl 0, []),
    (.aload_n 0, 39, 0, 0, 0, 0, .inl 0, []),
    (.bipush 37, 41, 0, 0, 0, 0, .inl 37, []),
    (.invokevirtual 308, 44, 67, 2, 2, 5, .inl 0, []),
    (.aload_n 0, 45, 0, 0, 0, 0, .inl 0, []),
    (.iconst 1, 46, 0, 0, 0, 0, .inl 1, []),
    (.putfield 288, 49, 5, 6, 3, 0, .inl 0, []),
    (.goto 101, 52, 150, 0, 0, 0, .inl 0, [])]),
  (52, [(.iload_n 1, 53, 1, 0, 0, 0, .inl 0, []),
    (.bipush 29, 55, 0, 0, 0, 0, .inl 29, []),
    (.if_icmp .ne 23, 58, 78, 0, 0, 0, .inl 0, []),
    (.aload_n 0, 59, 0, 0, 0, 0, .inl 0, []),
    (.getfield 288, 62, 5, 6, 3, 0, .inl 0, []),
    (.ifCond .eq 16, 65, 78, 0, 0, 0, .inl 0, []),
    (.aload_n 0, 66, 0, 0, 0, 0, .inl 0, []),
    (.invokevirtual 311, 69, 66, 1, 2, 5, .inl 0, []),
    (.aload_n 0, 70, 0, 0, 0, 0, .inl 0, []),
    (.bipush 29, 72, 0, 0, 0, 0, .inl 29, []),
    (.invokevirtual 308, 75, 67, 2, 2, 5, .inl 0, []),
    (.goto 75, 78, 150, 0, 0, 0, .inl 0, [])]),
  (78, [(.iload_n 1, 79, 1, 0, 0, 0, .inl 0, []),
    (.bipush 33, 81, 0, 0, 0, 0, .inl 33, []),
    (.if_icmp .eq 10, 84, 91, 0, 0, 0, .inl 0, []),
    (.iload_n 1, 85, 1, 0, 0, 0, .inl 0, []),
    (.invokestatic 314, 88, 69, 1, 0, 1, .inl 0, []),
    (.ifCond .eq 57, 91, 145, 0, 0, 0, .inl 0, [])]),
  (91, [(.aload_n 0, 92, 0, 0, 0, 0, .inl 0, []),
    (.invokevirtual 311, 95, 66, 1, 2, 5, .inl 0, []),
    (.iload_n 1, 96, 1, 0, 0, 0, .inl 0, []),
    (.bipush 33, 98, 0, 0, 0, 0, .inl 33, []),
    (.if_icmp .ne 21, 101, 119, 0, 0, 0, .inl 0, []),
    (.aload_n 0, 102, 0, 0, 0, 0, .inl 0, []),
    (.getfield 18, 105, 5, 8, 2, 1, .inl 0, []),
    (.getfield 88, 108, 8, 7, 0, 0, .inl 0, []),
    (.sipush 9999, 111, 0, 0, 0, 0, .inl 9999, []),
    (.if_icmp .le 8, 114, 119, 0, 0, 0, .inl 0, []),
    (.aload_n 0, 115, 0, 0, 0, 0, .inl 0, []),
    (.iconst 2, 116, 0, 0, 0, 0, .inl 2, []),
    (.invokevirtual 82, 119, 43, 2, 2, 5, .inl 0, [])]),
  (119, [(.aload_n 0, 120, 0, 0, 0, 0, .inl 0, []),
    (.getfield 29, 123, 5, 1, 2, 0, .inl 0, []),
    (.getfield 301, 126, 7, 4, 2, 1, .inl 0, []),
    (.iload_n 1, 127, 1, 0, 0, 0, .inl 0, []),
    (.aload_n 0, 128, 0, 0, 0, 0, .inl 0, []),
    (.getfield 18, 131, 5, 8, 2, 1, .inl 0, []),
    (.getfield 88, 134, 8, 7, 0, 0, .inl 0, []),
    (.invokevirtual 317, 137, 72, 3, 2, 6, .inl 0, []),
    (.aload_n 0, 138, 0, 0, 0, 0, .inl 0, []),
    (.iconst 0, 139, 0, 0, 0, 0, .inl 0, []),
    (.putfield 284, 142, 5, 5, 3, 0, .inl 0, []),
    (.goto 8, 145, 150, 0, 0, 0, .inl 0, [])]),
  (145, [(.aload_n 0, 146, 0, 0, 0, 0, .inl 0, []),
    (.iconst 1, 147, 0, 0, 0, 0, .inl 1, []),
    (.invokevirtual 82, 150, 43, 2, 2, 5, .inl 0, [])]),
  (150, [(.aload_n 0, 151, 0, 0, 0, 0, .inl 0, []),
    (.getfield 18, 154, 5, 8, 2, 1, .inl 0, []),
    (.invokevirtual 85, 157, 108, 1, 2, 8, .inl 0, []),
    (.return_, 158, 0, 0, 0, 0, .inl 0, [])])]
def gT_X5_readOperand : gs_T := ([], gB_X5_readOperand, [(91, [0, 1])])
end
section
set_option maxRecDepth 100000 in
def gB_X5_readOperator : List (Nat × List gs_N) := [(0, [(.aload_n 0, 1, 0, 0, 0, 0, .inl 0, []),
    (.getfield 18, 4, 5, 8, 2, 1, .inl 0, []),
    (.getfield 48, 7, 8, 5, 0, 0, .inl 0, []),
    (.istore_n 1, 8, 1, 0, 0, 0, .inl 0, []),
    (.iload_n 1, 9, 1, 0, 0, 0, .inl 0, []),
    (.bipush 38, 11, 0, 0, 0, 0, .inl 38, []),
    (.if_icmp .ne 48, 14, 59, 0, 0, 0, .inl 0, []),
    (.aload_n 0, 15, 0, 0, 0, 0, .inl 0, []),
    (.getfield 281, 18, 5, 3, 0, 0, .inl 0, []),
    (.ifCond .le 41, 21, 59, 0, 0, 0, .inl 0, []),
    (.aload_n 0, 22, 0, 0, 0, 0, .inl 0, []),
    (.iconst 1, 23, 0, 0, 0, 0, .inl 1, []),
    (.invokevirtual 298, 26, 68, 2, 2, 5, .inl 0, []),
    (.aload_n 0, 27, 0, 0, 0, 0, .inl 0, []),
    (.iconst 0, 28, 0, 0, 0, 0, .inl 0, []),
    (.aload_n 0, 29, 0, 0, 0, 0, .inl 0, []),
    (.getfield 278, 32, 5, 2, 0, 0, .inl 0, []),
    (.iconst 1, 33, 0, 0, 0, 0, .inl 1, []),
    (.isub, 34, 0, 0, 0, 0, .inl 0, []),
    (.invokestatic 319, 37, 312, 2, 0, 1, .inl 0, []),
    (.putfield 278, 40, 5, 2, 0, 0, .inl 0, []),
    (.aload_n 0, 41, 0, 0, 0, 0, .inl 0, []),
    (.dup, 42, 0, 0, 0, 0, .inl 0, []),
    (.getfield 281, 45, 5, 3, 0, 0, .inl 0, []),
    (.iconst 1, 46, 0, 0, 0, 0, .inl 1, []),
    (.isub, 47, 0, 0, 0, 0, .inl 0, []),
    (.putfield 281, 50, 5, 3, 0, 0, .inl 0, []),
    (.aload_n 0, 51, 0, 0, 0, 0, .inl 0, []),
    (.getfield 18, 54, 5, 8, 2, 1, .inl 0, []),
    (.invokevirtual 85, 57, 108, 1, 2, 8, .inl 0, []),
    (.iconst 1, 58, 0, 0, 0, 0, .inl 1, []),
    (.ireturn, 59, 1, 0, 0, 0, .inl 0, [])]),
  (59, [(.iload_n 1, 60, 1, 0, 0, 0, .inl 0, []),
    (.invokestatic 324, 63, 74, 1, 0, 1, .inl 0, []),
    (.ifCond .ne 5, 66, 68, 0, 0, 0, .inl 0, []),
    (.iconst 0, 67, 0, 0, 0, 0, .inl 0, []),
    (.ireturn, 68, 1, 0, 0, 0, .inl 0, [])]),
  (68, [(.iload_n 1, 69, 1, 0, 0, 0, .inl 0, []),
    (.invokestatic 327, 72, 70, 1, 0, 1, .inl 0, []),
    (.istore_n 2, 73, 2, 0, 0, 0, .inl 0, []),
    (.iload_n 2, 74, 2, 0, 0, 0, .inl 0, []),
    (.iconst 4, 75, 0, 0, 0, 0, .inl 4, []),
    (.if_icmp .ne 7, 78, 82, 0, 0, 0, .inl 0, []),
    (.iconst 1, 79, 0, 0, 0, 0, .inl 1, []),
    (.goto 4, 82, 83, 0, 0, 0, .inl 0, [])]),
  (82, [(.iconst 0, 83, 0, 0, 0, 0, .inl 0, [])]),
  (83, [(.istore_n 3, 84, 3, 0, 0, 0, .inl 0, []),
    (.aload_n 0, 85, 0, 0, 0, 0, .inl 0, []),
    (.iload_n 3, 86, 3, 0, 0, 0, .inl 0, []),
    (.ifCond .eq 9, 89, 95, 0, 0, 0, .inl 0, []),
    (.iload_n 2, 90, 2, 0, 0, 0, .inl 0, []),
    (.iconst 1, 91, 0, 0, 0, 0, .inl 1, []),
    (.iadd, 92, 0, 0, 0, 0, .inl 0, []),
    (.goto 4, 95, 96, 0, 0, 0, .inl 0, [])]),
  (95, [(.iload_n 2, 96, 2, 0, 0, 0, .inl 0, [])]),
  (96, [(.invokevirtual 298, 99, 68, 2, 2, 5, .inl 0, []),
    (.iload_n 3, 100, 3, 0, 0, 0, .inl 0, []),
    (.ifCond .eq 33, 103, 133, 0, 0, 0, .inl 0, []),
    (.aload_n 0, 104, 0, 0, 0, 0, .inl 0, []),
    (.getfield 278, 107, 5, 2, 0, 0, .inl 0, []),
    (.ifCond .le 26, 110, 133, 0, 0, 0, .inl 0, []),
    (.aload_n 0, 111, 0, 0, 0, 0, .inl 0, []),
    (.getfield 9, 114, 5, 0, 2, 1, .inl 0, []),
    (.aload_n 0, 115, 0, 0, 0, 0, .inl 0, []),
    (.getfield 278, 118, 5, 2, 0, 0, .inl 0, []),
    (.iconst 1, 119, 0, 0, 0, 0, .inl 1, []),
    (.isub, 120, 0, 0, 0, 0, .inl 0, []),
    (.iaload, 121, 0, 0, 0, 0, .inl 0, []),
    (.invokestatic 327, 124, 70, 1, 0, 1, .inl 0, []),
    (.iload_n 2, 125, 2, 0, 0, 0, .inl 0, []),
    (.if_icmp .ne 8, 128, 133, 0, 0, 0, .inl 0, []),
    (.aload_n 0, 129, 0, 0, 0, 0, .inl 0, []),
    (.iconst 1, 130, 0, 0, 0, 0, .inl 1, []),
    (.invokevirtual 82, 133, 43, 2, 2, 5, .inl 0, [])]),
  (133, [(.aload_n 0, 134, 0, 0, 0, 0, .inl 0, []),
    (.invokevirtual 311, 137, 66, 1, 2, 5, .inl 0, []),
    (.aload_n 0, 138, 0, 0, 0, 0, .inl 0, []),
    (.iload_n 1, 139, 1, 0, 0, 0, .inl 0, []),
    (.invokevirtual 308, 142, 67, 2, 2, 5, .inl 0, []),
    (.aload_n 0, 143, 0, 0, 0, 0, .inl 0, []),
    (.iconst 1, 144, 0, 0, 0, 0, .inl 1, []),
    (.putfield 284, 147, 5, 5, 3, 0, .inl 0, []),
    (.aload_n 0, 148, 0, 0, 0, 0, .inl 0, []),
    (.iload_n 2, 149, 2, 0, 0, 0, .inl 0, []),
    (.iconst 3, 150, 0, 0, 0, 0, .inl 3, []),
    (.if_icmp .ge 7, 153, 157, 0, 0, 0, .inl 0, []),
    (.iconst 1, 154, 0, 0, 0, 0, .inl 1, []),
    (.goto 4, 157, 158, 0, 0, 0, .inl 0, [])]),
  (157, [(.iconst 0, 158, 0, 0, 0, 0, .inl 0, [])]),
  (158, [(.putfield 288, 161, 5, 6, 3, 0, .inl 0, []),
    (.aload_n 0, 162, 0, 0, 0, 0, .inl 0, []),
    (.getfield 18, 165, 5, 8, 2, 1, .inl 0, []),
    (.invokevirtual 85, 168, 108, 1, 2, 8, .inl 0, []),
    (.iconst 1, 169, 0, 0, 0, 0, .inl 1, []),
    (.ireturn, 170, 1, 0, 0, 0, .inl 0, [])])]
def gT_X5_readOperator : gs_T := ([], gB_X5_readOperator, [(133, [0, 1, 2])])
set_option maxRecDepth 100000 in
def gB_X5_countKnot : List (Nat × List gs_N) := [(0, [(.aload_n 0, 1, 0, 0, 0, 0, .inl 0, []),
    (.getfield 38, 4, 5, 4, 0, 0, .inl 0, []),
    (.bipush 64, 6, 0, 0, 0, 0, .inl 64, []),
    (.if_icmp .lt 8, 9, 14, 0, 0, 0, .inl 0, []),
    (.aload_n 0, 10, 0, 0, 0, 0, .inl 0, []),
    (.iconst 2, 11, 0, 0, 0, 0, .inl 2, []),
    (.invokevirtual 82, 14, 43, 2, 2, 5, .inl 0, [])]),
  (14, [(.aload_n 0, 15, 0, 0, 0, 0, .inl 0, []),
    (.dup, 16, 0, 0, 0, 0, .inl 0, []),
    (.getfield 38, 19, 5, 4, 0, 0, .inl 0, []),
    (.iconst 1, 20, 0, 0, 0, 0, .inl 1, []),
    (.iadd, 21, 0, 0, 0, 0, .inl 0, []),
    (.putfield 38, 24, 5, 4, 0, 0, .inl 0, []),
    (.return_, 25, 0, 0, 0, 0, .inl 0, [])])]
def gT_X5_countKnot : gs_T := ([], gB_X5_countKnot, [])
set_option maxRecDepth 100000 in
def gB_X5_pushPending : List (Nat × List gs_N) := [(0, [(.aload_n 0, 1, 0, 0, 0, 0, .inl 0, []),
    (.getfield 278, 4, 5, 2, 0, 0, .inl 0, []),
    (.aload_n 0, 5, 0, 0, 0, 0, .inl 0, []),
    (.getfield 9, 8, 5, 0, 2, 1, .inl 0, []),
    (.arraylength, 9, 0, 0, 0, 0, .inl 0, []),
    (.if_icmp .ge 23, 12, 32, 0, 0, 0, .inl 0, []),
    (.aload_n 0, 13, 0, 0, 0, 0, .inl 0, []),
    (.getfield 9, 16, 5, 0, 2, 1, .inl 0, []),
    (.aload_n 0, 17, 0, 0, 0, 0, .inl 0, []),
    (.getfield 278, 20, 5, 2, 0, 0, .inl 0, []),
    (.iload_n 1, 21, 1, 0, 0, 0, .inl 0, []),
    (.iastore, 22, 0, 0, 0, 0, .inl 0, []),
    (.aload_n 0, 23, 0, 0, 0, 0, .inl 0, []),
    (.dup, 24, 0, 0, 0, 0, .inl 0, []),
    (.getfield 278, 27, 5, 2, 0, 0, .inl 0, []),
    (.iconst 1, 28, 0, 0, 0, 0, .inl 1, []),
    (.iadd, 29, 0, 0, 0, 0, .inl 0, []),
    (.putfield 278, 32, 5, 2, 0, 0, .inl 0, [])]),
  (32, [(.return_, 33, 0, 0, 0, 0, .inl 0, [])])]
def gT_X5_pushPending : gs_T := ([], gB_X5_pushPending, [])
set_option maxRecDepth 100000 in
def gB_X5_settlePending : List (Nat × List gs_N) := [(0, [(.aload_n 0, 1, 0, 0, 0, 0, .inl 0, []),
    (.getfield 278, 4, 5, 2, 0, 0, .inl 0, []),
    (.ifCond .le 54, 7, 58, 0, 0, 0, .inl 0, []),
    (.aload_n 0, 8, 0, 0, 0, 0, .inl 0, []),
    (.getfield 9, 11, 5, 0, 2, 1, .inl 0, []),
    (.aload_n 0, 12, 0, 0, 0, 0, .inl 0, []),
    (.getfield 278, 15, 5, 2, 0, 0, .inl 0, []),
    (.iconst 1, 16, 0, 0, 0, 0, .inl 1, []),
    (.isub, 17, 0, 0, 0, 0, .inl 0, []),
    (.iaload, 18, 0, 0, 0, 0, .inl 0, []),
    (.invokestatic 327, 21, 70, 1, 0, 1, .inl 0, []),
    (.iload_n 1, 22, 1, 0, 0, 0, .inl 0, []),
    (.if_icmp .lt 36, 25, 58, 0, 0, 0, .inl 0, []),
    (.aload_n 0, 26, 0, 0, 0, 0, .inl 0, []),
    (.dup, 27, 0, 0, 0, 0, .inl 0, []),
    (.getfield 278, 30, 5, 2, 0, 0, .inl 0, []),
    (.iconst 1, 31, 0, 0, 0, 0, .inl 1, []),
    (.isub, 32, 0, 0, 0, 0, .inl 0, []),
    (.putfield 278, 35, 5, 2, 0, 0, .inl 0, []),
    (.aload_n 0, 36, 0, 0, 0, 0, .inl 0, []),
    (.getfield 29, 39, 5, 1, 2, 0, .inl 0, []),
    (.getfield 301, 42, 7, 4, 2, 1, .inl 0, []),
    (.aload_n 0, 43, 0, 0, 0, 0, .inl 0, []),
    (.getfield 9, 46, 5, 0, 2, 1, .inl 0, []),
    (.aload_n 0, 47, 0, 0, 0, 0, .inl 0, []),
    (.getfield 278, 50, 5, 2, 0, 0, .inl 0, []),
    (.iaload, 51, 0, 0, 0, 0, .inl 0, []),
    (.iconst 0, 52, 0, 0, 0, 0, .inl 0, []),
    (.invokevirtual 317, 55, 72, 3, 2, 6, .inl 0, []),
    (.goto (-55), 58, 0, 0, 0, 0, .inl 0, [])]),
  (58, [(.return_, 59, 0, 0, 0, 0, .inl 0, [])])]
def gT_X5_settlePending : gs_T := ([], gB_X5_settlePending, [(0, [0, 1])])
set_option maxRecDepth 100000 in
def gB_X5_isRuleName : List (Nat × List gs_N) := [(0, [(.iload_n 0, 1, 0, 0, 0, 0, .inl 0, []),
    (.bipush 8, 3, 0, 0, 0, 0, .inl 8, []),
    (.if_icmp .lt 9, 6, 12, 0, 0, 0, .inl 0, []),
    (.iload_n 0, 7, 0, 0, 0, 0, .inl 0, []),
    (.bipush 10, 9, 0, 0, 0, 0, .inl 10, []),
    (.if_icmp .le 21, 12, 30, 0, 0, 0, .inl 0, [])]),
  (12, [(.iload_n 0, 13, 0, 0, 0, 0, .inl 0, []),
    (.bipush 12, 15, 0, 0, 0, 0, .inl 12, []),
    (.if_icmp .eq 15, 18, 30, 0, 0, 0, .inl 0, []),
    (.iload_n 0, 19, 0, 0, 0, 0, .inl 0, []),
    (.bipush 30, 21, 0, 0, 0, 0, .inl 30, []),
    (.if_icmp .eq 9, 24, 30, 0, 0, 0, .inl 0, []),
    (.iload_n 0, 25, 0, 0, 0, 0, .inl 0, []),
    (.bipush 31, 27, 0, 0, 0, 0, .inl 31, []),
    (.if_icmp .ne 7, 30, 34, 0, 0, 0, .inl 0, [])]),
  (30, [(.iconst 1, 31, 0, 0, 0, 0, .inl 1, []),
    (.goto 4, 34, 35, 0, 0, 0, .inl 0, [])]),
  (34, [(.iconst 0, 35, 0, 0, 0, 0, .inl 0, [])]),
  (35, [(.ireturn, 36, 1, 0, 0, 0, .inl 0, [])])]
def gT_X5_isRuleName : gs_T := ([], gB_X5_isRuleName, [])
set_option maxRecDepth 100000 in
def gB_X5_rankOf : List (Nat × List gs_N) := [(0, [(.iload_n 0, 1, 0, 0, 0, 0, .inl 0, []),
    (.tableswitch 116 27 48 #[105, 107, 109, 116, 116, 116, 116, 116, 116, 116, 103, 116, 116, 116, 116, 116, 116, 116, 111, 111, 113, 113], 104, 117, 103, 0, 0, .inl 0, [(27, 106), (28, 108), (29, 110), (37, 104), (45, 112), (46, 112), (47, 114), (48, 114)])]),
  (104, [(.iconst 0, 105, 0, 0, 0, 0, .inl 0, []),
    (.ireturn, 106, 0, 0, 0, 0, .inl 0, [])]),
  (106, [(.iconst 1, 107, 0, 0, 0, 0, .inl 1, []),
    (.ireturn, 108, 0, 0, 0, 0, .inl 0, [])]),
  (108, [(.iconst 2, 109, 0, 0, 0, 0, .inl 2, []),
    (.ireturn, 110, 0, 0, 0, 0, .inl 0, [])]),
  (110, [(.iconst 3, 111, 0, 0, 0, 0, .inl 3, []),
    (.ireturn, 112, 0, 0, 0, 0, .inl 0, [])]),
  (112, [(.iconst 5, 113, 0, 0, 0, 0, .inl 5, []),
    (.ireturn, 114, 0, 0, 0, 0, .inl 0, [])]),
  (114, [(.bipush 6, 116, 0, 0, 0, 0, .inl 6, []),
    (.ireturn, 117, 0, 0, 0, 0, .inl 0, [])]),
  (117, [(.iconst 4, 118, 0, 0, 0, 0, .inl 4, []),
    (.ireturn, 119, 0, 0, 0, 0, .inl 0, [])])]
def gT_X5_rankOf : gs_T := ([], gB_X5_rankOf, [])
set_option maxRecDepth 100000 in
def gB_X6_init : List (Nat × List gs_N) := [(0, [(.aload_n 0, 1, 0, 0, 0, 0, .inl 0, []),
    (.invokespecial 3, 4, 9000, 1, 2, 92, .inl 0, []),
    (.aload_n 0, 5, 0, 0, 0, 0, .inl 0, []),
    (.bipush 64, 7, 0, 0, 0, 0, .inl 64, []),
    (.newarray .int, 9, 13, 0, 0, 0, .inl 0, []),
    (.putfield 9, 12, 6, 0, 2, 1, .inl 0, []),
    (.aload_n 0, 13, 0, 0, 0, 0, .inl 0, []),
    (.bipush 64, 15, 0, 0, 0, 0, .inl 64, []),
    (.newarray .int, 17, 13, 0, 0, 0, .inl 0, []),
    (.putfield 15, 20, 6, 1, 2, 1, .inl 0, []),
    (.aload_n 0, 21, 0, 0, 0, 0, .inl 0, []),
    (.bipush 64, 23, 0, 0, 0, 0, .inl 64, []),
    (.newarray .long, 25, 14, 0, 0, 0, .inl 0, []),
    (.putfield 18, 28, 6, 2, 2, 1, .inl 0, []),
    (.return_, 29, 0, 0, 0, 0, .inl 0, [])])]
def gT_X6_init : gs_T := ([], gB_X6_init, [])
set_option maxRecDepth 100000 in
def gB_X6_add : List (Nat × List gs_N) := [(0, [(.aload_n 0, 1, 0, 0, 0, 0, .inl 0, []),
    (.getfield 22, 4, 6, 3, 0, 0, .inl 0, []),
    (.bipush 64, 6, 0, 0, 0, 0, .inl 64, []),
    (.if_icmp .ge 33, 9, 39, 0, 0, 0, .inl 0, []),
    (.aload_n 0, 10, 0, 0, 0, 0, .inl 0, []),
    (.getfield 9, 13, 6, 0, 2, 1, .inl 0, []),
    (.aload_n 0, 14, 0, 0, 0, 0, .inl 0, []),
    (.getfield 22, 17, 6, 3, 0, 0, .inl 0, []),
    (.iload_n 1, 18, 1, 0, 0, 0, .inl 0, []),
    (.iastore, 19, 0, 0, 0, 0, .inl 0, []),
    (.aload_n 0, 20, 0, 0, 0, 0, .inl 0, []),
    (.getfield 15, 23, 6, 1, 2, 1, .inl 0, []),
    (.aload_n 0, 24, 0, 0, 0, 0, .inl 0, []),
    (.getfield 22, 27, 6, 3, 0, 0, .inl 0, []),
    (.iload_n 2, 28, 2, 0, 0, 0, .inl 0, []),
    (.iastore, 29, 0, 0, 0, 0, .inl 0, []),
    (.aload_n 0, 30, 0, 0, 0, 0, .inl 0, []),
    (.dup, 31, 0, 0, 0, 0, .inl 0, []),
    (.getfield 22, 34, 6, 3, 0, 0, .inl 0, []),
    (.iconst 1, 35, 0, 0, 0, 0, .inl 1, []),
    (.iadd, 36, 0, 0, 0, 0, .inl 0, []),
    (.putfield 22, 39, 6, 3, 0, 0, .inl 0, [])]),
  (39, [(.return_, 40, 0, 0, 0, 0, .inl 0, [])])]
def gT_X6_add : gs_T := ([], gB_X6_add, [])
set_option maxRecDepth 100000 in
def gB_X6_evaluate : List (Nat × List gs_N) := [(0, [(.aload_n 0, 1, 0, 0, 0, 0, .inl 0, []),
    (.iconst 0, 2, 0, 0, 0, 0, .inl 0, []),
    (.putfield 26, 5, 6, 4, 3, 0, .inl 0, []),
    (.iconst 0, 6, 0, 0, 0, 0, .inl 0, []),
    (.istore 4, 8, 4, 0, 0, 0, .inl 0, []),
    (.iconst 0, 9, 0, 0, 0, 0, .inl 0, []),
    (.iload_n 1, 10, 1, 0, 0, 0, .inl 0, []),
    (.invokestatic 30, 13, 312, 2, 0, 1, .inl 0, []),
    (.istore 5, 15, 5, 0, 0, 0, .inl 0, [])]),
  (15, [(.iload 5, 17, 5, 0, 0, 0, .inl 0, []),
    (.iload_n 2, 18, 2, 0, 0, 0, .inl 0, []),
    (.if_icmp .ge 171, 21, 189, 0, 0, 0, .inl 0, []),
    (.iload 5, 23, 5, 0, 0, 0, .inl 0, []),
    (.aload_n 0, 24, 0, 0, 0, 0, .inl 0, []),
    (.getfield 22, 27, 6, 3, 0, 0, .inl 0, []),
    (.if_icmp .ge 162, 30, 189, 0, 0, 0, .inl 0, []),
    (.aload_n 0, 31, 0, 0, 0, 0, .inl 0, []),
    (.getfield 26, 34, 6, 4, 3, 0, .inl 0, []),
    (.ifCond .ne 155, 37, 189, 0, 0, 0, .inl 0, []),
    (.aload_n 0, 38, 0, 0, 0, 0, .inl 0, []),
    (.getfield 9, 41, 6, 0, 2, 1, .inl 0, []),
    (.iload 5, 43, 5, 0, 0, 0, .inl 0, []),
    (.iaload, 44, 0, 0, 0, 0, .inl 0, []),
    (.istore 6, 46, 6, 0, 0, 0, .inl 0, []),
    (.iload 6, 48, 6, 0, 0, 0, .inl 0, []),
    (.bipush 29, 50, 0, 0, 0, 0, .inl 29, []),
    (.if_icmp .ne 40, 53, 90, 0, 0, 0, .inl 0, []),
    (.iload 4, 55, 4, 0, 0, 0, .inl 0, []),
    (.iconst 1, 56, 0, 0, 0, 0, .inl 1, []),
    (.if_icmp .lt 34, 59, 90, 0, 0, 0, .inl 0, []),
    (.aload_n 0, 60, 0, 0, 0, 0, .inl 0, []),
    (.getfield 18, 63, 6, 2, 2, 1, .inl 0, []),
    (.iload 4, 65, 4, 0, 0, 0, .inl 0, []),
    (.iconst 1, 66, 0, 0, 0, 0, .inl 1, []),
    (.isub, 67, 0, 0, 0, 0, .inl 0, []),
    (.aload_n 0, 68, 0, 0, 0, 0, .inl 0, []),
    (.getfield 18, 71, 6, 2, 2, 1, .inl 0, []),
    (.iload 4, 73, 4, 0, 0, 0, .inl 0, []),
    (.iconst 1, 74, 0, 0, 0, 0, .inl 1, []),
    (.isub, 75, 0, 0, 0, 0, .inl 0, []),
    (.laload, 76, 0, 0, 0, 0, .inl 0, []),
    (.lconst 0, 77, 0, 0, 0, 0, .inr (.inl 0), []),
    (.lcmp, 78, 0, 0, 0, 0, .inl 0, []),
    (.ifCond .ne 7, 81, 85, 0, 0, 0, .inl 0, []),
    (.lconst 1, 82, 0, 0, 0, 0, .inr (.inl 1), []),
    (.goto 4, 85, 86, 0, 0, 0, .inl 0, [])]),
  (85, [(.lconst 0, 86, 0, 0, 0, 0, .inr (.inl 0), [])]),
  (86, [(.lastore, 87, 0, 0, 0, 0, .inl 0, []),
    (.goto 96, 90, 183, 0, 0, 0, .inl 0, [])]),
  (90, [(.iload 6, 92, 6, 0, 0, 0, .inl 0, []),
    (.invokestatic 36, 95, 74, 1, 0, 1, .inl 0, []),
    (.ifCond .eq 46, 98, 141, 0, 0, 0, .inl 0, []),
    (.iload 4, 100, 4, 0, 0, 0, .inl 0, []),
    (.iconst 2, 101, 0, 0, 0, 0, .inl 2, []),
    (.if_icmp .lt 40, 104, 141, 0, 0, 0, .inl 0, []),
    (.iinc 4 (-1), 107, 4, 0, 0, 0, .inl (-1), []),
    (.aload_n 0, 108, 0, 0, 0, 0, .inl 0, []),
    (.getfield 18, 111, 6, 2, 2, 1, .inl 0, []),
    (.iload 4, 113, 4, 0, 0, 0, .inl 0, []),
    (.iconst 1, 114, 0, 0, 0, 0, .inl 1, []),
    (.isub, 115, 0, 0, 0, 0, .inl 0, []),
    (.aload_n 0, 116, 0, 0, 0, 0, .inl 0, []),
    (.iload 6, 118, 6, 0, 0, 0, .inl 0, []),
    (.aload_n 0, 119, 0, 0, 0, 0, .inl 0, []),
    (.getfield 18, 122, 6, 2, 2, 1, .inl 0, []),
    (.iload 4, 124, 4, 0, 0, 0, .inl 0, []),
    (.iconst 1, 125, 0, 0, 0, 0, .inl 1, []),
    (.isub, 126, 0, 0, 0, 0, .inl 0, []),
    (.laload, 127, 0, 0, 0, 0, .inl 0, []),
    (.aload_n 0, 128, 0, 0, 0, 0, .inl 0, []),
    (.getfield 18, 131, 6, 2, 2, 1, .inl 0, []),
    (.iload 4, 133, 4, 0, 0, 0, .inl 0, []),
    (.laload, 134, 0, 0, 0, 0, .inl 0, []),
    (.invokevirtual 40, 137, 75, 4, 1, 6, .inl 0, []),
    (.lastore, 138, 0, 0, 0, 0, .inl 0, []),
    (.goto 45, 141, 183, 0, 0, 0, .inl 0, [])]),
  (141, [(.iload 4, 143, 4, 0, 0, 0, .inl 0, []),
    (.bipush 64, 145, 0, 0, 0, 0, .inl 64, []),
    (.if_icmp .ge 38, 148, 183, 0, 0, 0, .inl 0, []),
    (.aload_n 0, 149, 0, 0, 0, 0, .inl 0, []),
    (.getfield 18, 152, 6, 2, 2, 1, .inl 0, []),
    (.iload 4, 154, 4, 0, 0, 0, .inl 0, []),
    (.iload 6, 156, 6, 0, 0, 0, .inl 0, []),
    (.bipush 33, 158, 0, 0, 0, 0, .inl 33, []),
    (.if_icmp .ne 14, 161, 172, 0, 0, 0, .inl 0, []),
    (.aload_n 0, 162, 0, 0, 0, 0, .inl 0, []),
    (.getfield 15, 165, 6, 1, 2, 1, .inl 0, []),
    (.iload 5, 167, 5, 0, 0, 0, .inl 0, []),
    (.iaload, 168, 0, 0, 0, 0, .inl 0, []),
    (.i2l, 169, 0, 0, 0, 0, .inl 0, []),
    (.goto 10, 172, 179, 0, 0, 0, .inl 0, [])]),
  (172, [(.aload_n 3, 173, 3, 0, 0, 0, .inl 0, []),
    (.iload 6, 175, 6, 0, 0, 0, .inl 0, []),
    (.invokevirtual 44, 178, 22, 2, 0, 2, .inl 0, []),
    (.i2l, 179, 0, 0, 0, 0, .inl 0, [])]),
  (179, [(.lastore, 180, 0, 0, 0, 0, .inl 0, []),
    (.iinc 4 1, 183, 4, 0, 0, 0, .inl 1, [])]),
  (183, [(.iinc 5 1, 186, 5, 0, 0, 0, .inl 1, []),
    (.goto (-171), 189, 15, 0, 0, 0, .inl 0, [])]),
  (189, [(.aload_n 0, 190, 0, 0, 0, 0, .inl 0, []),
    (.getfield 26, 193, 6, 4, 3, 0, .inl 0, []),
    (.ifCond .ne 8, 196, 201, 0, 0, 0, .inl 0, []),
    (.iload 4, 198, 4, 0, 0, 0, .inl 0, []),
    (.ifCond .ne 7, 201, 205, 0, 0, 0, .inl 0, [])]),
  (201, [(.lconst 0, 202, 0, 0, 0, 0, .inr (.inl 0), []),
    (.goto 9, 205, 211, 0, 0, 0, .inl 0, [])]),
  (205, [(.aload_n 0, 206, 0, 0, 0, 0, .inl 0, []),
    (.getfield 18, 209, 6, 2, 2, 1, .inl 0, []),
    (.iconst 0, 210, 0, 0, 0, 0, .inl 0, []),
    (.laload, 211, 0, 0, 0, 0, .inl 0, [])]),
  (211, [(.lreturn, 212, 0, 0, 0, 0, .inl 0, [])])]
def gT_X6_evaluate : gs_T := ([], gB_X6_evaluate, [(15, [0, 2, 3, 4, 5])])
set_option maxRecDepth 100000 in
def gB_X6_isSign : List (Nat × List gs_N) := [(0, [(.iload_n 0, 1, 0, 0, 0, 0, .inl 0, []),
    (.bipush 27, 3, 0, 0, 0, 0, .inl 27, []),
    (.if_icmp .eq 21, 6, 24, 0, 0, 0, .inl 0, []),
    (.iload_n 0, 7, 0, 0, 0, 0, .inl 0, []),
    (.bipush 28, 9, 0, 0, 0, 0, .inl 28, []),
    (.if_icmp .eq 15, 12, 24, 0, 0, 0, .inl 0, []),
    (.iload_n 0, 13, 0, 0, 0, 0, .inl 0, []),
    (.bipush 39, 15, 0, 0, 0, 0, .inl 39, []),
    (.if_icmp .lt 13, 18, 28, 0, 0, 0, .inl 0, []),
    (.iload_n 0, 19, 0, 0, 0, 0, .inl 0, []),
    (.bipush 48, 21, 0, 0, 0, 0, .inl 48, []),
    (.if_icmp .gt 7, 24, 28, 0, 0, 0, .inl 0, [])]),
  (24, [(.iconst 1, 25, 0, 0, 0, 0, .inl 1, []),
    (.goto 4, 28, 29, 0, 0, 0, .inl 0, [])]),
  (28, [(.iconst 0, 29, 0, 0, 0, 0, .inl 0, [])]),
  (29, [(.ireturn, 30, 1, 0, 0, 0, .inl 0, [])])]
def gT_X6_isSign : gs_T := ([], gB_X6_isSign, [])
set_option maxRecDepth 100000 in
def gB_X6_apply : List (Nat × List gs_N) := [(0, [(.iload_n 1, 1, 1, 0, 0, 0, .inl 0, []),
    (.tableswitch 241 27 47 #[99, 118, 241, 241, 241, 241, 241, 241, 241, 241, 241, 241, 137, 150, 163, 176, 189, 202, 215, 224, 233], 100, 242, 99, 0, 0, .inl 0, [(27, 100), (28, 119), (39, 138), (40, 151), (41, 164), (42, 177), (43, 190), (44, 203), (45, 216), (46, 225), (47, 234)])]),
  (100, [(.lload_n 2, 101, 2, 0, 0, 0, .inl 0, []),
    (.lconst 0, 102, 0, 0, 0, 0, .inr (.inl 0), []),
    (.lcmp, 103, 0, 0, 0, 0, .inl 0, []),
    (.ifCond .ne 10, 106, 113, 0, 0, 0, .inl 0, []),
    (.lload 4, 108, 4, 0, 0, 0, .inl 0, []),
    (.lconst 0, 109, 0, 0, 0, 0, .inr (.inl 0), []),
    (.lcmp, 110, 0, 0, 0, 0, .inl 0, []),
    (.ifCond .eq 7, 113, 117, 0, 0, 0, .inl 0, [])]),
  (113, [(.lconst 1, 114, 0, 0, 0, 0, .inr (.inl 1), []),
    (.goto 4, 117, 118, 0, 0, 0, .inl 0, [])]),
  (117, [(.lconst 0, 118, 0, 0, 0, 0, .inr (.inl 0), [])]),
  (118, [(.lreturn, 119, 0, 0, 0, 0, .inl 0, [])]),
  (119, [(.lload_n 2, 120, 2, 0, 0, 0, .inl 0, []),
    (.lconst 0, 121, 0, 0, 0, 0, .inr (.inl 0), []),
    (.lcmp, 122, 0, 0, 0, 0, .inl 0, []),
    (.ifCond .eq 14, 125, 136, 0, 0, 0, .inl 0, []),
    (.lload 4, 127, 4, 0, 0, 0, .inl 0, []),
    (.lconst 0, 128, 0, 0, 0, 0, .inr (.inl 0), []),
    (.lcmp, 129, 0, 0, 0, 0, .inl 0, []),
    (.ifCond .eq 7, 132, 136, 0, 0, 0, .inl 0, []),
    (.lconst 1, 133, 0, 0, 0, 0, .inr (.inl 1), []),
    (.goto 4, 136, 137, 0, 0, 0, .inl 0, [])]),
  (136, [(.lconst 0, 137, 0, 0, 0, 0, .inr (.inl 0), [])]),
  (137, [(.lreturn, 138, 0, 0, 0, 0, .inl 0, [])]),
  (138, [(.lload_n 2, 139, 2, 0, 0, 0, .inl 0, []),
    (.lload 4, 141, 4, 0, 0, 0, .inl 0, []),
    (.lcmp, 142, 0, 0, 0, 0, .inl 0, []),
    (.ifCond .ge 7, 145, 149, 0, 0, 0, .inl 0, []),
    (.lconst 1, 146, 0, 0, 0, 0, .inr (.inl 1), []),
    (.goto 4, 149, 150, 0, 0, 0, .inl 0, [])]),
  (149, [(.lconst 0, 150, 0, 0, 0, 0, .inr (.inl 0), [])]),
  (150, [(.lreturn, 151, 0, 0, 0, 0, .inl 0, [])]),
  (151, [(.lload_n 2, 152, 2, 0, 0, 0, .inl 0, []),
    (.lload 4, 154, 4, 0, 0, 0, .inl 0, []),
    (.lcmp, 155, 0, 0, 0, 0, .inl 0, []),
    (.ifCond .gt 7, 158, 162, 0, 0, 0, .inl 0, []),
    (.lconst 1, 159, 0, 0, 0, 0, .inr (.inl 1), []),
    (.goto 4, 162, 163, 0, 0, 0, .inl 0, [])]),
  (162, [(.lconst 0, 163, 0, 0, 0, 0, .inr (.inl 0), [])]),
  (163, [(.lreturn, 164, 0, 0, 0, 0, .inl 0, [])]),
  (164, [(.lload_n 2, 165, 2, 0, 0, 0, .inl 0, []),
    (.lload 4, 167, 4, 0, 0, 0, .inl 0, []),
    (.lcmp, 168, 0, 0, 0, 0, .inl 0, []),
    (.ifCond .ne 7, 171, 175, 0, 0, 0, .inl 0, []),
    (.lconst 1, 172, 0, 0, 0, 0, .inr (.inl 1), []),
    (.goto 4, 175, 176, 0, 0, 0, .inl 0, [])]),
  (175, [(.lconst 0, 176, 0, 0, 0, 0, .inr (.inl 0), [])]),
  (176, [(.lreturn, 177, 0, 0, 0, 0, .inl 0, [])]),
  (177, [(.lload_n 2, 178, 2, 0, 0, 0, .inl 0, []),
    (.lload 4, 180, 4, 0, 0, 0, .inl 0, []),
    (.lcmp, 181, 0, 0, 0, 0, .inl 0, []),
    (.ifCond .eq 7, 184, 188, 0, 0, 0, .inl 0, []),
    (.lconst 1, 185, 0, 0, 0, 0, .inr (.inl 1), []),
    (.goto 4, 188, 189, 0, 0, 0, .inl 0, [])]),
  (188, [(.lconst 0, 189, 0, 0, 0, 0, .inr (.inl 0), [])]),
  (189, [(.lreturn, 190, 0, 0, 0, 0, .inl 0, [])]),
  (190, [(.lload_n 2, 191, 2, 0, 0, 0, .inl 0, []),
    (.lload 4, 193, 4, 0, 0, 0, .inl 0, []),
    (.lcmp, 194, 0, 0, 0, 0, .inl 0, []),
    (.ifCond .lt 7, 197, 201, 0, 0, 0, .inl 0, []),
    (.lconst 1, 198, 0, 0, 0, 0, .inr (.inl 1), []),
    (.goto 4, 201, 202, 0, 0, 0, .inl 0, [])]),
  (201, [(.lconst 0, 202, 0, 0, 0, 0, .inr (.inl 0), [])]),
  (202, [(.lreturn, 203, 0, 0, 0, 0, .inl 0, [])]),
  (203, [(.lload_n 2, 204, 2, 0, 0, 0, .inl 0, []),
    (.lload 4, 206, 4, 0, 0, 0, .inl 0, []),
    (.lcmp, 207, 0, 0, 0, 0, .inl 0, []),
    (.ifCond .le 7, 210, 214, 0, 0, 0, .inl 0, []),
    (.lconst 1, 211, 0, 0, 0, 0, .inr (.inl 1), []),
    (.goto 4, 214, 215, 0, 0, 0, .inl 0, [])]),
  (214, [(.lconst 0, 215, 0, 0, 0, 0, .inr (.inl 0), [])]),
  (215, [(.lreturn, 216, 0, 0, 0, 0, .inl 0, [])]),
  (216, [(.aload_n 0, 217, 0, 0, 0, 0, .inl 0, []),
    (.lload_n 2, 218, 2, 0, 0, 0, .inl 0, []),
    (.lload 4, 220, 4, 0, 0, 0, .inl 0, []),
    (.ladd, 221, 0, 0, 0, 0, .inl 0, []),
    (.invokevirtual 50, 224, 76, 2, 1, 6, .inl 0, []),
    (.lreturn, 225, 0, 0, 0, 0, .inl 0, [])]),
  (225, [(.aload_n 0, 226, 0, 0, 0, 0, .inl 0, []),
    (.lload_n 2, 227, 2, 0, 0, 0, .inl 0, []),
    (.lload 4, 229, 4, 0, 0, 0, .inl 0, []),
    (.lsub, 230, 0, 0, 0, 0, .inl 0, []),
    (.invokevirtual 50, 233, 76, 2, 1, 6, .inl 0, []),
    (.lreturn, 234, 0, 0, 0, 0, .inl 0, [])]),
  (234, [(.aload_n 0, 235, 0, 0, 0, 0, .inl 0, []),
    (.lload_n 2, 236, 2, 0, 0, 0, .inl 0, []),
    (.lload 4, 238, 4, 0, 0, 0, .inl 0, []),
    (.invokevirtual 54, 241, 77, 3, 1, 6, .inl 0, []),
    (.lreturn, 242, 0, 0, 0, 0, .inl 0, [])]),
  (242, [(.aload_n 0, 243, 0, 0, 0, 0, .inl 0, []),
    (.lload_n 2, 244, 2, 0, 0, 0, .inl 0, []),
    (.lload 4, 246, 4, 0, 0, 0, .inl 0, []),
    (.invokevirtual 58, 249, 78, 3, 1, 6, .inl 0, []),
    (.lreturn, 250, 0, 0, 0, 0, .inl 0, [])])]
def gT_X6_apply : gs_T := ([], gB_X6_apply, [])
set_option maxRecDepth 100000 in
def gB_X6_within : List (Nat × List gs_N) := [(0, [(.lload_n 1, 1, 1, 0, 0, 0, .inl 0, []),
    (.ldc2_w 61, 4, 0, 0, 0, 0, .inr (.inl 1000000000000), []),
    (.lcmp, 5, 0, 0, 0, 0, .inl 0, []),
    (.ifCond .gt 11, 8, 16, 0, 0, 0, .inl 0, []),
    (.lload_n 1, 9, 1, 0, 0, 0, .inl 0, []),
    (.ldc2_w 63, 12, 0, 0, 0, 0, .inr (.inl (-1000000000000)), []),
    (.lcmp, 13, 0, 0, 0, 0, .inl 0, []),
    (.ifCond .ge 10, 16, 23, 0, 0, 0, .inl 0, [])]),
  (16, [(.aload_n 0, 17, 0, 0, 0, 0, .inl 0, []),
    (.iconst 1, 18, 0, 0, 0, 0, .inl 1, []),
    (.putfield 26, 21, 6, 4, 3, 0, .inl 0, []),
    (.lconst 0, 22, 0, 0, 0, 0, .inr (.inl 0), []),
    (.lreturn, 23, 0, 0, 0, 0, .inl 0, [])]),
  (23, [(.lload_n 1, 24, 1, 0, 0, 0, .inl 0, []),
    (.lreturn, 25, 0, 0, 0, 0, .inl 0, [])])]
def gT_X6_within : gs_T := ([], gB_X6_within, [])
set_option maxRecDepth 100000 in
def gB_X6_product : List (Nat × List gs_N) := [(0, [(.lload_n 1, 1, 1, 0, 0, 0, .inl 0, []),
    (.lconst 0, 2, 0, 0, 0, 0, .inr (.inl 0), []),
    (.lcmp, 3, 0, 0, 0, 0, .inl 0, []),
    (.ifCond .eq 26, 6, 29, 0, 0, 0, .inl 0, []),
    (.lload_n 3, 7, 3, 0, 0, 0, .inl 0, []),
    (.invokestatic 65, 10, 311, 1, 1, 1, .inl 0, []),
    (.ldc2_w 61, 13, 0, 0, 0, 0, .inr (.inl 1000000000000), []),
    (.lload_n 1, 14, 1, 0, 0, 0, .inl 0, []),
    (.invokestatic 65, 17, 311, 1, 1, 1, .inl 0, []),
    (.ldiv, 18, 0, 0, 0, 0, .inl 0, []),
    (.lcmp, 19, 0, 0, 0, 0, .inl 0, []),
    (.ifCond .le 10, 22, 29, 0, 0, 0, .inl 0, []),
    (.aload_n 0, 23, 0, 0, 0, 0, .inl 0, []),
    (.iconst 1, 24, 0, 0, 0, 0, .inl 1, []),
    (.putfield 26, 27, 6, 4, 3, 0, .inl 0, []),
    (.lconst 0, 28, 0, 0, 0, 0, .inr (.inl 0), []),
    (.lreturn, 29, 0, 0, 0, 0, .inl 0, [])]),
  (29, [(.lload_n 1, 30, 1, 0, 0, 0, .inl 0, []),
    (.lload_n 3, 31, 3, 0, 0, 0, .inl 0, []),
    (.lmul, 32, 0, 0, 0, 0, .inl 0, []),
    (.lreturn, 33, 0, 0, 0, 0, .inl 0, [])])]
def gT_X6_product : gs_T := ([], gB_X6_product, [])
set_option maxRecDepth 100000 in
def gB_X6_quotient : List (Nat × List gs_N) := [(0, [(.lload_n 3, 1, 3, 0, 0, 0, .inl 0, []),
    (.lconst 0, 2, 0, 0, 0, 0, .inr (.inl 0), []),
    (.lcmp, 3, 0, 0, 0, 0, .inl 0, []),
    (.ifCond .ne 10, 6, 13, 0, 0, 0, .inl 0, []),
    (.aload_n 0, 7, 0, 0, 0, 0, .inl 0, []),
    (.iconst 1, 8, 0, 0, 0, 0, .inl 1, []),
    (.putfield 26, 11, 6, 4, 3, 0, .inl 0, []),
    (.lconst 0, 12, 0, 0, 0, 0, .inr (.inl 0), []),
    (.lreturn, 13, 0, 0, 0, 0, .inl 0, [])]),
  (13, [(.lload_n 1, 14, 1, 0, 0, 0, .inl 0, []),
    (.lload_n 3, 15, 3, 0, 0, 0, .inl 0, []),
    (.ldiv, 16, 0, 0, 0, 0, .inl 0, []),
    (.lreturn, 17, 0, 0, 0, 0, .inl 0, [])])]
def gT_X6_quotient : gs_T := ([], gB_X6_quotient, [])
set_option maxRecDepth 100000 in
def gB_X7_monthBegin : List (Nat × List gs_N) := [(0, [(.sipush 354, 3, 0, 0, 0, 0, .inl 354, []),
    (.iload_n 0, 4, 0, 0, 0, 0, .inl 0, []),
    (.imul, 5, 0, 0, 0, 0, .inl 0, []),
    (.bipush 29, 7, 0, 0, 0, 0, .inl 29, []),
    (.iload_n 1, 8, 1, 0, 0, 0, .inl 0, []),
    (.iconst 1, 9, 0, 0, 0, 0, .inl 1, []),
    (.isub, 10, 0, 0, 0, 0, .inl 0, []),
    (.imul, 11, 0, 0, 0, 0, .inl 0, []),
    (.iadd, 12, 0, 0, 0, 0, .inl 0, []),
    (.iload_n 1, 13, 1, 0, 0, 0, .inl 0, []),
    (.iconst 2, 14, 0, 0, 0, 0, .inl 2, []),
    (.idiv, 15, 0, 0, 0, 0, .inl 0, []),
    (.iadd, 16, 0, 0, 0, 0, .inl 0, []),
    (.ireturn, 17, 0, 0, 0, 0, .inl 0, [])])]
def gT_X7_monthBegin : gs_T := ([], gB_X7_monthBegin, [])
set_option maxRecDepth 100000 in
def gB_X7_monthLength : List (Nat × List gs_N) := [(0, [(.iload_n 0, 1, 0, 0, 0, 0, .inl 0, []),
    (.iconst 2, 2, 0, 0, 0, 0, .inl 2, []),
    (.irem, 3, 0, 0, 0, 0, .inl 0, []),
    (.iconst 1, 4, 0, 0, 0, 0, .inl 1, []),
    (.if_icmp .ne 8, 7, 12, 0, 0, 0, .inl 0, []),
    (.bipush 30, 9, 0, 0, 0, 0, .inl 30, []),
    (.goto 5, 12, 14, 0, 0, 0, .inl 0, [])]),
  (12, [(.bipush 29, 14, 0, 0, 0, 0, .inl 29, [])]),
  (14, [(.ireturn, 15, 0, 0, 0, 0, .inl 0, [])])]
def gT_X7_monthLength : gs_T := ([], gB_X7_monthLength, [])
set_option maxRecDepth 100000 in
def gB_X7_apart : List (Nat × List gs_N) := [(0, [(.iload_n 0, 1, 0, 0, 0, 0, .inl 0, []),
    (.iload_n 2, 2, 2, 0, 0, 0, .inl 0, []),
    (.isub, 3, 0, 0, 0, 0, .inl 0, []),
    (.invokestatic 9, 6, 310, 1, 0, 1, .inl 0, []),
    (.istore 4, 8, 4, 0, 0, 0, .inl 0, []),
    (.iload 4, 10, 4, 0, 0, 0, .inl 0, []),
    (.bipush 120, 12, 0, 0, 0, 0, .inl 120, []),
    (.iload 4, 14, 4, 0, 0, 0, .inl 0, []),
    (.isub, 15, 0, 0, 0, 0, .inl 0, []),
    (.invokestatic 15, 18, 314, 2, 0, 1, .inl 0, []),
    (.istore 5, 20, 5, 0, 0, 0, .inl 0, []),
    (.iload 5, 22, 5, 0, 0, 0, .inl 0, []),
    (.iload_n 1, 23, 1, 0, 0, 0, .inl 0, []),
    (.iload_n 3, 24, 3, 0, 0, 0, .inl 0, []),
    (.isub, 25, 0, 0, 0, 0, .inl 0, []),
    (.invokestatic 9, 28, 310, 1, 0, 1, .inl 0, []),
    (.invokestatic 19, 31, 312, 2, 0, 1, .inl 0, []),
    (.ireturn, 32, 0, 0, 0, 0, .inl 0, [])])]
def gT_X7_apart : gs_T := ([], gB_X7_apart, [])
set_option maxRecDepth 100000 in
def gB_X7_sunAt : List (Nat × List gs_N) := [(0, [(.iload_n 0, 1, 0, 0, 0, 0, .inl 0, []),
    (.sipush 354, 4, 0, 0, 0, 0, .inl 354, []),
    (.irem, 5, 0, 0, 0, 0, .inl 0, []),
    (.bipush 120, 7, 0, 0, 0, 0, .inl 120, []),
    (.imul, 8, 0, 0, 0, 0, .inl 0, []),
    (.sipush 354, 11, 0, 0, 0, 0, .inl 354, []),
    (.idiv, 12, 0, 0, 0, 0, .inl 0, []),
    (.ireturn, 13, 0, 0, 0, 0, .inl 0, [])])]
def gT_X7_sunAt : gs_T := ([], gB_X7_sunAt, [])
set_option maxRecDepth 100000 in
def gB_X7_hides : List (Nat × List gs_N) := [(0, [(.iload_n 1, 1, 1, 0, 0, 0, .inl 0, []),
    (.iconst 0, 2, 0, 0, 0, 0, .inl 0, []),
    (.iload_n 0, 3, 0, 0, 0, 0, .inl 0, []),
    (.invokestatic 22, 6, 82, 1, 0, 1, .inl 0, []),
    (.iconst 0, 7, 0, 0, 0, 0, .inl 0, []),
    (.invokestatic 27, 10, 81, 4, 0, 1, .inl 0, []),
    (.bipush 10, 12, 0, 0, 0, 0, .inl 10, []),
    (.if_icmp .gt 7, 15, 19, 0, 0, 0, .inl 0, []),
    (.iconst 1, 16, 0, 0, 0, 0, .inl 1, []),
    (.goto 4, 19, 20, 0, 0, 0, .inl 0, [])]),
  (19, [(.iconst 0, 20, 0, 0, 0, 0, .inl 0, [])]),
  (20, [(.ireturn, 21, 1, 0, 0, 0, .inl 0, [])])]
def gT_X7_hides : gs_T := ([], gB_X7_hides, [])
set_option maxRecDepth 100000 in
def gB_X7_monthsSeen : List (Nat × List gs_N) := [(0, [(.iconst 0, 1, 0, 0, 0, 0, .inl 0, []),
    (.istore_n 1, 2, 1, 0, 0, 0, .inl 0, []),
    (.iconst 1, 3, 0, 0, 0, 0, .inl 1, []),
    (.istore_n 2, 4, 2, 0, 0, 0, .inl 0, [])]),
  (4, [(.iload_n 2, 5, 2, 0, 0, 0, .inl 0, []),
    (.bipush 12, 7, 0, 0, 0, 0, .inl 12, []),
    (.if_icmp .gt 32, 10, 39, 0, 0, 0, .inl 0, []),
    (.iconst 0, 11, 0, 0, 0, 0, .inl 0, []),
    (.iload_n 2, 12, 2, 0, 0, 0, .inl 0, []),
    (.invokestatic 31, 15, 79, 2, 0, 1, .inl 0, []),
    (.bipush 14, 17, 0, 0, 0, 0, .inl 14, []),
    (.iadd, 18, 0, 0, 0, 0, .inl 0, []),
    (.iload_n 0, 19, 0, 0, 0, 0, .inl 0, []),
    (.invokestatic 34, 22, 83, 2, 0, 1, .inl 0, []),
    (.ifCond .ne 11, 25, 33, 0, 0, 0, .inl 0, []),
    (.iload_n 1, 26, 1, 0, 0, 0, .inl 0, []),
    (.iconst 1, 27, 0, 0, 0, 0, .inl 1, []),
    (.iload_n 2, 28, 2, 0, 0, 0, .inl 0, []),
    (.iconst 1, 29, 0, 0, 0, 0, .inl 1, []),
    (.isub, 30, 0, 0, 0, 0, .inl 0, []),
    (.ishl, 31, 0, 0, 0, 0, .inl 0, []),
    (.ior, 32, 0, 0, 0, 0, .inl 0, []),
    (.istore_n 1, 33, 1, 0, 0, 0, .inl 0, [])]),
  (33, [(.iinc 2 1, 36, 2, 0, 0, 0, .inl 1, []),
    (.goto (-32), 39, 4, 0, 0, 0, .inl 0, [])]),
  (39, [(.iload_n 1, 40, 1, 0, 0, 0, .inl 0, []),
    (.ireturn, 41, 0, 0, 0, 0, .inl 0, [])])]
def gT_X7_monthsSeen : gs_T := ([], gB_X7_monthsSeen, [(4, [0, 1, 2])])
set_option maxRecDepth 100000 in
def gB_X7_leastTerms : List (Nat × List gs_N) := [(0, [(.lload_n 2, 1, 2, 0, 0, 0, .inl 0, []),
    (.lconst 0, 2, 0, 0, 0, 0, .inr (.inl 0), []),
    (.lcmp, 3, 0, 0, 0, 0, .inl 0, []),
    (.ifCond .ne 5, 6, 8, 0, 0, 0, .inl 0, []),
    (.lconst 0, 7, 0, 0, 0, 0, .inr (.inl 0), []),
    (.lreturn, 8, 0, 0, 0, 0, .inl 0, [])]),
  (8, [(.lload_n 2, 9, 2, 0, 0, 0, .inl 0, []),
    (.lstore 5, 11, 5, 0, 0, 0, .inl 0, []),
    (.lload_n 0, 12, 0, 0, 0, 0, .inl 0, []),
    (.lstore 7, 14, 7, 0, 0, 0, .inl 0, []),
    (.iconst 0, 15, 0, 0, 0, 0, .inl 0, []),
    (.istore 9, 17, 9, 0, 0, 0, .inl 0, [])]),
  (17, [(.iload 9, 19, 9, 0, 0, 0, .inl 0, []),
    (.bipush 100, 21, 0, 0, 0, 0, .inl 100, []),
    (.if_icmp .ge 31, 24, 52, 0, 0, 0, .inl 0, []),
    (.lload 7, 26, 7, 0, 0, 0, .inl 0, []),
    (.lconst 0, 27, 0, 0, 0, 0, .inr (.inl 0), []),
    (.lcmp, 28, 0, 0, 0, 0, .inl 0, []),
    (.ifCond .eq 24, 31, 52, 0, 0, 0, .inl 0, []),
    (.lload 5, 33, 5, 0, 0, 0, .inl 0, []),
    (.lload 7, 35, 7, 0, 0, 0, .inl 0, []),
    (.lrem, 36, 0, 0, 0, 0, .inl 0, []),
    (.lstore 10, 38, 10, 0, 0, 0, .inl 0, []),
    (.lload 7, 40, 7, 0, 0, 0, .inl 0, []),
    (.lstore 5, 42, 5, 0, 0, 0, .inl 0, []),
    (.lload 10, 44, 10, 0, 0, 0, .inl 0, []),
    (.lstore 7, 46, 7, 0, 0, 0, .inl 0, []),
    (.iinc 9 1, 49, 9, 0, 0, 0, .inl 1, []),
    (.goto (-32), 52, 17, 0, 0, 0, .inl 0, [])]),
  (52, [(.iload 4, 54, 4, 0, 0, 0, .inl 0, []),
    (.ifCond .ne 7, 57, 61, 0, 0, 0, .inl 0, []),
    (.lload_n 0, 58, 0, 0, 0, 0, .inl 0, []),
    (.goto 4, 61, 62, 0, 0, 0, .inl 0, [])]),
  (61, [(.lload_n 2, 62, 2, 0, 0, 0, .inl 0, [])]),
  (62, [(.lload 5, 64, 5, 0, 0, 0, .inl 0, []),
    (.ldiv, 65, 0, 0, 0, 0, .inl 0, []),
    (.lreturn, 66, 0, 0, 0, 0, .inl 0, [])])]
def gT_X7_leastTerms : gs_T := ([], gB_X7_leastTerms, [(17, [0, 2, 4, 5, 7, 9])])
set_option maxRecDepth 100000 in
def gB_X8_init : List (Nat × List gs_N) := [(0, [(.aload_n 0, 1, 0, 0, 0, 0, .inl 0, []),
    (.invokespecial 3, 4, 9000, 1, 2, 92, .inl 0, []),
    (.aload_n 0, 5, 0, 0, 0, 0, .inl 0, []),
    (.new 9, 8, 3, 4, 0, 0, .inl 0, []),
    (.dup, 9, 0, 0, 0, 0, .inl 0, []),
    (.bipush 8, 11, 0, 0, 0, 0, .inl 8, []),
    (.invokespecial 11, 14, 25, 2, 2, 2, .inl 0, []),
    (.putfield 14, 17, 7, 0, 2, 1, .inl 0, []),
    (.aload_n 0, 18, 0, 0, 0, 0, .inl 0, []),
    (.new 9, 21, 3, 4, 0, 0, .inl 0, []),
    (.dup, 22, 0, 0, 0, 0, .inl 0, []),
    (.bipush 10, 24, 0, 0, 0, 0, .inl 10, []),
    (.invokespecial 11, 27, 25, 2, 2, 2, .inl 0, []),
    (.putfield 20, 30, 7, 1, 2, 1, .inl 0, []),
    (.aload_n 0, 31, 0, 0, 0, 0, .inl 0, []),
    (.new 9, 34, 3, 4, 0, 0, .inl 0, []),
    (.dup, 35, 0, 0, 0, 0, .inl 0, []),
    (.bipush 8, 37, 0, 0, 0, 0, .inl 8, []),
    (.invokespecial 11, 40, 25, 2, 2, 2, .inl 0, []),
    (.putfield 23, 43, 7, 2, 2, 1, .inl 0, []),
    (.aload_n 0, 44, 0, 0, 0, 0, .inl 0, []),
    (.new 9, 47, 3, 4, 0, 0, .inl 0, []),
    (.dup, 48, 0, 0, 0, 0, .inl 0, []),
    (.bipush 6, 50, 0, 0, 0, 0, .inl 6, []),
    (.invokespecial 11, 53, 25, 2, 2, 2, .inl 0, []),
    (.putfield 26, 56, 7, 3, 2, 1, .inl 0, []),
    (.aload_n 0, 57, 0, 0, 0, 0, .inl 0, []),
    (.new 29, 60, 6, 5, 0, 0, .inl 0, []),
    (.dup, 61, 0, 0, 0, 0, .inl 0, []),
    (.invokespecial 31, 64, 71, 1, 2, 2, .inl 0, []),
    (.putfield 32, 67, 7, 4, 2, 1, .inl 0, []),
    (.aload_n 0, 68, 0, 0, 0, 0, .inl 0, []),
    (.new 36, 71, 9, 4, 0, 0, .inl 0, []),
    (.dup, 72, 0, 0, 0, 0, .inl 0, []),
    (.invokespecial 38, 75, 113, 1, 2, 2, .inl 0, []),
    (.putfield 39, 78, 7, 5, 2, 1, .inl 0, []),
    (.aload_n 0, 79, 0, 0, 0, 0, .inl 0, []),
    (.bipush 12, 81, 0, 0, 0, 0, .inl 12, []),
    (.anewarray 43, 84, 16, 0, 0, 0, .inl 0, []),
    (.putfield 45, 87, 7, 6, 2, 1, .inl 0, []),
    (.aload_n 0, 88, 0, 0, 0, 0, .inl 0, []),
    (.bipush 10, 90, 0, 0, 0, 0, .inl 10, []),
    (.anewarray 49, 93, 15, 0, 0, 0, .inl 0, []),
    (.putfield 51, 96, 7, 7, 2, 1, .inl 0, []),
    (.iconst 0, 97, 0, 0, 0, 0, .inl 0, []),
    (.istore_n 1, 98, 1, 0, 0, 0, .inl 0, [])]),
  (98, [(.iload_n 1, 99, 1, 0, 0, 0, .inl 0, []),
    (.bipush 12, 101, 0, 0, 0, 0, .inl 12, []),
    (.if_icmp .ge 22, 104, 123, 0, 0, 0, .inl 0, []),
    (.aload_n 0, 105, 0, 0, 0, 0, .inl 0, []),
    (.getfield 45, 108, 7, 6, 2, 1, .inl 0, []),
    (.iload_n 1, 109, 1, 0, 0, 0, .inl 0, []),
    (.new 43, 112, 2, 16, 0, 0, .inl 0, []),
    (.dup, 113, 0, 0, 0, 0, .inl 0, []),
    (.invokespecial 55, 116, 17, 1, 2, 2, .inl 0, []),
    (.aastore, 117, 0, 0, 0, 0, .inl 0, []),
    (.iinc 1 1, 120, 1, 0, 0, 0, .inl 1, []),
    (.goto (-22), 123, 98, 0, 0, 0, .inl 0, [])]),
  (123, [(.iconst 0, 124, 0, 0, 0, 0, .inl 0, []),
    (.istore_n 1, 125, 1, 0, 0, 0, .inl 0, [])]),
  (125, [(.iload_n 1, 126, 1, 0, 0, 0, .inl 0, []),
    (.bipush 10, 128, 0, 0, 0, 0, .inl 10, []),
    (.if_icmp .ge 22, 131, 150, 0, 0, 0, .inl 0, []),
    (.aload_n 0, 132, 0, 0, 0, 0, .inl 0, []),
    (.getfield 51, 135, 7, 7, 2, 1, .inl 0, []),
    (.iload_n 1, 136, 1, 0, 0, 0, .inl 0, []),
    (.new 49, 139, 0, 11, 0, 0, .inl 0, []),
    (.dup, 140, 0, 0, 0, 0, .inl 0, []),
    (.invokespecial 56, 143, 0, 1, 2, 2, .inl 0, []),
    (.aastore, 144, 0, 0, 0, 0, .inl 0, []),
    (.iinc 1 1, 147, 1, 0, 0, 0, .inl 1, []),
    (.goto (-22), 150, 125, 0, 0, 0, .inl 0, [])]),
  (150, [(.aload_n 0, 151, 0, 0, 0, 0, .inl 0, []),
    (.iconst 5, 152, 0, 0, 0, 0, .inl 5, []),
    (.putfield 57, 155, 7, 11, 0, 0, .inl 0, []),
    (.aload_n 0, 156, 0, 0, 0, 0, .inl 0, []),
    (.bipush 20, 158, 0, 0, 0, 0, .inl 20, []),
    (.putfield 61, 161, 7, 12, 0, 0, .inl 0, []),
    (.return_, 162, 0, 0, 0, 0, .inl 0, [])])]
def gT_X8_init : gs_T := ([], gB_X8_init, [(98, [0, 1]), (125, [0, 1])])
set_option maxRecDepth 100000 in
def gB_X8_clear : List (Nat × List gs_N) := [(0, [(.aload_n 0, 1, 0, 0, 0, 0, .inl 0, []),
    (.getfield 14, 4, 7, 0, 2, 1, .inl 0, []),
    (.iconst 0, 5, 0, 0, 0, 0, .inl 0, []),
    (.putfield 64, 8, 3, 3, 0, 0, .inl 0, []),
    (.aload_n 0, 9, 0, 0, 0, 0, .inl 0, []),
    (.getfield 20, 12, 7, 1, 2, 1, .inl 0, []),
    (.iconst 0, 13, 0, 0, 0, 0, .inl 0, []),
    (.putfield 64, 16, 3, 3, 0, 0, .inl 0, []),
    (.aload_n 0, 17, 0, 0, 0, 0, .inl 0, []),
    (.getfield 23, 20, 7, 2, 2, 1, .inl 0, []),
    (.iconst 0, 21, 0, 0, 0, 0, .inl 0, []),
    (.putfield 64, 24, 3, 3, 0, 0, .inl 0, []),
    (.aload_n 0, 25, 0, 0, 0, 0, .inl 0, []),
    (.getfield 26, 28, 7, 3, 2, 1, .inl 0, []),
    (.iconst 0, 29, 0, 0, 0, 0, .inl 0, []),
    (.putfield 64, 32, 3, 3, 0, 0, .inl 0, []),
    (.aload_n 0, 33, 0, 0, 0, 0, .inl 0, []),
    (.getfield 32, 36, 7, 4, 2, 1, .inl 0, []),
    (.iconst 0, 37, 0, 0, 0, 0, .inl 0, []),
    (.putfield 67, 40, 6, 3, 0, 0, .inl 0, []),
    (.aload_n 0, 41, 0, 0, 0, 0, .inl 0, []),
    (.getfield 39, 44, 7, 5, 2, 1, .inl 0, []),
    (.iconst 0, 45, 0, 0, 0, 0, .inl 0, []),
    (.putfield 68, 48, 9, 3, 0, 0, .inl 0, []),
    (.aload_n 0, 49, 0, 0, 0, 0, .inl 0, []),
    (.iconst 0, 50, 0, 0, 0, 0, .inl 0, []),
    (.putfield 69, 53, 7, 8, 0, 0, .inl 0, []),
    (.aload_n 0, 54, 0, 0, 0, 0, .inl 0, []),
    (.iconst 0, 55, 0, 0, 0, 0, .inl 0, []),
    (.putfield 72, 58, 7, 9, 0, 0, .inl 0, []),
    (.aload_n 0, 59, 0, 0, 0, 0, .inl 0, []),
    (.iconst 0, 60, 0, 0, 0, 0, .inl 0, []),
    (.putfield 75, 63, 7, 10, 0, 0, .inl 0, []),
    (.aload_n 0, 64, 0, 0, 0, 0, .inl 0, []),
    (.iconst 5, 65, 0, 0, 0, 0, .inl 5, []),
    (.putfield 57, 68, 7, 11, 0, 0, .inl 0, []),
    (.aload_n 0, 69, 0, 0, 0, 0, .inl 0, []),
    (.bipush 20, 71, 0, 0, 0, 0, .inl 20, []),
    (.putfield 61, 74, 7, 12, 0, 0, .inl 0, []),
    (.aload_n 0, 75, 0, 0, 0, 0, .inl 0, []),
    (.iconst 0, 76, 0, 0, 0, 0, .inl 0, []),
    (.putfield 78, 79, 7, 13, 0, 0, .inl 0, []),
    (.return_, 80, 0, 0, 0, 0, .inl 0, [])])]
def gT_X8_clear : gs_T := ([], gB_X8_clear, [])
set_option maxRecDepth 100000 in
def gB_X8_roundOf : List (Nat × List gs_N) := [(0, [(.iload_n 1, 1, 1, 0, 0, 0, .inl 0, []),
    (.aload_n 0, 2, 0, 0, 0, 0, .inl 0, []),
    (.getfield 75, 5, 7, 10, 0, 0, .inl 0, []),
    (.iadd, 6, 0, 0, 0, 0, .inl 0, []),
    (.bipush 60, 8, 0, 0, 0, 0, .inl 60, []),
    (.irem, 9, 0, 0, 0, 0, .inl 0, []),
    (.ireturn, 10, 0, 0, 0, 0, .inl 0, [])])]
def gT_X8_roundOf : gs_T := ([], gB_X8_roundOf, [])
set_option maxRecDepth 100000 in
def gB_X8_dayIn : List (Nat × List gs_N) := [(0, [(.iload_n 1, 1, 1, 0, 0, 0, .inl 0, []),
    (.iload_n 2, 2, 2, 0, 0, 0, .inl 0, []),
    (.invokestatic 81, 5, 79, 2, 0, 1, .inl 0, []),
    (.istore 4, 7, 4, 0, 0, 0, .inl 0, []),
    (.iload_n 3, 8, 3, 0, 0, 0, .inl 0, []),
    (.aload_n 0, 9, 0, 0, 0, 0, .inl 0, []),
    (.iload 4, 11, 4, 0, 0, 0, .inl 0, []),
    (.invokevirtual 87, 14, 88, 2, 0, 7, .inl 0, []),
    (.isub, 15, 0, 0, 0, 0, .inl 0, []),
    (.bipush 60, 17, 0, 0, 0, 0, .inl 60, []),
    (.invokestatic 91, 20, 309, 2, 0, 1, .inl 0, []),
    (.istore 5, 22, 5, 0, 0, 0, .inl 0, []),
    (.iload 5, 24, 5, 0, 0, 0, .inl 0, []),
    (.iload_n 2, 25, 2, 0, 0, 0, .inl 0, []),
    (.invokestatic 96, 28, 80, 1, 0, 1, .inl 0, []),
    (.if_icmp .ge 11, 31, 39, 0, 0, 0, .inl 0, []),
    (.iload 4, 33, 4, 0, 0, 0, .inl 0, []),
    (.iload 5, 35, 5, 0, 0, 0, .inl 0, []),
    (.iadd, 36, 0, 0, 0, 0, .inl 0, []),
    (.goto 4, 39, 40, 0, 0, 0, .inl 0, [])]),
  (39, [(.iconst (-1), 40, 0, 0, 0, 0, .inl (-1), [])]),
  (40, [(.ireturn, 41, 0, 0, 0, 0, .inl 0, [])])]
def gT_X8_dayIn : gs_T := ([], gB_X8_dayIn, [])
set_option maxRecDepth 100000 in
def gB_X8_dayOf : List (Nat × List gs_N) := [(0, [(.aload_n 1, 1, 1, 0, 0, 0, .inl 0, []),
    (.invokevirtual 99, 4, 19, 1, 0, 2, .inl 0, []),
    (.ifCond .eq 7, 7, 11, 0, 0, 0, .inl 0, []),
    (.iconst (-1), 8, 0, 0, 0, 0, .inl (-1), []),
    (.goto 19, 11, 27, 0, 0, 0, .inl 0, [])]),
  (11, [(.aload_n 0, 12, 0, 0, 0, 0, .inl 0, []),
    (.aload_n 1, 13, 1, 0, 0, 0, .inl 0, []),
    (.getfield 103, 16, 2, 1, 0, 0, .inl 0, []),
    (.aload_n 1, 17, 1, 0, 0, 0, .inl 0, []),
    (.getfield 106, 20, 2, 3, 0, 0, .inl 0, []),
    (.aload_n 1, 21, 1, 0, 0, 0, .inl 0, []),
    (.getfield 109, 24, 2, 4, 0, 0, .inl 0, []),
    (.invokevirtual 112, 27, 89, 4, 0, 7, .inl 0, [])]),
  (27, [(.ireturn, 28, 0, 0, 0, 0, .inl 0, [])])]
def gT_X8_dayOf : gs_T := ([], gB_X8_dayOf, [])
set_option maxRecDepth 100000 in
def gB_X8_monthsWithRound : List (Nat × List gs_N) := [(0, [(.iconst 0, 1, 0, 0, 0, 0, .inl 0, []),
    (.istore_n 2, 2, 2, 0, 0, 0, .inl 0, []),
    (.iconst 1, 3, 0, 0, 0, 0, .inl 1, []),
    (.istore_n 3, 4, 3, 0, 0, 0, .inl 0, [])]),
  (4, [(.iload_n 3, 5, 3, 0, 0, 0, .inl 0, []),
    (.bipush 12, 7, 0, 0, 0, 0, .inl 12, []),
    (.if_icmp .gt 41, 10, 48, 0, 0, 0, .inl 0, []),
    (.aload_n 1, 11, 1, 0, 0, 0, .inl 0, []),
    (.invokevirtual 99, 14, 19, 1, 0, 2, .inl 0, []),
    (.ifCond .ne 34, 17, 48, 0, 0, 0, .inl 0, []),
    (.aload_n 0, 18, 0, 0, 0, 0, .inl 0, []),
    (.aload_n 1, 19, 1, 0, 0, 0, .inl 0, []),
    (.getfield 103, 22, 2, 1, 0, 0, .inl 0, []),
    (.iload_n 3, 23, 3, 0, 0, 0, .inl 0, []),
    (.aload_n 1, 24, 1, 0, 0, 0, .inl 0, []),
    (.getfield 109, 27, 2, 4, 0, 0, .inl 0, []),
    (.invokevirtual 112, 30, 89, 4, 0, 7, .inl 0, []),
    (.iconst (-1), 31, 0, 0, 0, 0, .inl (-1), []),
    (.if_icmp .eq 11, 34, 42, 0, 0, 0, .inl 0, []),
    (.iload_n 2, 35, 2, 0, 0, 0, .inl 0, []),
    (.iconst 1, 36, 0, 0, 0, 0, .inl 1, []),
    (.iload_n 3, 37, 3, 0, 0, 0, .inl 0, []),
    (.iconst 1, 38, 0, 0, 0, 0, .inl 1, []),
    (.isub, 39, 0, 0, 0, 0, .inl 0, []),
    (.ishl, 40, 0, 0, 0, 0, .inl 0, []),
    (.ior, 41, 0, 0, 0, 0, .inl 0, []),
    (.istore_n 2, 42, 2, 0, 0, 0, .inl 0, [])]),
  (42, [(.iinc 3 1, 45, 3, 0, 0, 0, .inl 1, []),
    (.goto (-41), 48, 4, 0, 0, 0, .inl 0, [])]),
  (48, [(.iload_n 2, 49, 2, 0, 0, 0, .inl 0, []),
    (.ireturn, 50, 0, 0, 0, 0, .inl 0, [])])]
def gT_X8_monthsWithRound : gs_T := ([], gB_X8_monthsWithRound, [(4, [0, 1, 2, 3])])
set_option maxRecDepth 100000 in
def gB_X8_yearsWithRound : List (Nat × List gs_N) := [(0, [(.aload_n 1, 1, 1, 0, 0, 0, .inl 0, []),
    (.invokevirtual 99, 4, 19, 1, 0, 2, .inl 0, []),
    (.ifCond .eq 7, 7, 11, 0, 0, 0, .inl 0, []),
    (.iconst 0, 8, 0, 0, 0, 0, .inl 0, []),
    (.goto 15, 11, 23, 0, 0, 0, .inl 0, [])]),
  (11, [(.aload_n 0, 12, 0, 0, 0, 0, .inl 0, []),
    (.getfield 14, 15, 7, 0, 2, 1, .inl 0, []),
    (.getfield 116, 18, 3, 1, 2, 1, .inl 0, []),
    (.aload_n 1, 19, 1, 0, 0, 0, .inl 0, []),
    (.getfield 120, 22, 2, 0, 0, 0, .inl 0, []),
    (.iaload, 23, 0, 0, 0, 0, .inl 0, [])]),
  (23, [(.istore_n 3, 24, 3, 0, 0, 0, .inl 0, []),
    (.aload_n 1, 25, 1, 0, 0, 0, .inl 0, []),
    (.invokevirtual 99, 28, 19, 1, 0, 2, .inl 0, []),
    (.ifCond .eq 7, 31, 35, 0, 0, 0, .inl 0, []),
    (.iconst 0, 32, 0, 0, 0, 0, .inl 0, []),
    (.goto 15, 35, 47, 0, 0, 0, .inl 0, [])]),
  (35, [(.aload_n 0, 36, 0, 0, 0, 0, .inl 0, []),
    (.getfield 14, 39, 7, 0, 2, 1, .inl 0, []),
    (.getfield 123, 42, 3, 2, 2, 1, .inl 0, []),
    (.aload_n 1, 43, 1, 0, 0, 0, .inl 0, []),
    (.getfield 120, 46, 2, 0, 0, 0, .inl 0, []),
    (.iaload, 47, 0, 0, 0, 0, .inl 0, [])]),
  (47, [(.istore 4, 49, 4, 0, 0, 0, .inl 0, []),
    (.iconst 0, 50, 0, 0, 0, 0, .inl 0, []),
    (.istore 5, 52, 5, 0, 0, 0, .inl 0, []),
    (.iload_n 3, 53, 3, 0, 0, 0, .inl 0, []),
    (.istore 6, 55, 6, 0, 0, 0, .inl 0, [])]),
  (55, [(.iload 6, 57, 6, 0, 0, 0, .inl 0, []),
    (.iload_n 3, 58, 3, 0, 0, 0, .inl 0, []),
    (.iload 4, 60, 4, 0, 0, 0, .inl 0, []),
    (.iadd, 61, 0, 0, 0, 0, .inl 0, []),
    (.if_icmp .ge 39, 64, 100, 0, 0, 0, .inl 0, []),
    (.aload_n 0, 65, 0, 0, 0, 0, .inl 0, []),
    (.iload 6, 67, 6, 0, 0, 0, .inl 0, []),
    (.aload_n 1, 68, 1, 0, 0, 0, .inl 0, []),
    (.getfield 106, 71, 2, 3, 0, 0, .inl 0, []),
    (.aload_n 1, 72, 1, 0, 0, 0, .inl 0, []),
    (.getfield 109, 75, 2, 4, 0, 0, .inl 0, []),
    (.invokevirtual 112, 78, 89, 4, 0, 7, .inl 0, []),
    (.iconst (-1), 79, 0, 0, 0, 0, .inl (-1), []),
    (.if_icmp .eq 15, 82, 94, 0, 0, 0, .inl 0, []),
    (.iload 5, 84, 5, 0, 0, 0, .inl 0, []),
    (.iload_n 2, 85, 2, 0, 0, 0, .inl 0, []),
    (.if_icmp .ne 6, 88, 91, 0, 0, 0, .inl 0, []),
    (.iload 6, 90, 6, 0, 0, 0, .inl 0, []),
    (.ireturn, 91, 0, 0, 0, 0, .inl 0, [])]),
  (91, [(.iinc 5 1, 94, 5, 0, 0, 0, .inl 1, [])]),
  (94, [(.iinc 6 1, 97, 6, 0, 0, 0, .inl 1, []),
    (.goto (-42), 100, 55, 0, 0, 0, .inl 0, [])]),
  (100, [(.iload_n 2, 101, 2, 0, 0, 0, .inl 0, []),
    (.iconst (-1), 102, 0, 0, 0, 0, .inl (-1), []),
    (.if_icmp .ne 8, 105, 110, 0, 0, 0, .inl 0, []),
    (.iload 5, 107, 5, 0, 0, 0, .inl 0, []),
    (.goto 4, 110, 111, 0, 0, 0, .inl 0, [])]),
  (110, [(.iconst (-1), 111, 0, 0, 0, 0, .inl (-1), [])]),
  (111, [(.ireturn, 112, 0, 0, 0, 0, .inl 0, [])])]
def gT_X8_yearsWithRound : gs_T := ([], gB_X8_yearsWithRound, [(55, [0, 1, 2, 3, 4, 5, 6])])
set_option maxRecDepth 100000 in
def gB_X8_placeX : List (Nat × List gs_N) := [(0, [(.aload_n 1, 1, 1, 0, 0, 0, .inl 0, []),
    (.getfield 126, 4, 2, 5, 0, 0, .inl 0, []),
    (.iconst (-1), 5, 0, 0, 0, 0, .inl (-1), []),
    (.if_icmp .ne 5, 8, 10, 0, 0, 0, .inl 0, []),
    (.iconst (-1), 9, 0, 0, 0, 0, .inl (-1), []),
    (.ireturn, 10, 0, 0, 0, 0, .inl 0, [])]),
  (10, [(.iload_n 2, 11, 2, 0, 0, 0, .inl 0, []),
    (.iconst 1, 12, 0, 0, 0, 0, .inl 1, []),
    (.iand, 13, 0, 0, 0, 0, .inl 0, []),
    (.ifCond .ne 10, 16, 23, 0, 0, 0, .inl 0, []),
    (.aload_n 1, 17, 1, 0, 0, 0, .inl 0, []),
    (.getfield 129, 20, 2, 8, 0, 0, .inl 0, []),
    (.goto 8, 23, 28, 0, 0, 0, .inl 0, [])]),
  (23, [(.aload_n 1, 24, 1, 0, 0, 0, .inl 0, []),
    (.getfield 129, 27, 2, 8, 0, 0, .inl 0, []),
    (.ineg, 28, 0, 0, 0, 0, .inl 0, [])]),
  (28, [(.istore_n 3, 29, 3, 0, 0, 0, .inl 0, []),
    (.aload_n 0, 30, 0, 0, 0, 0, .inl 0, []),
    (.getfield 20, 33, 7, 1, 2, 1, .inl 0, []),
    (.getfield 116, 36, 3, 1, 2, 1, .inl 0, []),
    (.aload_n 1, 37, 1, 0, 0, 0, .inl 0, []),
    (.getfield 126, 40, 2, 5, 0, 0, .inl 0, []),
    (.iaload, 41, 0, 0, 0, 0, .inl 0, []),
    (.iload_n 3, 42, 3, 0, 0, 0, .inl 0, []),
    (.aload_n 1, 43, 1, 0, 0, 0, .inl 0, []),
    (.getfield 132, 46, 2, 6, 0, 0, .inl 0, []),
    (.imul, 47, 0, 0, 0, 0, .inl 0, []),
    (.iadd, 48, 0, 0, 0, 0, .inl 0, []),
    (.bipush 120, 50, 0, 0, 0, 0, .inl 120, []),
    (.invokestatic 91, 53, 309, 2, 0, 1, .inl 0, []),
    (.ireturn, 54, 0, 0, 0, 0, .inl 0, [])])]
def gT_X8_placeX : gs_T := ([], gB_X8_placeX, [])
set_option maxRecDepth 100000 in
def gB_X8_placeY : List (Nat × List gs_N) := [(0, [(.aload_n 1, 1, 1, 0, 0, 0, .inl 0, []),
    (.getfield 126, 4, 2, 5, 0, 0, .inl 0, []),
    (.iconst (-1), 5, 0, 0, 0, 0, .inl (-1), []),
    (.if_icmp .ne 5, 8, 10, 0, 0, 0, .inl 0, []),
    (.iconst (-1), 9, 0, 0, 0, 0, .inl (-1), []),
    (.ireturn, 10, 0, 0, 0, 0, .inl 0, [])]),
  (10, [(.iload_n 2, 11, 2, 0, 0, 0, .inl 0, []),
    (.iconst 2, 12, 0, 0, 0, 0, .inl 2, []),
    (.iand, 13, 0, 0, 0, 0, .inl 0, []),
    (.ifCond .ne 10, 16, 23, 0, 0, 0, .inl 0, []),
    (.aload_n 1, 17, 1, 0, 0, 0, .inl 0, []),
    (.getfield 135, 20, 2, 9, 0, 0, .inl 0, []),
    (.goto 8, 23, 28, 0, 0, 0, .inl 0, [])]),
  (23, [(.aload_n 1, 24, 1, 0, 0, 0, .inl 0, []),
    (.getfield 135, 27, 2, 9, 0, 0, .inl 0, []),
    (.ineg, 28, 0, 0, 0, 0, .inl 0, [])]),
  (28, [(.istore_n 3, 29, 3, 0, 0, 0, .inl 0, []),
    (.aload_n 0, 30, 0, 0, 0, 0, .inl 0, []),
    (.getfield 20, 33, 7, 1, 2, 1, .inl 0, []),
    (.getfield 123, 36, 3, 2, 2, 1, .inl 0, []),
    (.aload_n 1, 37, 1, 0, 0, 0, .inl 0, []),
    (.getfield 126, 40, 2, 5, 0, 0, .inl 0, []),
    (.iaload, 41, 0, 0, 0, 0, .inl 0, []),
    (.iload_n 3, 42, 3, 0, 0, 0, .inl 0, []),
    (.aload_n 1, 43, 1, 0, 0, 0, .inl 0, []),
    (.getfield 132, 46, 2, 6, 0, 0, .inl 0, []),
    (.imul, 47, 0, 0, 0, 0, .inl 0, []),
    (.iadd, 48, 0, 0, 0, 0, .inl 0, []),
    (.istore 4, 50, 4, 0, 0, 0, .inl 0, []),
    (.iconst 0, 51, 0, 0, 0, 0, .inl 0, []),
    (.bipush 59, 53, 0, 0, 0, 0, .inl 59, []),
    (.iload 4, 55, 4, 0, 0, 0, .inl 0, []),
    (.invokestatic 138, 58, 314, 2, 0, 1, .inl 0, []),
    (.invokestatic 141, 61, 312, 2, 0, 1, .inl 0, []),
    (.ireturn, 62, 0, 0, 0, 0, .inl 0, [])])]
def gT_X8_placeY : gs_T := ([], gB_X8_placeY, [])
set_option maxRecDepth 100000 in
def gB_X8_sortOf : List (Nat × List gs_N) := [(0, [(.iconst 0, 1, 0, 0, 0, 0, .inl 0, []),
    (.istore_n 2, 2, 2, 0, 0, 0, .inl 0, [])]),
  (2, [(.iload_n 2, 3, 2, 0, 0, 0, .inl 0, []),
    (.aload_n 0, 4, 0, 0, 0, 0, .inl 0, []),
    (.getfield 26, 7, 7, 3, 2, 1, .inl 0, []),
    (.getfield 64, 10, 3, 3, 0, 0, .inl 0, []),
    (.if_icmp .ge 34, 13, 44, 0, 0, 0, .inl 0, []),
    (.aload_n 0, 14, 0, 0, 0, 0, .inl 0, []),
    (.aload_n 1, 15, 1, 0, 0, 0, .inl 0, []),
    (.iload_n 2, 16, 2, 0, 0, 0, .inl 0, []),
    (.invokevirtual 144, 19, 96, 3, 1, 7, .inl 0, []),
    (.lstore_n 3, 20, 3, 0, 0, 0, .inl 0, []),
    (.aload_n 0, 21, 0, 0, 0, 0, .inl 0, []),
    (.getfield 32, 24, 7, 4, 2, 1, .inl 0, []),
    (.getfield 148, 27, 6, 4, 3, 0, .inl 0, []),
    (.ifCond .ne 11, 30, 38, 0, 0, 0, .inl 0, []),
    (.lload_n 3, 31, 3, 0, 0, 0, .inl 0, []),
    (.lconst 0, 32, 0, 0, 0, 0, .inr (.inl 0), []),
    (.lcmp, 33, 0, 0, 0, 0, .inl 0, []),
    (.ifCond .eq 5, 36, 38, 0, 0, 0, .inl 0, []),
    (.iload_n 2, 37, 2, 0, 0, 0, .inl 0, []),
    (.ireturn, 38, 0, 0, 0, 0, .inl 0, [])]),
  (38, [(.iinc 2 1, 41, 2, 0, 0, 0, .inl 1, []),
    (.goto (-39), 44, 2, 0, 0, 0, .inl 0, [])]),
  (44, [(.iconst (-1), 45, 0, 0, 0, 0, .inl (-1), []),
    (.ireturn, 46, 0, 0, 0, 0, .inl 0, [])])]
def gT_X8_sortOf : gs_T := ([], gB_X8_sortOf, [(2, [0, 1, 2])])
set_option maxRecDepth 100000 in
def gB_X8_sortValue : List (Nat × List gs_N) := [(0, [(.iload_n 2, 1, 2, 0, 0, 0, .inl 0, []),
    (.ifCond .ne 7, 4, 8, 0, 0, 0, .inl 0, []),
    (.iconst 0, 5, 0, 0, 0, 0, .inl 0, []),
    (.goto 14, 8, 19, 0, 0, 0, .inl 0, [])]),
  (8, [(.aload_n 0, 9, 0, 0, 0, 0, .inl 0, []),
    (.getfield 26, 12, 7, 3, 2, 1, .inl 0, []),
    (.getfield 123, 15, 3, 2, 2, 1, .inl 0, []),
    (.iload_n 2, 16, 2, 0, 0, 0, .inl 0, []),
    (.iconst 1, 17, 0, 0, 0, 0, .inl 1, []),
    (.isub, 18, 0, 0, 0, 0, .inl 0, []),
    (.iaload, 19, 0, 0, 0, 0, .inl 0, [])]),
  (19, [(.istore_n 3, 20, 3, 0, 0, 0, .inl 0, []),
    (.aload_n 0, 21, 0, 0, 0, 0, .inl 0, []),
    (.getfield 32, 24, 7, 4, 2, 1, .inl 0, []),
    (.iload_n 3, 25, 3, 0, 0, 0, .inl 0, []),
    (.aload_n 0, 26, 0, 0, 0, 0, .inl 0, []),
    (.getfield 26, 29, 7, 3, 2, 1, .inl 0, []),
    (.getfield 123, 32, 3, 2, 2, 1, .inl 0, []),
    (.iload_n 2, 33, 2, 0, 0, 0, .inl 0, []),
    (.iaload, 34, 0, 0, 0, 0, .inl 0, []),
    (.aload_n 1, 35, 1, 0, 0, 0, .inl 0, []),
    (.invokevirtual 152, 38, 73, 4, 1, 6, .inl 0, []),
    (.lreturn, 39, 0, 0, 0, 0, .inl 0, [])])]
def gT_X8_sortValue : gs_T := ([], gB_X8_sortValue, [])
set_option maxRecDepth 100000 in
def gB_X8_sortWeight : List (Nat × List gs_N) := [(0, [(.aload_n 0, 1, 0, 0, 0, 0, .inl 0, []),
    (.aload_n 1, 2, 1, 0, 0, 0, .inl 0, []),
    (.iload_n 2, 3, 2, 0, 0, 0, .inl 0, []),
    (.invokevirtual 144, 6, 96, 3, 1, 7, .inl 0, []),
    (.lstore_n 3, 7, 3, 0, 0, 0, .inl 0, []),
    (.aload_n 0, 8, 0, 0, 0, 0, .inl 0, []),
    (.getfield 26, 11, 7, 3, 2, 1, .inl 0, []),
    (.getfield 116, 14, 3, 1, 2, 1, .inl 0, []),
    (.iload_n 2, 15, 2, 0, 0, 0, .inl 0, []),
    (.iaload, 16, 0, 0, 0, 0, .inl 0, []),
    (.i2l, 17, 0, 0, 0, 0, .inl 0, []),
    (.lconst 0, 18, 0, 0, 0, 0, .inr (.inl 0), []),
    (.ldc2_w 156, 21, 0, 0, 0, 0, .inr (.inl 9999), []),
    (.lload_n 3, 22, 3, 0, 0, 0, .inl 0, []),
    (.invokestatic 158, 25, 315, 2, 1, 1, .inl 0, []),
    (.invokestatic 161, 28, 313, 2, 1, 1, .inl 0, []),
    (.lmul, 29, 0, 0, 0, 0, .inl 0, []),
    (.lreturn, 30, 0, 0, 0, 0, .inl 0, [])])]
def gT_X8_sortWeight : gs_T := ([], gB_X8_sortWeight, [])
set_option maxRecDepth 100000 in
def gB_X8_readingToll : List (Nat × List gs_N) := [(0, [(.aload_n 0, 1, 0, 0, 0, 0, .inl 0, []),
    (.aload_n 1, 2, 1, 0, 0, 0, .inl 0, []),
    (.iload_n 3, 3, 3, 0, 0, 0, .inl 0, []),
    (.invokevirtual 163, 6, 93, 3, 0, 7, .inl 0, []),
    (.aload_n 0, 7, 0, 0, 0, 0, .inl 0, []),
    (.aload_n 1, 8, 1, 0, 0, 0, .inl 0, []),
    (.iload_n 3, 9, 3, 0, 0, 0, .inl 0, []),
    (.invokevirtual 167, 12, 94, 3, 0, 7, .inl 0, []),
    (.aload_n 2, 13, 2, 0, 0, 0, .inl 0, []),
    (.getfield 170, 16, 0, 0, 0, 0, .inl 0, []),
    (.aload_n 2, 17, 2, 0, 0, 0, .inl 0, []),
    (.getfield 173, 20, 0, 1, 0, 0, .inl 0, []),
    (.invokestatic 176, 23, 81, 4, 0, 1, .inl 0, []),
    (.istore 4, 25, 4, 0, 0, 0, .inl 0, []),
    (.iload 4, 27, 4, 0, 0, 0, .inl 0, []),
    (.aload_n 0, 28, 0, 0, 0, 0, .inl 0, []),
    (.getfield 57, 31, 7, 11, 0, 0, .inl 0, []),
    (.iload_n 3, 32, 3, 0, 0, 0, .inl 0, []),
    (.invokestatic 180, 35, 308, 1, 0, 1, .inl 0, []),
    (.imul, 36, 0, 0, 0, 0, .inl 0, []),
    (.iadd, 37, 0, 0, 0, 0, .inl 0, []),
    (.ireturn, 38, 0, 0, 0, 0, .inl 0, [])])]
def gT_X8_readingToll : gs_T := ([], gB_X8_readingToll, [])
set_option maxRecDepth 100000 in
def gB_X8_bestReading : List (Nat × List gs_N) := [(0, [(.aload_n 1, 1, 1, 0, 0, 0, .inl 0, []),
    (.getfield 126, 4, 2, 5, 0, 0, .inl 0, []),
    (.iconst (-1), 5, 0, 0, 0, 0, .inl (-1), []),
    (.if_icmp .ne 5, 8, 10, 0, 0, 0, .inl 0, []),
    (.iconst (-1), 9, 0, 0, 0, 0, .inl (-1), []),
    (.ireturn, 10, 0, 0, 0, 0, .inl 0, [])]),
  (10, [(.iconst 0, 11, 0, 0, 0, 0, .inl 0, []),
    (.istore_n 3, 12, 3, 0, 0, 0, .inl 0, []),
    (.iconst 1, 13, 0, 0, 0, 0, .inl 1, []),
    (.istore 4, 15, 4, 0, 0, 0, .inl 0, [])]),
  (15, [(.iload 4, 17, 4, 0, 0, 0, .inl 0, []),
    (.iconst 4, 18, 0, 0, 0, 0, .inl 4, []),
    (.if_icmp .ge 40, 21, 58, 0, 0, 0, .inl 0, []),
    (.aload_n 1, 22, 1, 0, 0, 0, .inl 0, []),
    (.invokevirtual 185, 25, 24, 1, 0, 2, .inl 0, []),
    (.iload 4, 27, 4, 0, 0, 0, .inl 0, []),
    (.iand, 28, 0, 0, 0, 0, .inl 0, []),
    (.ifCond .eq 24, 31, 52, 0, 0, 0, .inl 0, []),
    (.aload_n 0, 32, 0, 0, 0, 0, .inl 0, []),
    (.aload_n 1, 33, 1, 0, 0, 0, .inl 0, []),
    (.aload_n 2, 34, 2, 0, 0, 0, .inl 0, []),
    (.iload 4, 36, 4, 0, 0, 0, .inl 0, []),
    (.invokevirtual 189, 39, 98, 4, 0, 7, .inl 0, []),
    (.aload_n 0, 40, 0, 0, 0, 0, .inl 0, []),
    (.aload_n 1, 41, 1, 0, 0, 0, .inl 0, []),
    (.aload_n 2, 42, 2, 0, 0, 0, .inl 0, []),
    (.iload_n 3, 43, 3, 0, 0, 0, .inl 0, []),
    (.invokevirtual 189, 46, 98, 4, 0, 7, .inl 0, []),
    (.if_icmp .ge 6, 49, 52, 0, 0, 0, .inl 0, []),
    (.iload 4, 51, 4, 0, 0, 0, .inl 0, []),
    (.istore_n 3, 52, 3, 0, 0, 0, .inl 0, [])]),
  (52, [(.iinc 4 1, 55, 4, 0, 0, 0, .inl 1, []),
    (.goto (-40), 58, 15, 0, 0, 0, .inl 0, [])]),
  (58, [(.iload_n 3, 59, 3, 0, 0, 0, .inl 0, []),
    (.ireturn, 60, 0, 0, 0, 0, .inl 0, [])])]
def gT_X8_bestReading : gs_T := ([], gB_X8_bestReading, [(15, [0, 1, 2, 3, 4])])
set_option maxRecDepth 100000 in
def gB_X8_tollOf : List (Nat × List gs_N) := [(0, [(.aload_n 0, 1, 0, 0, 0, 0, .inl 0, []),
    (.aload_n 1, 2, 1, 0, 0, 0, .inl 0, []),
    (.aload_n 2, 3, 2, 0, 0, 0, .inl 0, []),
    (.invokevirtual 193, 6, 99, 3, 0, 7, .inl 0, []),
    (.istore_n 3, 7, 3, 0, 0, 0, .inl 0, []),
    (.iload_n 3, 8, 3, 0, 0, 0, .inl 0, []),
    (.iconst (-1), 9, 0, 0, 0, 0, .inl (-1), []),
    (.if_icmp .ne 8, 12, 17, 0, 0, 0, .inl 0, []),
    (.bipush 20, 14, 0, 0, 0, 0, .inl 20, []),
    (.goto 10, 17, 24, 0, 0, 0, .inl 0, [])]),
  (17, [(.aload_n 0, 18, 0, 0, 0, 0, .inl 0, []),
    (.aload_n 1, 19, 1, 0, 0, 0, .inl 0, []),
    (.aload_n 2, 20, 2, 0, 0, 0, .inl 0, []),
    (.iload_n 3, 21, 3, 0, 0, 0, .inl 0, []),
    (.invokevirtual 189, 24, 98, 4, 0, 7, .inl 0, [])]),
  (24, [(.istore 4, 26, 4, 0, 0, 0, .inl 0, []),
    (.iload 4, 28, 4, 0, 0, 0, .inl 0, []),
    (.aload_n 2, 29, 2, 0, 0, 0, .inl 0, []),
    (.aload_n 1, 30, 1, 0, 0, 0, .inl 0, []),
    (.invokevirtual 197, 33, 9, 2, 0, 0, .inl 0, []),
    (.bipush 10, 35, 0, 0, 0, 0, .inl 10, []),
    (.idiv, 36, 0, 0, 0, 0, .inl 0, []),
    (.iadd, 37, 0, 0, 0, 0, .inl 0, []),
    (.ireturn, 38, 0, 0, 0, 0, .inl 0, [])])]
def gT_X8_tollOf : gs_T := ([], gB_X8_tollOf, [])
set_option maxRecDepth 100000 in
def gB_X8_cloudsByPlace : List (Nat × List gs_N) := [(0, [(.iconst 0, 1, 0, 0, 0, 0, .inl 0, []),
    (.istore 4, 3, 4, 0, 0, 0, .inl 0, []),
    (.iconst 0, 4, 0, 0, 0, 0, .inl 0, []),
    (.istore 5, 6, 5, 0, 0, 0, .inl 0, [])]),
  (6, [(.iload 5, 8, 5, 0, 0, 0, .inl 0, []),
    (.aload_n 0, 9, 0, 0, 0, 0, .inl 0, []),
    (.getfield 72, 12, 7, 9, 0, 0, .inl 0, []),
    (.if_icmp .ge 76, 15, 88, 0, 0, 0, .inl 0, []),
    (.aload_n 0, 16, 0, 0, 0, 0, .inl 0, []),
    (.getfield 51, 19, 7, 7, 2, 1, .inl 0, []),
    (.iload 5, 21, 5, 0, 0, 0, .inl 0, []),
    (.aaload, 22, 0, 0, 0, 0, .inl 0, []),
    (.astore 6, 24, 6, 0, 0, 0, .inl 0, []),
    (.aload_n 1, 25, 1, 0, 0, 0, .inl 0, []),
    (.getfield 126, 28, 2, 5, 0, 0, .inl 0, []),
    (.iconst (-1), 29, 0, 0, 0, 0, .inl (-1), []),
    (.if_icmp .ne 8, 32, 37, 0, 0, 0, .inl 0, []),
    (.bipush 20, 34, 0, 0, 0, 0, .inl 20, []),
    (.goto 18, 37, 52, 0, 0, 0, .inl 0, [])]),
  (37, [(.iload_n 2, 38, 2, 0, 0, 0, .inl 0, []),
    (.iload_n 3, 39, 3, 0, 0, 0, .inl 0, []),
    (.aload 6, 41, 6, 0, 0, 0, .inl 0, []),
    (.getfield 170, 44, 0, 0, 0, 0, .inl 0, []),
    (.aload 6, 46, 6, 0, 0, 0, .inl 0, []),
    (.getfield 173, 49, 0, 1, 0, 0, .inl 0, []),
    (.invokestatic 176, 52, 81, 4, 0, 1, .inl 0, [])]),
  (52, [(.istore 7, 54, 7, 0, 0, 0, .inl 0, []),
    (.iload 7, 56, 7, 0, 0, 0, .inl 0, []),
    (.aload 6, 58, 6, 0, 0, 0, .inl 0, []),
    (.aload_n 1, 59, 1, 0, 0, 0, .inl 0, []),
    (.invokevirtual 197, 62, 9, 2, 0, 0, .inl 0, []),
    (.bipush 10, 64, 0, 0, 0, 0, .inl 10, []),
    (.idiv, 65, 0, 0, 0, 0, .inl 0, []),
    (.iadd, 66, 0, 0, 0, 0, .inl 0, []),
    (.aload_n 0, 67, 0, 0, 0, 0, .inl 0, []),
    (.getfield 61, 70, 7, 12, 0, 0, .inl 0, []),
    (.if_icmp .gt 12, 73, 82, 0, 0, 0, .inl 0, []),
    (.iload 4, 75, 4, 0, 0, 0, .inl 0, []),
    (.iconst 1, 76, 0, 0, 0, 0, .inl 1, []),
    (.iload 5, 78, 5, 0, 0, 0, .inl 0, []),
    (.ishl, 79, 0, 0, 0, 0, .inl 0, []),
    (.ior, 80, 0, 0, 0, 0, .inl 0, []),
    (.istore 4, 82, 4, 0, 0, 0, .inl 0, [])]),
  (82, [(.iinc 5 1, 85, 5, 0, 0, 0, .inl 1, []),
    (.goto (-79), 88, 6, 0, 0, 0, .inl 0, [])]),
  (88, [(.iload 4, 90, 4, 0, 0, 0, .inl 0, []),
    (.ireturn, 91, 0, 0, 0, 0, .inl 0, [])])]
def gT_X8_cloudsByPlace : gs_T := ([], gB_X8_cloudsByPlace, [(6, [0, 1, 2, 3, 4, 5])])
set_option maxRecDepth 100000 in
def gB_X8_hasCloudNear : List (Nat × List gs_N) := [(0, [(.iconst 0, 1, 0, 0, 0, 0, .inl 0, []),
    (.istore 4, 3, 4, 0, 0, 0, .inl 0, [])]),
  (3, [(.iload 4, 5, 4, 0, 0, 0, .inl 0, []),
    (.aload_n 0, 6, 0, 0, 0, 0, .inl 0, []),
    (.getfield 72, 9, 7, 9, 0, 0, .inl 0, []),
    (.if_icmp .ge 40, 12, 49, 0, 0, 0, .inl 0, []),
    (.iload_n 1, 13, 1, 0, 0, 0, .inl 0, []),
    (.iload_n 2, 14, 2, 0, 0, 0, .inl 0, []),
    (.aload_n 0, 15, 0, 0, 0, 0, .inl 0, []),
    (.getfield 51, 18, 7, 7, 2, 1, .inl 0, []),
    (.iload 4, 20, 4, 0, 0, 0, .inl 0, []),
    (.aaload, 21, 0, 0, 0, 0, .inl 0, []),
    (.getfield 170, 24, 0, 0, 0, 0, .inl 0, []),
    (.aload_n 0, 25, 0, 0, 0, 0, .inl 0, []),
    (.getfield 51, 28, 7, 7, 2, 1, .inl 0, []),
    (.iload 4, 30, 4, 0, 0, 0, .inl 0, []),
    (.aaload, 31, 0, 0, 0, 0, .inl 0, []),
    (.getfield 173, 34, 0, 1, 0, 0, .inl 0, []),
    (.invokestatic 176, 37, 81, 4, 0, 1, .inl 0, []),
    (.iload_n 3, 38, 3, 0, 0, 0, .inl 0, []),
    (.if_icmp .gt 5, 41, 43, 0, 0, 0, .inl 0, []),
    (.iconst 1, 42, 0, 0, 0, 0, .inl 1, []),
    (.ireturn, 43, 1, 0, 0, 0, .inl 0, [])]),
  (43, [(.iinc 4 1, 46, 4, 0, 0, 0, .inl 1, []),
    (.goto (-43), 49, 3, 0, 0, 0, .inl 0, [])]),
  (49, [(.iconst 0, 50, 0, 0, 0, 0, .inl 0, []),
    (.ireturn, 51, 1, 0, 0, 0, .inl 0, [])])]
def gT_X8_hasCloudNear : gs_T := ([], gB_X8_hasCloudNear, [(3, [0, 1, 2, 3, 4])])
set_option maxRecDepth 100000 in
def gB_X8_areOne : List (Nat × List gs_N) := [(0, [(.aload_n 1, 1, 1, 0, 0, 0, .inl 0, []),
    (.invokevirtual 99, 4, 19, 1, 0, 2, .inl 0, []),
    (.ifCond .ne 21, 7, 25, 0, 0, 0, .inl 0, []),
    (.aload_n 2, 8, 2, 0, 0, 0, .inl 0, []),
    (.invokevirtual 99, 11, 19, 1, 0, 2, .inl 0, []),
    (.ifCond .ne 14, 14, 25, 0, 0, 0, .inl 0, []),
    (.aload_n 1, 15, 1, 0, 0, 0, .inl 0, []),
    (.getfield 103, 18, 2, 1, 0, 0, .inl 0, []),
    (.aload_n 2, 19, 2, 0, 0, 0, .inl 0, []),
    (.getfield 103, 22, 2, 1, 0, 0, .inl 0, []),
    (.if_icmp .eq 5, 25, 27, 0, 0, 0, .inl 0, [])]),
  (25, [(.iconst 0, 26, 0, 0, 0, 0, .inl 0, []),
    (.ireturn, 27, 1, 0, 0, 0, .inl 0, [])]),
  (27, [(.aload_n 0, 28, 0, 0, 0, 0, .inl 0, []),
    (.aload_n 1, 29, 1, 0, 0, 0, .inl 0, []),
    (.invokevirtual 201, 32, 90, 2, 0, 7, .inl 0, []),
    (.istore_n 3, 33, 3, 0, 0, 0, .inl 0, []),
    (.aload_n 0, 34, 0, 0, 0, 0, .inl 0, []),
    (.aload_n 2, 35, 2, 0, 0, 0, .inl 0, []),
    (.invokevirtual 201, 38, 90, 2, 0, 7, .inl 0, []),
    (.istore 4, 40, 4, 0, 0, 0, .inl 0, []),
    (.iload_n 3, 41, 3, 0, 0, 0, .inl 0, []),
    (.iconst (-1), 42, 0, 0, 0, 0, .inl (-1), []),
    (.if_icmp .eq 9, 45, 51, 0, 0, 0, .inl 0, []),
    (.iload 4, 47, 4, 0, 0, 0, .inl 0, []),
    (.iconst (-1), 48, 0, 0, 0, 0, .inl (-1), []),
    (.if_icmp .ne 22, 51, 70, 0, 0, 0, .inl 0, [])]),
  (51, [(.aload_n 1, 52, 1, 0, 0, 0, .inl 0, []),
    (.getfield 106, 55, 2, 3, 0, 0, .inl 0, []),
    (.aload_n 2, 56, 2, 0, 0, 0, .inl 0, []),
    (.getfield 106, 59, 2, 3, 0, 0, .inl 0, []),
    (.if_icmp .ne 7, 62, 66, 0, 0, 0, .inl 0, []),
    (.iconst 1, 63, 0, 0, 0, 0, .inl 1, []),
    (.goto 23, 66, 86, 0, 0, 0, .inl 0, [])]),
  (66, [(.iconst 0, 67, 0, 0, 0, 0, .inl 0, []),
    (.goto 19, 70, 86, 0, 0, 0, .inl 0, [])]),
  (70, [(.iload_n 3, 71, 3, 0, 0, 0, .inl 0, []),
    (.iload 4, 73, 4, 0, 0, 0, .inl 0, []),
    (.isub, 74, 0, 0, 0, 0, .inl 0, []),
    (.invokestatic 204, 77, 310, 1, 0, 1, .inl 0, []),
    (.iconst 5, 78, 0, 0, 0, 0, .inl 5, []),
    (.if_icmp .gt 7, 81, 85, 0, 0, 0, .inl 0, []),
    (.iconst 1, 82, 0, 0, 0, 0, .inl 1, []),
    (.goto 4, 85, 86, 0, 0, 0, .inl 0, [])]),
  (85, [(.iconst 0, 86, 0, 0, 0, 0, .inl 0, [])]),
  (86, [(.istore 5, 88, 5, 0, 0, 0, .inl 0, []),
    (.iload 5, 90, 5, 0, 0, 0, .inl 0, []),
    (.ifCond .eq 19, 93, 109, 0, 0, 0, .inl 0, []),
    (.aload_n 1, 94, 1, 0, 0, 0, .inl 0, []),
    (.getfield 126, 97, 2, 5, 0, 0, .inl 0, []),
    (.iconst (-1), 98, 0, 0, 0, 0, .inl (-1), []),
    (.if_icmp .eq 11, 101, 109, 0, 0, 0, .inl 0, []),
    (.aload_n 2, 102, 2, 0, 0, 0, .inl 0, []),
    (.getfield 126, 105, 2, 5, 0, 0, .inl 0, []),
    (.iconst (-1), 106, 0, 0, 0, 0, .inl (-1), []),
    (.if_icmp .ne 6, 109, 112, 0, 0, 0, .inl 0, [])]),
  (109, [(.iload 5, 111, 5, 0, 0, 0, .inl 0, []),
    (.ireturn, 112, 1, 0, 0, 0, .inl 0, [])]),
  (112, [(.aload_n 0, 113, 0, 0, 0, 0, .inl 0, []),
    (.aload_n 1, 114, 1, 0, 0, 0, .inl 0, []),
    (.iconst 0, 115, 0, 0, 0, 0, .inl 0, []),
    (.invokevirtual 163, 118, 93, 3, 0, 7, .inl 0, []),
    (.aload_n 0, 119, 0, 0, 0, 0, .inl 0, []),
    (.aload_n 1, 120, 1, 0, 0, 0, .inl 0, []),
    (.iconst 0, 121, 0, 0, 0, 0, .inl 0, []),
    (.invokevirtual 167, 124, 94, 3, 0, 7, .inl 0, []),
    (.aload_n 0, 125, 0, 0, 0, 0, .inl 0, []),
    (.aload_n 2, 126, 2, 0, 0, 0, .inl 0, []),
    (.iconst 0, 127, 0, 0, 0, 0, .inl 0, []),
    (.invokevirtual 163, 130, 93, 3, 0, 7, .inl 0, []),
    (.aload_n 0, 131, 0, 0, 0, 0, .inl 0, []),
    (.aload_n 2, 132, 2, 0, 0, 0, .inl 0, []),
    (.iconst 0, 133, 0, 0, 0, 0, .inl 0, []),
    (.invokevirtual 167, 136, 94, 3, 0, 7, .inl 0, []),
    (.invokestatic 176, 139, 81, 4, 0, 1, .inl 0, []),
    (.iconst 3, 140, 0, 0, 0, 0, .inl 3, []),
    (.if_icmp .gt 7, 143, 147, 0, 0, 0, .inl 0, []),
    (.iconst 1, 144, 0, 0, 0, 0, .inl 1, []),
    (.goto 4, 147, 148, 0, 0, 0, .inl 0, [])]),
  (147, [(.iconst 0, 148, 0, 0, 0, 0, .inl 0, [])]),
  (148, [(.ireturn, 149, 1, 0, 0, 0, .inl 0, [])])]
def gT_X8_areOne : gs_T := ([], gB_X8_areOne, [(86, [0, 1, 2])])
set_option maxRecDepth 100000 in
def gB_X8_isCopyOf : List (Nat × List gs_N) := [(0, [(.iload_n 1, 1, 1, 0, 0, 0, .inl 0, []),
    (.istore_n 3, 2, 3, 0, 0, 0, .inl 0, []),
    (.iconst 0, 3, 0, 0, 0, 0, .inl 0, []),
    (.istore 4, 5, 4, 0, 0, 0, .inl 0, [])]),
  (5, [(.iload 4, 7, 4, 0, 0, 0, .inl 0, []),
    (.bipush 8, 9, 0, 0, 0, 0, .inl 8, []),
    (.if_icmp .ge 31, 12, 40, 0, 0, 0, .inl 0, []),
    (.iload_n 3, 13, 3, 0, 0, 0, .inl 0, []),
    (.iconst (-1), 14, 0, 0, 0, 0, .inl (-1), []),
    (.if_icmp .eq 26, 17, 40, 0, 0, 0, .inl 0, []),
    (.aload_n 0, 18, 0, 0, 0, 0, .inl 0, []),
    (.getfield 23, 21, 7, 2, 2, 1, .inl 0, []),
    (.getfield 116, 24, 3, 1, 2, 1, .inl 0, []),
    (.iload_n 3, 25, 3, 0, 0, 0, .inl 0, []),
    (.iaload, 26, 0, 0, 0, 0, .inl 0, []),
    (.istore_n 3, 27, 3, 0, 0, 0, .inl 0, []),
    (.iload_n 3, 28, 3, 0, 0, 0, .inl 0, []),
    (.iload_n 2, 29, 2, 0, 0, 0, .inl 0, []),
    (.if_icmp .ne 5, 32, 34, 0, 0, 0, .inl 0, []),
    (.iconst 1, 33, 0, 0, 0, 0, .inl 1, []),
    (.ireturn, 34, 1, 0, 0, 0, .inl 0, [])]),
  (34, [(.iinc 4 1, 37, 4, 0, 0, 0, .inl 1, []),
    (.goto (-32), 40, 5, 0, 0, 0, .inl 0, [])]),
  (40, [(.iconst 0, 41, 0, 0, 0, 0, .inl 0, []),
    (.ireturn, 42, 1, 0, 0, 0, .inl 0, [])])]
def gT_X8_isCopyOf : gs_T := ([], gB_X8_isCopyOf, [(5, [0, 2, 3, 4])])
set_option maxRecDepth 100000 in
def gB_X9_init : List (Nat × List gs_N) := [(0, [(.aload_n 0, 1, 0, 0, 0, 0, .inl 0, []),
    (.invokespecial 3, 4, 9000, 1, 2, 92, .inl 0, []),
    (.aload_n 0, 5, 0, 0, 0, 0, .inl 0, []),
    (.sipush 800, 8, 0, 0, 0, 0, .inl 800, []),
    (.newarray .byte, 10, 12, 0, 0, 0, .inl 0, []),
    (.putfield 9, 13, 8, 0, 2, 1, .inl 0, []),
    (.aload_n 0, 14, 0, 0, 0, 0, .inl 0, []),
    (.bipush 32, 16, 0, 0, 0, 0, .inl 32, []),
    (.newarray .int, 18, 13, 0, 0, 0, .inl 0, []),
    (.putfield 15, 21, 8, 1, 2, 1, .inl 0, []),
    (.iconst 0, 22, 0, 0, 0, 0, .inl 0, []),
    (.istore_n 1, 23, 1, 0, 0, 0, .inl 0, []),
    (.iconst 0, 24, 0, 0, 0, 0, .inl 0, []),
    (.istore_n 2, 25, 2, 0, 0, 0, .inl 0, []),
    (.iconst 0, 26, 0, 0, 0, 0, .inl 0, []),
    (.istore_n 3, 27, 3, 0, 0, 0, .inl 0, [])]),
  (27, [(.iload_n 3, 28, 3, 0, 0, 0, .inl 0, []),
    (.ldc 19, 30, 1, 0, 0, 0, .inr (.inr 100001), []),
    (.invokevirtual 21, 33, 9001, 1, 0, 90, .inl 0, []),
    (.if_icmp .ge 79, 36, 112, 0, 0, 0, .inl 0, []),
    (.iload_n 1, 37, 1, 0, 0, 0, .inl 0, []),
    (.bipush 32, 39, 0, 0, 0, 0, .inl 32, []),
    (.if_icmp .ge 73, 42, 112, 0, 0, 0, .inl 0, []),
    (.ldc 19, 44, 1, 0, 0, 0, .inr (.inr 100001), []),
    (.iload_n 3, 45, 3, 0, 0, 0, .inl 0, []),
    (.invokevirtual 27, 48, 9002, 2, 0, 91, .inl 0, []),
    (.bipush 32, 50, 0, 0, 0, 0, .inl 32, []),
    (.if_icmp .ne 30, 53, 80, 0, 0, 0, .inl 0, []),
    (.aload_n 0, 54, 0, 0, 0, 0, .inl 0, []),
    (.getfield 15, 57, 8, 1, 2, 1, .inl 0, []),
    (.iload_n 1, 58, 1, 0, 0, 0, .inl 0, []),
    (.dup2, 59, 0, 0, 0, 0, .inl 0, []),
    (.iaload, 60, 0, 0, 0, 0, .inl 0, []),
    (.iconst 5, 61, 0, 0, 0, 0, .inl 5, []),
    (.bipush 6, 63, 0, 0, 0, 0, .inl 6, []),
    (.iload_n 3, 64, 3, 0, 0, 0, .inl 0, []),
    (.iload_n 2, 65, 2, 0, 0, 0, .inl 0, []),
    (.isub, 66, 0, 0, 0, 0, .inl 0, []),
    (.isub, 67, 0, 0, 0, 0, .inl 0, []),
    (.imul, 68, 0, 0, 0, 0, .inl 0, []),
    (.ishl, 69, 0, 0, 0, 0, .inl 0, []),
    (.iastore, 70, 0, 0, 0, 0, .inl 0, []),
    (.iinc 1 1, 73, 1, 0, 0, 0, .inl 1, []),
    (.iload_n 3, 74, 3, 0, 0, 0, .inl 0, []),
    (.iconst 1, 75, 0, 0, 0, 0, .inl 1, []),
    (.iadd, 76, 0, 0, 0, 0, .inl 0, []),
    (.istore_n 2, 77, 2, 0, 0, 0, .inl 0, []),
    (.goto 29, 80, 106, 0, 0, 0, .inl 0, [])]),
  (80, [(.aload_n 0, 81, 0, 0, 0, 0, .inl 0, []),
    (.getfield 15, 84, 8, 1, 2, 1, .inl 0, []),
    (.iload_n 1, 85, 1, 0, 0, 0, .inl 0, []),
    (.aload_n 0, 86, 0, 0, 0, 0, .inl 0, []),
    (.getfield 15, 89, 8, 1, 2, 1, .inl 0, []),
    (.iload_n 1, 90, 1, 0, 0, 0, .inl 0, []),
    (.iaload, 91, 0, 0, 0, 0, .inl 0, []),
    (.iconst 5, 92, 0, 0, 0, 0, .inl 5, []),
    (.ishl, 93, 0, 0, 0, 0, .inl 0, []),
    (.ldc 19, 95, 1, 0, 0, 0, .inr (.inr 100001), []),
    (.iload_n 3, 96, 3, 0, 0, 0, .inl 0, []),
    (.invokevirtual 27, 99, 9002, 2, 0, 91, .inl 0, []),
    (.bipush 97, 101, 0, 0, 0, 0, .inl 97, []),
    (.isub, 102, 0, 0, 0, 0, .inl 0, []),
    (.iconst 1, 103, 0, 0, 0, 0, .inl 1, []),
    (.iadd, 104, 0, 0, 0, 0, .inl 0, []),
    (.ior, 105, 0, 0, 0, 0, .inl 0, []),
    (.iastore, 106, 0, 0, 0, 0, .inl 0, [])]),
  (106, [(.iinc 3 1, 109, 3, 0, 0, 0, .inl 1, []),
    (.goto (-82), 112, 27, 0, 0, 0, .inl 0, [])]),
  (112, [(.return_, 113, 0, 0, 0, 0, .inl 0, [])])]
def gT_X9_init : gs_T := ([], gB_X9_init, [(27, [0, 1, 2, 3])])
set_option maxRecDepth 100000 in
def gB_X9_put : List (Nat × List gs_N) := [(0, [(.bipush 24, 2, 0, 0, 0, 0, .inl 24, []),
    (.istore_n 2, 3, 2, 0, 0, 0, .inl 0, [])]),
  (3, [(.iload_n 2, 4, 2, 0, 0, 0, .inl 0, []),
    (.ifCond .lt 42, 7, 46, 0, 0, 0, .inl 0, []),
    (.aload_n 0, 8, 0, 0, 0, 0, .inl 0, []),
    (.getfield 31, 11, 8, 4, 0, 0, .inl 0, []),
    (.sipush 800, 14, 0, 0, 0, 0, .inl 800, []),
    (.if_icmp .ge 32, 17, 46, 0, 0, 0, .inl 0, []),
    (.aload_n 0, 18, 0, 0, 0, 0, .inl 0, []),
    (.getfield 9, 21, 8, 0, 2, 1, .inl 0, []),
    (.aload_n 0, 22, 0, 0, 0, 0, .inl 0, []),
    (.getfield 31, 25, 8, 4, 0, 0, .inl 0, []),
    (.iload_n 1, 26, 1, 0, 0, 0, .inl 0, []),
    (.iload_n 2, 27, 2, 0, 0, 0, .inl 0, []),
    (.ishr, 28, 0, 0, 0, 0, .inl 0, []),
    (.i2b, 29, 0, 0, 0, 0, .inl 0, []),
    (.bastore, 30, 0, 0, 0, 0, .inl 0, []),
    (.aload_n 0, 31, 0, 0, 0, 0, .inl 0, []),
    (.dup, 32, 0, 0, 0, 0, .inl 0, []),
    (.getfield 31, 35, 8, 4, 0, 0, .inl 0, []),
    (.iconst 1, 36, 0, 0, 0, 0, .inl 1, []),
    (.iadd, 37, 0, 0, 0, 0, .inl 0, []),
    (.putfield 31, 40, 8, 4, 0, 0, .inl 0, []),
    (.iinc 2 (-8), 43, 2, 0, 0, 0, .inl (-8), []),
    (.goto (-40), 46, 3, 0, 0, 0, .inl 0, [])]),
  (46, [(.return_, 47, 0, 0, 0, 0, .inl 0, [])])]
def gT_X9_put : gs_T := ([], gB_X9_put, [(3, [0, 1, 2])])
set_option maxRecDepth 100000 in
def gB_X9_start : List (Nat × List gs_N) := [(0, [(.aload_n 0, 1, 0, 0, 0, 0, .inl 0, []),
    (.iconst 0, 2, 0, 0, 0, 0, .inl 0, []),
    (.iload_n 1, 3, 1, 0, 0, 0, .inl 0, []),
    (.sipush 800, 6, 0, 0, 0, 0, .inl 800, []),
    (.invokestatic 35, 9, 314, 2, 0, 1, .inl 0, []),
    (.invokestatic 41, 12, 312, 2, 0, 1, .inl 0, []),
    (.putfield 44, 15, 8, 2, 0, 0, .inl 0, []),
    (.aload_n 0, 16, 0, 0, 0, 0, .inl 0, []),
    (.iconst 0, 17, 0, 0, 0, 0, .inl 0, []),
    (.putfield 46, 20, 8, 3, 0, 0, .inl 0, []),
    (.aload_n 0, 21, 0, 0, 0, 0, .inl 0, []),
    (.invokevirtual 49, 24, 108, 1, 2, 8, .inl 0, []),
    (.return_, 25, 0, 0, 0, 0, .inl 0, [])])]
def gT_X9_start : gs_T := ([], gB_X9_start, [])
set_option maxRecDepth 100000 in
def gB_X9_advance : List (Nat × List gs_N) := [(0, [(.aload_n 0, 1, 0, 0, 0, 0, .inl 0, []),
    (.getfield 46, 4, 8, 3, 0, 0, .inl 0, []),
    (.aload_n 0, 5, 0, 0, 0, 0, .inl 0, []),
    (.getfield 44, 8, 8, 2, 0, 0, .inl 0, []),
    (.if_icmp .ge 44, 11, 52, 0, 0, 0, .inl 0, []),
    (.aload_n 0, 12, 0, 0, 0, 0, .inl 0, []),
    (.getfield 9, 15, 8, 0, 2, 1, .inl 0, []),
    (.aload_n 0, 16, 0, 0, 0, 0, .inl 0, []),
    (.getfield 46, 19, 8, 3, 0, 0, .inl 0, []),
    (.baload, 20, 0, 0, 0, 0, .inl 0, []),
    (.bipush 10, 22, 0, 0, 0, 0, .inl 10, []),
    (.if_icmp .eq 17, 25, 39, 0, 0, 0, .inl 0, []),
    (.aload_n 0, 26, 0, 0, 0, 0, .inl 0, []),
    (.getfield 9, 29, 8, 0, 2, 1, .inl 0, []),
    (.aload_n 0, 30, 0, 0, 0, 0, .inl 0, []),
    (.getfield 46, 33, 8, 3, 0, 0, .inl 0, []),
    (.baload, 34, 0, 0, 0, 0, .inl 0, []),
    (.bipush 32, 36, 0, 0, 0, 0, .inl 32, []),
    (.if_icmp .ne 16, 39, 52, 0, 0, 0, .inl 0, [])]),
  (39, [(.aload_n 0, 40, 0, 0, 0, 0, .inl 0, []),
    (.dup, 41, 0, 0, 0, 0, .inl 0, []),
    (.getfield 46, 44, 8, 3, 0, 0, .inl 0, []),
    (.iconst 1, 45, 0, 0, 0, 0, .inl 1, []),
    (.iadd, 46, 0, 0, 0, 0, .inl 0, []),
    (.putfield 46, 49, 8, 3, 0, 0, .inl 0, []),
    (.goto (-49), 52, 0, 0, 0, 0, .inl 0, [])]),
  (52, [(.aload_n 0, 53, 0, 0, 0, 0, .inl 0, []),
    (.aload_n 0, 54, 0, 0, 0, 0, .inl 0, []),
    (.getfield 46, 57, 8, 3, 0, 0, .inl 0, []),
    (.putfield 52, 60, 8, 6, 0, 0, .inl 0, []),
    (.aload_n 0, 61, 0, 0, 0, 0, .inl 0, []),
    (.getfield 46, 64, 8, 3, 0, 0, .inl 0, []),
    (.aload_n 0, 65, 0, 0, 0, 0, .inl 0, []),
    (.getfield 44, 68, 8, 2, 0, 0, .inl 0, []),
    (.if_icmp .lt 10, 71, 78, 0, 0, 0, .inl 0, []),
    (.aload_n 0, 72, 0, 0, 0, 0, .inl 0, []),
    (.bipush 34, 74, 0, 0, 0, 0, .inl 34, []),
    (.putfield 55, 77, 8, 5, 0, 0, .inl 0, []),
    (.return_, 78, 0, 0, 0, 0, .inl 0, [])]),
  (78, [(.aload_n 0, 79, 0, 0, 0, 0, .inl 0, []),
    (.getfield 9, 82, 8, 0, 2, 1, .inl 0, []),
    (.aload_n 0, 83, 0, 0, 0, 0, .inl 0, []),
    (.getfield 46, 86, 8, 3, 0, 0, .inl 0, []),
    (.baload, 87, 0, 0, 0, 0, .inl 0, []),
    (.istore_n 1, 88, 1, 0, 0, 0, .inl 0, []),
    (.iload_n 1, 89, 1, 0, 0, 0, .inl 0, []),
    (.bipush 97, 91, 0, 0, 0, 0, .inl 97, []),
    (.if_icmp .lt 16, 94, 107, 0, 0, 0, .inl 0, []),
    (.iload_n 1, 95, 1, 0, 0, 0, .inl 0, []),
    (.bipush 122, 97, 0, 0, 0, 0, .inl 122, []),
    (.if_icmp .gt 10, 100, 107, 0, 0, 0, .inl 0, []),
    (.aload_n 0, 101, 0, 0, 0, 0, .inl 0, []),
    (.invokevirtual 58, 104, 109, 1, 2, 8, .inl 0, []),
    (.goto 44, 107, 148, 0, 0, 0, .inl 0, [])]),
  (107, [(.iload_n 1, 108, 1, 0, 0, 0, .inl 0, []),
    (.bipush 48, 110, 0, 0, 0, 0, .inl 48, []),
    (.if_icmp .lt 16, 113, 126, 0, 0, 0, .inl 0, []),
    (.iload_n 1, 114, 1, 0, 0, 0, .inl 0, []),
    (.bipush 57, 116, 0, 0, 0, 0, .inl 57, []),
    (.if_icmp .gt 10, 119, 126, 0, 0, 0, .inl 0, []),
    (.aload_n 0, 120, 0, 0, 0, 0, .inl 0, []),
    (.invokevirtual 61, 123, 110, 1, 2, 8, .inl 0, []),
    (.goto 25, 126, 148, 0, 0, 0, .inl 0, [])]),
  (126, [(.aload_n 0, 127, 0, 0, 0, 0, .inl 0, []),
    (.iload_n 1, 128, 1, 0, 0, 0, .inl 0, []),
    (.invokestatic 64, 131, 112, 1, 0, 1, .inl 0, []),
    (.putfield 55, 134, 8, 5, 0, 0, .inl 0, []),
    (.aload_n 0, 135, 0, 0, 0, 0, .inl 0, []),
    (.dup, 136, 0, 0, 0, 0, .inl 0, []),
    (.getfield 46, 139, 8, 3, 0, 0, .inl 0, []),
    (.iconst 1, 140, 0, 0, 0, 0, .inl 1, []),
    (.iadd, 141, 0, 0, 0, 0, .inl 0, []),
    (.putfield 46, 144, 8, 3, 0, 0, .inl 0, []),
    (.aload_n 0, 145, 0, 0, 0, 0, .inl 0, []),
    (.invokevirtual 68, 148, 111, 1, 2, 8, .inl 0, [])]),
  (148, [(.return_, 149, 0, 0, 0, 0, .inl 0, [])])]
def gT_X9_advance : gs_T := ([], gB_X9_advance, [(0, [0])])
set_option maxRecDepth 100000 in
def gB_X9_takeWord : List (Nat × List gs_N) := [(0, [(.aload_n 0, 1, 0, 0, 0, 0, .inl 0, []),
    (.iconst 0, 2, 0, 0, 0, 0, .inl 0, []),
    (.putfield 71, 5, 8, 7, 0, 0, .inl 0, [])]),
  (5, [(.aload_n 0, 6, 0, 0, 0, 0, .inl 0, []),
    (.getfield 46, 9, 8, 3, 0, 0, .inl 0, []),
    (.aload_n 0, 10, 0, 0, 0, 0, .inl 0, []),
    (.getfield 44, 13, 8, 2, 0, 0, .inl 0, []),
    (.if_icmp .ge 83, 16, 96, 0, 0, 0, .inl 0, []),
    (.aload_n 0, 17, 0, 0, 0, 0, .inl 0, []),
    (.getfield 9, 20, 8, 0, 2, 1, .inl 0, []),
    (.aload_n 0, 21, 0, 0, 0, 0, .inl 0, []),
    (.getfield 46, 24, 8, 3, 0, 0, .inl 0, []),
    (.baload, 25, 0, 0, 0, 0, .inl 0, []),
    (.bipush 97, 27, 0, 0, 0, 0, .inl 97, []),
    (.if_icmp .lt 69, 30, 96, 0, 0, 0, .inl 0, []),
    (.aload_n 0, 31, 0, 0, 0, 0, .inl 0, []),
    (.getfield 9, 34, 8, 0, 2, 1, .inl 0, []),
    (.aload_n 0, 35, 0, 0, 0, 0, .inl 0, []),
    (.getfield 46, 38, 8, 3, 0, 0, .inl 0, []),
    (.baload, 39, 0, 0, 0, 0, .inl 0, []),
    (.bipush 122, 41, 0, 0, 0, 0, .inl 122, []),
    (.if_icmp .gt 55, 44, 96, 0, 0, 0, .inl 0, []),
    (.aload_n 0, 45, 0, 0, 0, 0, .inl 0, []),
    (.getfield 46, 48, 8, 3, 0, 0, .inl 0, []),
    (.aload_n 0, 49, 0, 0, 0, 0, .inl 0, []),
    (.getfield 52, 52, 8, 6, 0, 0, .inl 0, []),
    (.isub, 53, 0, 0, 0, 0, .inl 0, []),
    (.bipush 6, 55, 0, 0, 0, 0, .inl 6, []),
    (.if_icmp .ge 28, 58, 83, 0, 0, 0, .inl 0, []),
    (.aload_n 0, 59, 0, 0, 0, 0, .inl 0, []),
    (.aload_n 0, 60, 0, 0, 0, 0, .inl 0, []),
    (.getfield 71, 63, 8, 7, 0, 0, .inl 0, []),
    (.iconst 5, 64, 0, 0, 0, 0, .inl 5, []),
    (.ishl, 65, 0, 0, 0, 0, .inl 0, []),
    (.aload_n 0, 66, 0, 0, 0, 0, .inl 0, []),
    (.getfield 9, 69, 8, 0, 2, 1, .inl 0, []),
    (.aload_n 0, 70, 0, 0, 0, 0, .inl 0, []),
    (.getfield 46, 73, 8, 3, 0, 0, .inl 0, []),
    (.baload, 74, 0, 0, 0, 0, .inl 0, []),
    (.bipush 97, 76, 0, 0, 0, 0, .inl 97, []),
    (.isub, 77, 0, 0, 0, 0, .inl 0, []),
    (.iconst 1, 78, 0, 0, 0, 0, .inl 1, []),
    (.iadd, 79, 0, 0, 0, 0, .inl 0, []),
    (.ior, 80, 0, 0, 0, 0, .inl 0, []),
    (.putfield 71, 83, 8, 7, 0, 0, .inl 0, [])]),
  (83, [(.aload_n 0, 84, 0, 0, 0, 0, .inl 0, []),
    (.dup, 85, 0, 0, 0, 0, .inl 0, []),
    (.getfield 46, 88, 8, 3, 0, 0, .inl 0, []),
    (.iconst 1, 89, 0, 0, 0, 0, .inl 1, []),
    (.iadd, 90, 0, 0, 0, 0, .inl 0, []),
    (.putfield 46, 93, 8, 3, 0, 0, .inl 0, []),
    (.goto (-88), 96, 5, 0, 0, 0, .inl 0, [])]),
  (96, [(.aload_n 0, 97, 0, 0, 0, 0, .inl 0, []),
    (.getfield 46, 100, 8, 3, 0, 0, .inl 0, []),
    (.aload_n 0, 101, 0, 0, 0, 0, .inl 0, []),
    (.getfield 52, 104, 8, 6, 0, 0, .inl 0, []),
    (.isub, 105, 0, 0, 0, 0, .inl 0, []),
    (.istore_n 1, 106, 1, 0, 0, 0, .inl 0, []),
    (.iload_n 1, 107, 1, 0, 0, 0, .inl 0, []),
    (.bipush 6, 109, 0, 0, 0, 0, .inl 6, []),
    (.if_icmp .le 10, 112, 119, 0, 0, 0, .inl 0, []),
    (.aload_n 0, 113, 0, 0, 0, 0, .inl 0, []),
    (.bipush 35, 115, 0, 0, 0, 0, .inl 35, []),
    (.putfield 55, 118, 8, 5, 0, 0, .inl 0, []),
    (.return_, 119, 0, 0, 0, 0, .inl 0, [])]),
  (119, [(.aload_n 0, 120, 0, 0, 0, 0, .inl 0, []),
    (.dup, 121, 0, 0, 0, 0, .inl 0, []),
    (.getfield 71, 124, 8, 7, 0, 0, .inl 0, []),
    (.iconst 5, 125, 0, 0, 0, 0, .inl 5, []),
    (.bipush 6, 127, 0, 0, 0, 0, .inl 6, []),
    (.iload_n 1, 128, 1, 0, 0, 0, .inl 0, []),
    (.isub, 129, 0, 0, 0, 0, .inl 0, []),
    (.imul, 130, 0, 0, 0, 0, .inl 0, []),
    (.ishl, 131, 0, 0, 0, 0, .inl 0, []),
    (.putfield 71, 134, 8, 7, 0, 0, .inl 0, []),
    (.aload_n 0, 135, 0, 0, 0, 0, .inl 0, []),
    (.bipush 32, 137, 0, 0, 0, 0, .inl 32, []),
    (.putfield 55, 140, 8, 5, 0, 0, .inl 0, []),
    (.iconst 0, 141, 0, 0, 0, 0, .inl 0, []),
    (.istore_n 2, 142, 2, 0, 0, 0, .inl 0, [])]),
  (142, [(.iload_n 2, 143, 2, 0, 0, 0, .inl 0, []),
    (.bipush 32, 145, 0, 0, 0, 0, .inl 32, []),
    (.if_icmp .ge 27, 148, 172, 0, 0, 0, .inl 0, []),
    (.aload_n 0, 149, 0, 0, 0, 0, .inl 0, []),
    (.getfield 15, 152, 8, 1, 2, 1, .inl 0, []),
    (.iload_n 2, 153, 2, 0, 0, 0, .inl 0, []),
    (.iaload, 154, 0, 0, 0, 0, .inl 0, []),
    (.aload_n 0, 155, 0, 0, 0, 0, .inl 0, []),
    (.getfield 71, 158, 8, 7, 0, 0, .inl 0, []),
    (.if_icmp .ne 8, 161, 166, 0, 0, 0, .inl 0, []),
    (.aload_n 0, 162, 0, 0, 0, 0, .inl 0, []),
    (.iload_n 2, 163, 2, 0, 0, 0, .inl 0, []),
    (.putfield 55, 166, 8, 5, 0, 0, .inl 0, [])]),
  (166, [(.iinc 2 1, 169, 2, 0, 0, 0, .inl 1, []),
    (.goto (-27), 172, 142, 0, 0, 0, .inl 0, [])]),
  (172, [(.return_, 173, 0, 0, 0, 0, .inl 0, [])])]
def gT_X9_takeWord : gs_T := ([], gB_X9_takeWord, [(5, [0]), (142, [0, 2])])
set_option maxRecDepth 100000 in
def gB_X9_takeNumber : List (Nat × List gs_N) := [(0, [(.aload_n 0, 1, 0, 0, 0, 0, .inl 0, []),
    (.bipush 33, 3, 0, 0, 0, 0, .inl 33, []),
    (.putfield 55, 6, 8, 5, 0, 0, .inl 0, []),
    (.aload_n 0, 7, 0, 0, 0, 0, .inl 0, []),
    (.iconst 0, 8, 0, 0, 0, 0, .inl 0, []),
    (.putfield 71, 11, 8, 7, 0, 0, .inl 0, [])]),
  (11, [(.aload_n 0, 12, 0, 0, 0, 0, .inl 0, []),
    (.getfield 46, 15, 8, 3, 0, 0, .inl 0, []),
    (.aload_n 0, 16, 0, 0, 0, 0, .inl 0, []),
    (.getfield 44, 19, 8, 2, 0, 0, .inl 0, []),
    (.if_icmp .ge 74, 22, 93, 0, 0, 0, .inl 0, []),
    (.aload_n 0, 23, 0, 0, 0, 0, .inl 0, []),
    (.getfield 9, 26, 8, 0, 2, 1, .inl 0, []),
    (.aload_n 0, 27, 0, 0, 0, 0, .inl 0, []),
    (.getfield 46, 30, 8, 3, 0, 0, .inl 0, []),
    (.baload, 31, 0, 0, 0, 0, .inl 0, []),
    (.bipush 48, 33, 0, 0, 0, 0, .inl 48, []),
    (.if_icmp .lt 60, 36, 93, 0, 0, 0, .inl 0, []),
    (.aload_n 0, 37, 0, 0, 0, 0, .inl 0, []),
    (.getfield 9, 40, 8, 0, 2, 1, .inl 0, []),
    (.aload_n 0, 41, 0, 0, 0, 0, .inl 0, []),
    (.getfield 46, 44, 8, 3, 0, 0, .inl 0, []),
    (.baload, 45, 0, 0, 0, 0, .inl 0, []),
    (.bipush 57, 47, 0, 0, 0, 0, .inl 57, []),
    (.if_icmp .gt 46, 50, 93, 0, 0, 0, .inl 0, []),
    (.aload_n 0, 51, 0, 0, 0, 0, .inl 0, []),
    (.sipush 10000, 54, 0, 0, 0, 0, .inl 10000, []),
    (.aload_n 0, 55, 0, 0, 0, 0, .inl 0, []),
    (.getfield 71, 58, 8, 7, 0, 0, .inl 0, []),
    (.bipush 10, 60, 0, 0, 0, 0, .inl 10, []),
    (.imul, 61, 0, 0, 0, 0, .inl 0, []),
    (.aload_n 0, 62, 0, 0, 0, 0, .inl 0, []),
    (.getfield 9, 65, 8, 0, 2, 1, .inl 0, []),
    (.aload_n 0, 66, 0, 0, 0, 0, .inl 0, []),
    (.getfield 46, 69, 8, 3, 0, 0, .inl 0, []),
    (.baload, 70, 0, 0, 0, 0, .inl 0, []),
    (.iadd, 71, 0, 0, 0, 0, .inl 0, []),
    (.bipush 48, 73, 0, 0, 0, 0, .inl 48, []),
    (.isub, 74, 0, 0, 0, 0, .inl 0, []),
    (.invokestatic 35, 77, 314, 2, 0, 1, .inl 0, []),
    (.putfield 71, 80, 8, 7, 0, 0, .inl 0, []),
    (.aload_n 0, 81, 0, 0, 0, 0, .inl 0, []),
    (.dup, 82, 0, 0, 0, 0, .inl 0, []),
    (.getfield 46, 85, 8, 3, 0, 0, .inl 0, []),
    (.iconst 1, 86, 0, 0, 0, 0, .inl 1, []),
    (.iadd, 87, 0, 0, 0, 0, .inl 0, []),
    (.putfield 46, 90, 8, 3, 0, 0, .inl 0, []),
    (.goto (-79), 93, 11, 0, 0, 0, .inl 0, [])]),
  (93, [(.return_, 94, 0, 0, 0, 0, .inl 0, [])])]
def gT_X9_takeNumber : gs_T := ([], gB_X9_takeNumber, [(11, [0])])
set_option maxRecDepth 100000 in
def gB_X9_widenSign : List (Nat × List gs_N) := [(0, [(.aload_n 0, 1, 0, 0, 0, 0, .inl 0, []),
    (.getfield 46, 4, 8, 3, 0, 0, .inl 0, []),
    (.aload_n 0, 5, 0, 0, 0, 0, .inl 0, []),
    (.getfield 44, 8, 8, 2, 0, 0, .inl 0, []),
    (.if_icmp .ge 15, 11, 23, 0, 0, 0, .inl 0, []),
    (.aload_n 0, 12, 0, 0, 0, 0, .inl 0, []),
    (.getfield 9, 15, 8, 0, 2, 1, .inl 0, []),
    (.aload_n 0, 16, 0, 0, 0, 0, .inl 0, []),
    (.getfield 46, 19, 8, 3, 0, 0, .inl 0, []),
    (.baload, 20, 0, 0, 0, 0, .inl 0, []),
    (.goto 4, 23, 24, 0, 0, 0, .inl 0, [])]),
  (23, [(.iconst 0, 24, 0, 0, 0, 0, .inl 0, [])]),
  (24, [(.istore_n 1, 25, 1, 0, 0, 0, .inl 0, []),
    (.aload_n 0, 26, 0, 0, 0, 0, .inl 0, []),
    (.getfield 55, 29, 8, 5, 0, 0, .inl 0, []),
    (.bipush 39, 31, 0, 0, 0, 0, .inl 39, []),
    (.if_icmp .eq 12, 34, 43, 0, 0, 0, .inl 0, []),
    (.aload_n 0, 35, 0, 0, 0, 0, .inl 0, []),
    (.getfield 55, 38, 8, 5, 0, 0, .inl 0, []),
    (.bipush 44, 40, 0, 0, 0, 0, .inl 44, []),
    (.if_icmp .ne 42, 43, 82, 0, 0, 0, .inl 0, [])]),
  (43, [(.iload_n 1, 44, 1, 0, 0, 0, .inl 0, []),
    (.bipush 61, 46, 0, 0, 0, 0, .inl 61, []),
    (.if_icmp .ne 36, 49, 82, 0, 0, 0, .inl 0, []),
    (.aload_n 0, 50, 0, 0, 0, 0, .inl 0, []),
    (.aload_n 0, 51, 0, 0, 0, 0, .inl 0, []),
    (.getfield 55, 54, 8, 5, 0, 0, .inl 0, []),
    (.bipush 39, 56, 0, 0, 0, 0, .inl 39, []),
    (.if_icmp .ne 8, 59, 64, 0, 0, 0, .inl 0, []),
    (.bipush 40, 61, 0, 0, 0, 0, .inl 40, []),
    (.goto 5, 64, 66, 0, 0, 0, .inl 0, [])]),
  (64, [(.bipush 43, 66, 0, 0, 0, 0, .inl 43, [])]),
  (66, [(.putfield 55, 69, 8, 5, 0, 0, .inl 0, []),
    (.aload_n 0, 70, 0, 0, 0, 0, .inl 0, []),
    (.dup, 71, 0, 0, 0, 0, .inl 0, []),
    (.getfield 46, 74, 8, 3, 0, 0, .inl 0, []),
    (.iconst 1, 75, 0, 0, 0, 0, .inl 1, []),
    (.iadd, 76, 0, 0, 0, 0, .inl 0, []),
    (.putfield 46, 79, 8, 3, 0, 0, .inl 0, []),
    (.goto 34, 82, 113, 0, 0, 0, .inl 0, [])]),
  (82, [(.aload_n 0, 83, 0, 0, 0, 0, .inl 0, []),
    (.getfield 55, 86, 8, 5, 0, 0, .inl 0, []),
    (.bipush 39, 88, 0, 0, 0, 0, .inl 39, []),
    (.if_icmp .ne 25, 91, 113, 0, 0, 0, .inl 0, []),
    (.iload_n 1, 92, 1, 0, 0, 0, .inl 0, []),
    (.bipush 62, 94, 0, 0, 0, 0, .inl 62, []),
    (.if_icmp .ne 19, 97, 113, 0, 0, 0, .inl 0, []),
    (.aload_n 0, 98, 0, 0, 0, 0, .inl 0, []),
    (.bipush 42, 100, 0, 0, 0, 0, .inl 42, []),
    (.putfield 55, 103, 8, 5, 0, 0, .inl 0, []),
    (.aload_n 0, 104, 0, 0, 0, 0, .inl 0, []),
    (.dup, 105, 0, 0, 0, 0, .inl 0, []),
    (.getfield 46, 108, 8, 3, 0, 0, .inl 0, []),
    (.iconst 1, 109, 0, 0, 0, 0, .inl 1, []),
    (.iadd, 110, 0, 0, 0, 0, .inl 0, []),
    (.putfield 46, 113, 8, 3, 0, 0, .inl 0, [])]),
  (113, [(.return_, 114, 0, 0, 0, 0, .inl 0, [])])]
def gT_X9_widenSign : gs_T := ([], gB_X9_widenSign, [])
set_option maxRecDepth 100000 in
def gB_X9_signKind : List (Nat × List gs_N) := [(0, [(.iload_n 0, 1, 0, 0, 0, 0, .inl 0, []),
    (.tableswitch 137 40 62 #[110, 113, 131, 125, 137, 128, 137, 134, 137, 137, 137, 137, 137, 137, 137, 137, 137, 137, 137, 107, 116, 119, 122], 108, 138, 107, 0, 0, .inl 0, [(40, 111), (41, 114), (42, 132), (43, 126), (45, 129), (47, 135), (59, 108), (60, 117), (61, 120), (62, 123)])]),
  (108, [(.bipush 36, 110, 0, 0, 0, 0, .inl 36, []),
    (.ireturn, 111, 0, 0, 0, 0, .inl 0, [])]),
  (111, [(.bipush 37, 113, 0, 0, 0, 0, .inl 37, []),
    (.ireturn, 114, 0, 0, 0, 0, .inl 0, [])]),
  (114, [(.bipush 38, 116, 0, 0, 0, 0, .inl 38, []),
    (.ireturn, 117, 0, 0, 0, 0, .inl 0, [])]),
  (117, [(.bipush 39, 119, 0, 0, 0, 0, .inl 39, []),
    (.ireturn, 120, 0, 0, 0, 0, .inl 0, [])]),
  (120, [(.bipush 41, 122, 0, 0, 0, 0, .inl 41, []),
    (.ireturn, 123, 0, 0, 0, 0, .inl 0, [])]),
  (123, [(.bipush 44, 125, 0, 0, 0, 0, .inl 44, []),
    (.ireturn, 126, 0, 0, 0, 0, .inl 0, [])]),
  (126, [(.bipush 45, 128, 0, 0, 0, 0, .inl 45, []),
    (.ireturn, 129, 0, 0, 0, 0, .inl 0, [])]),
  (129, [(.bipush 46, 131, 0, 0, 0, 0, .inl 46, []),
    (.ireturn, 132, 0, 0, 0, 0, .inl 0, [])]),
  (132, [(.bipush 47, 134, 0, 0, 0, 0, .inl 47, []),
    (.ireturn, 135, 0, 0, 0, 0, .inl 0, [])]),
  (135, [(.bipush 48, 137, 0, 0, 0, 0, .inl 48, []),
    (.ireturn, 138, 0, 0, 0, 0, .inl 0, [])]),
  (138, [(.bipush 35, 140, 0, 0, 0, 0, .inl 35, []),
    (.ireturn, 141, 0, 0, 0, 0, .inl 0, [])])]
def gT_X9_signKind : gs_T := ([], gB_X9_signKind, [])
set_option maxRecDepth 100000 in
def gB_X10_init : List (Nat × List gs_N) := [(0, [(.aload_n 0, 1, 0, 0, 0, 0, .inl 0, []),
    (.invokespecial 3, 4, 9000, 1, 2, 92, .inl 0, []),
    (.aload_n 0, 5, 0, 0, 0, 0, .inl 0, []),
    (.bipush 6, 7, 0, 0, 0, 0, .inl 6, []),
    (.newarray .int, 9, 13, 0, 0, 0, .inl 0, []),
    (.putfield 9, 12, 9, 0, 2, 1, .inl 0, []),
    (.aload_n 0, 13, 0, 0, 0, 0, .inl 0, []),
    (.bipush 6, 15, 0, 0, 0, 0, .inl 6, []),
    (.newarray .int, 17, 13, 0, 0, 0, .inl 0, []),
    (.putfield 15, 20, 9, 1, 2, 1, .inl 0, []),
    (.aload_n 0, 21, 0, 0, 0, 0, .inl 0, []),
    (.bipush 6, 23, 0, 0, 0, 0, .inl 6, []),
    (.newarray .int, 25, 13, 0, 0, 0, .inl 0, []),
    (.putfield 18, 28, 9, 2, 2, 1, .inl 0, []),
    (.return_, 29, 0, 0, 0, 0, .inl 0, [])])]
def gT_X10_init : gs_T := ([], gB_X10_init, [])
set_option maxRecDepth 100000 in
def gB_X10_add : List (Nat × List gs_N) := [(0, [(.aload_n 0, 1, 0, 0, 0, 0, .inl 0, []),
    (.getfield 21, 4, 9, 3, 0, 0, .inl 0, []),
    (.bipush 6, 6, 0, 0, 0, 0, .inl 6, []),
    (.if_icmp .ge 43, 9, 49, 0, 0, 0, .inl 0, []),
    (.aload_n 0, 10, 0, 0, 0, 0, .inl 0, []),
    (.getfield 9, 13, 9, 0, 2, 1, .inl 0, []),
    (.aload_n 0, 14, 0, 0, 0, 0, .inl 0, []),
    (.getfield 21, 17, 9, 3, 0, 0, .inl 0, []),
    (.iload_n 1, 18, 1, 0, 0, 0, .inl 0, []),
    (.iastore, 19, 0, 0, 0, 0, .inl 0, []),
    (.aload_n 0, 20, 0, 0, 0, 0, .inl 0, []),
    (.getfield 15, 23, 9, 1, 2, 1, .inl 0, []),
    (.aload_n 0, 24, 0, 0, 0, 0, .inl 0, []),
    (.getfield 21, 27, 9, 3, 0, 0, .inl 0, []),
    (.iload_n 2, 28, 2, 0, 0, 0, .inl 0, []),
    (.iastore, 29, 0, 0, 0, 0, .inl 0, []),
    (.aload_n 0, 30, 0, 0, 0, 0, .inl 0, []),
    (.getfield 18, 33, 9, 2, 2, 1, .inl 0, []),
    (.aload_n 0, 34, 0, 0, 0, 0, .inl 0, []),
    (.getfield 21, 37, 9, 3, 0, 0, .inl 0, []),
    (.iload_n 3, 38, 3, 0, 0, 0, .inl 0, []),
    (.iastore, 39, 0, 0, 0, 0, .inl 0, []),
    (.aload_n 0, 40, 0, 0, 0, 0, .inl 0, []),
    (.dup, 41, 0, 0, 0, 0, .inl 0, []),
    (.getfield 21, 44, 9, 3, 0, 0, .inl 0, []),
    (.iconst 1, 45, 0, 0, 0, 0, .inl 1, []),
    (.iadd, 46, 0, 0, 0, 0, .inl 0, []),
    (.putfield 21, 49, 9, 3, 0, 0, .inl 0, [])]),
  (49, [(.return_, 50, 0, 0, 0, 0, .inl 0, [])])]
def gT_X10_add : gs_T := ([], gB_X10_add, [])
set_option maxRecDepth 100000 in
def gB_X10_shareOf : List (Nat × List gs_N) := [(0, [(.iconst 0, 1, 0, 0, 0, 0, .inl 0, []),
    (.istore_n 2, 2, 2, 0, 0, 0, .inl 0, []),
    (.iconst 0, 3, 0, 0, 0, 0, .inl 0, []),
    (.istore_n 3, 4, 3, 0, 0, 0, .inl 0, [])]),
  (4, [(.iload_n 3, 5, 3, 0, 0, 0, .inl 0, []),
    (.aload_n 0, 6, 0, 0, 0, 0, .inl 0, []),
    (.getfield 21, 9, 9, 3, 0, 0, .inl 0, []),
    (.if_icmp .ge 46, 12, 55, 0, 0, 0, .inl 0, []),
    (.aload_n 0, 13, 0, 0, 0, 0, .inl 0, []),
    (.getfield 9, 16, 9, 0, 2, 1, .inl 0, []),
    (.iload_n 3, 17, 3, 0, 0, 0, .inl 0, []),
    (.iaload, 18, 0, 0, 0, 0, .inl 0, []),
    (.iload_n 1, 19, 1, 0, 0, 0, .inl 0, []),
    (.if_icmp .gt 30, 22, 49, 0, 0, 0, .inl 0, []),
    (.iload_n 1, 23, 1, 0, 0, 0, .inl 0, []),
    (.aload_n 0, 24, 0, 0, 0, 0, .inl 0, []),
    (.getfield 15, 27, 9, 1, 2, 1, .inl 0, []),
    (.iload_n 3, 28, 3, 0, 0, 0, .inl 0, []),
    (.iaload, 29, 0, 0, 0, 0, .inl 0, []),
    (.if_icmp .gt 20, 32, 49, 0, 0, 0, .inl 0, []),
    (.aload_n 0, 33, 0, 0, 0, 0, .inl 0, []),
    (.getfield 18, 36, 9, 2, 2, 1, .inl 0, []),
    (.iload_n 3, 37, 3, 0, 0, 0, .inl 0, []),
    (.iaload, 38, 0, 0, 0, 0, .inl 0, []),
    (.iload_n 2, 39, 2, 0, 0, 0, .inl 0, []),
    (.if_icmp .le 10, 42, 49, 0, 0, 0, .inl 0, []),
    (.aload_n 0, 43, 0, 0, 0, 0, .inl 0, []),
    (.getfield 18, 46, 9, 2, 2, 1, .inl 0, []),
    (.iload_n 3, 47, 3, 0, 0, 0, .inl 0, []),
    (.iaload, 48, 0, 0, 0, 0, .inl 0, []),
    (.istore_n 2, 49, 2, 0, 0, 0, .inl 0, [])]),
  (49, [(.iinc 3 1, 52, 3, 0, 0, 0, .inl 1, []),
    (.goto (-48), 55, 4, 0, 0, 0, .inl 0, [])]),
  (55, [(.iload_n 2, 56, 2, 0, 0, 0, .inl 0, []),
    (.ireturn, 57, 0, 0, 0, 0, .inl 0, [])])]
def gT_X10_shareOf : gs_T := ([], gB_X10_shareOf, [(4, [0, 1, 2, 3])])
set_option maxRecDepth 100000 in
def gB_X11_init : List (Nat × List gs_N) := [(0, [(.aload_n 0, 1, 0, 0, 0, 0, .inl 0, []),
    (.invokespecial 1, 4, 9000, 1, 2, 92, .inl 0, []),
    (.aload_n 0, 5, 0, 0, 0, 0, .inl 0, []),
    (.new 7, 8, 5, 11, 0, 0, .inl 0, []),
    (.dup, 9, 0, 0, 0, 0, .inl 0, []),
    (.invokespecial 9, 12, 41, 1, 2, 2, .inl 0, []),
    (.putfield 10, 15, 10, 0, 2, 1, .inl 0, []),
    (.aload_n 0, 16, 0, 0, 0, 0, .inl 0, []),
    (.new 16, 19, 4, 15, 0, 0, .inl 0, []),
    (.dup, 20, 0, 0, 0, 0, .inl 0, []),
    (.invokespecial 18, 23, 28, 1, 2, 2, .inl 0, []),
    (.putfield 19, 26, 10, 1, 2, 1, .inl 0, []),
    (.aload_n 0, 27, 0, 0, 0, 0, .inl 0, []),
    (.new 23, 30, 1, 1, 0, 0, .inl 0, []),
    (.dup, 31, 0, 0, 0, 0, .inl 0, []),
    (.invokespecial 25, 34, 10, 1, 2, 2, .inl 0, []),
    (.putfield 26, 37, 10, 2, 2, 1, .inl 0, []),
    (.aload_n 0, 38, 0, 0, 0, 0, .inl 0, []),
    (.new 30, 41, 7, 14, 0, 0, .inl 0, []),
    (.dup, 42, 0, 0, 0, 0, .inl 0, []),
    (.invokespecial 32, 45, 86, 1, 2, 2, .inl 0, []),
    (.putfield 33, 48, 10, 3, 2, 0, .inl 0, []),
    (.aload_n 0, 49, 0, 0, 0, 0, .inl 0, []),
    (.new 30, 52, 7, 14, 0, 0, .inl 0, []),
    (.dup, 53, 0, 0, 0, 0, .inl 0, []),
    (.invokespecial 32, 56, 86, 1, 2, 2, .inl 0, []),
    (.putfield 37, 59, 10, 4, 2, 0, .inl 0, []),
    (.aload_n 0, 60, 0, 0, 0, 0, .inl 0, []),
    (.iconst 1, 61, 0, 0, 0, 0, .inl 1, []),
    (.putfield 40, 64, 10, 7, 3, 0, .inl 0, []),
    (.aload_n 0, 65, 0, 0, 0, 0, .inl 0, []),
    (.iconst 1, 66, 0, 0, 0, 0, .inl 1, []),
    (.putfield 44, 69, 10, 8, 3, 0, .inl 0, []),
    (.return_, 70, 0, 0, 0, 0, .inl 0, [])])]
def gT_X11_init : gs_T := ([], gB_X11_init, [])
set_option maxRecDepth 100000 in
def gB_X11_feed : List (Nat × List gs_N) := [(0, [(.aload_n 0, 1, 0, 0, 0, 0, .inl 0, []),
    (.getfield 10, 4, 10, 0, 2, 1, .inl 0, []),
    (.getfield 47, 7, 5, 8, 2, 1, .inl 0, []),
    (.astore 6, 9, 6, 0, 0, 0, .inl 0, []),
    (.aload 6, 11, 6, 0, 0, 0, .inl 0, []),
    (.getfield 51, 14, 8, 4, 0, 0, .inl 0, []),
    (.bipush 20, 16, 0, 0, 0, 0, .inl 20, []),
    (.iadd, 17, 0, 0, 0, 0, .inl 0, []),
    (.sipush 800, 20, 0, 0, 0, 0, .inl 800, []),
    (.if_icmp .le 5, 23, 25, 0, 0, 0, .inl 0, []),
    (.iconst (-1), 24, 0, 0, 0, 0, .inl (-1), []),
    (.ireturn, 25, 0, 0, 0, 0, .inl 0, [])]),
  (25, [(.aload 6, 27, 6, 0, 0, 0, .inl 0, []),
    (.iload_n 1, 28, 1, 0, 0, 0, .inl 0, []),
    (.invokevirtual 57, 31, 106, 2, 2, 8, .inl 0, []),
    (.aload 6, 33, 6, 0, 0, 0, .inl 0, []),
    (.iload_n 2, 34, 2, 0, 0, 0, .inl 0, []),
    (.invokevirtual 57, 37, 106, 2, 2, 8, .inl 0, []),
    (.aload 6, 39, 6, 0, 0, 0, .inl 0, []),
    (.iload_n 3, 40, 3, 0, 0, 0, .inl 0, []),
    (.invokevirtual 57, 43, 106, 2, 2, 8, .inl 0, []),
    (.aload 6, 45, 6, 0, 0, 0, .inl 0, []),
    (.iload 4, 47, 4, 0, 0, 0, .inl 0, []),
    (.invokevirtual 57, 50, 106, 2, 2, 8, .inl 0, []),
    (.aload 6, 52, 6, 0, 0, 0, .inl 0, []),
    (.iload 5, 54, 5, 0, 0, 0, .inl 0, []),
    (.invokevirtual 57, 57, 106, 2, 2, 8, .inl 0, []),
    (.aload 6, 59, 6, 0, 0, 0, .inl 0, []),
    (.getfield 51, 62, 8, 4, 0, 0, .inl 0, []),
    (.ireturn, 63, 0, 0, 0, 0, .inl 0, [])])]
def gT_X11_feed : gs_T := ([], gB_X11_feed, [])
set_option maxRecDepth 100000 in
def gB_X11_text : List (Nat × List gs_N) := [(0, [(.iload_n 1, 1, 1, 0, 0, 0, .inl 0, []),
    (.ifCond .lt 17, 4, 18, 0, 0, 0, .inl 0, []),
    (.iload_n 1, 5, 1, 0, 0, 0, .inl 0, []),
    (.aload_n 0, 6, 0, 0, 0, 0, .inl 0, []),
    (.getfield 10, 9, 10, 0, 2, 1, .inl 0, []),
    (.getfield 47, 12, 5, 8, 2, 1, .inl 0, []),
    (.getfield 51, 15, 8, 4, 0, 0, .inl 0, []),
    (.if_icmp .le 6, 18, 21, 0, 0, 0, .inl 0, [])]),
  (18, [(.bipush (-2), 20, 0, 0, 0, 0, .inl (-2), []),
    (.ireturn, 21, 0, 0, 0, 0, .inl 0, [])]),
  (21, [(.aload_n 0, 22, 0, 0, 0, 0, .inl 0, []),
    (.getfield 10, 25, 10, 0, 2, 1, .inl 0, []),
    (.getfield 47, 28, 5, 8, 2, 1, .inl 0, []),
    (.iconst 0, 29, 0, 0, 0, 0, .inl 0, []),
    (.putfield 51, 32, 8, 4, 0, 0, .inl 0, []),
    (.iconst (-1), 33, 0, 0, 0, 0, .inl (-1), []),
    (.istore_n 2, 34, 2, 0, 0, 0, .inl 0, []),
    (.aload_n 0, 35, 0, 0, 0, 0, .inl 0, []),
    (.getfield 10, 38, 10, 0, 2, 1, .inl 0, []),
    (.aload_n 0, 39, 0, 0, 0, 0, .inl 0, []),
    (.getfield 37, 42, 10, 4, 2, 0, .inl 0, []),
    (.iload_n 1, 43, 1, 0, 0, 0, .inl 0, []),
    (.invokevirtual 61, 46, 42, 3, 0, 5, .inl 0, []),
    (.istore_n 2, 47, 2, 0, 0, 0, .inl 0, []),
    (.goto 6, 50, 53, 0, 0, 0, .inl 0, [])]),
  (51, [(.iconst (-1), 52, 0, 0, 0, 0, .inl (-1), []),
    (.ireturn, 53, 0, 0, 0, 0, .inl 0, [])]),
  (53, [(.aload_n 0, 54, 0, 0, 0, 0, .inl 0, []),
    (.getfield 33, 57, 10, 3, 2, 0, .inl 0, []),
    (.astore_n 3, 58, 3, 0, 0, 0, .inl 0, []),
    (.aload_n 0, 59, 0, 0, 0, 0, .inl 0, []),
    (.aload_n 0, 60, 0, 0, 0, 0, .inl 0, []),
    (.getfield 37, 63, 10, 4, 2, 0, .inl 0, []),
    (.putfield 33, 66, 10, 3, 2, 0, .inl 0, []),
    (.aload_n 0, 67, 0, 0, 0, 0, .inl 0, []),
    (.aload_n 3, 68, 3, 0, 0, 0, .inl 0, []),
    (.putfield 37, 71, 10, 4, 2, 0, .inl 0, []),
    (.aload_n 0, 72, 0, 0, 0, 0, .inl 0, []),
    (.aload_n 0, 73, 0, 0, 0, 0, .inl 0, []),
    (.getfield 33, 76, 10, 3, 2, 0, .inl 0, []),
    (.getfield 67, 79, 7, 8, 0, 0, .inl 0, []),
    (.putfield 70, 82, 10, 5, 0, 0, .inl 0, []),
    (.aload_n 0, 83, 0, 0, 0, 0, .inl 0, []),
    (.iconst 0, 84, 0, 0, 0, 0, .inl 0, []),
    (.putfield 73, 87, 10, 6, 0, 0, .inl 0, []),
    (.aload_n 0, 88, 0, 0, 0, 0, .inl 0, []),
    (.invokevirtual 76, 91, 166, 1, 2, 10, .inl 0, []),
    (.iload_n 2, 92, 2, 0, 0, 0, .inl 0, []),
    (.ireturn, 93, 0, 0, 0, 0, .inl 0, [])])]
def gT_X11_text : gs_T := ([(34, 47, 50, 0, 51, 3, 65)], gB_X11_text, [])
set_option maxRecDepth 100000 in
def gB_X11_fault : List (Nat × List gs_N) := [(0, [(.iload_n 1, 1, 1, 0, 0, 0, .inl 0, []),
    (.ifCond .ne 13, 4, 14, 0, 0, 0, .inl 0, []),
    (.aload_n 0, 5, 0, 0, 0, 0, .inl 0, []),
    (.getfield 10, 8, 10, 0, 2, 1, .inl 0, []),
    (.getfield 79, 11, 5, 9, 0, 0, .inl 0, []),
    (.goto 19, 14, 30, 0, 0, 0, .inl 0, [])]),
  (14, [(.iload_n 1, 15, 1, 0, 0, 0, .inl 0, []),
    (.iconst 1, 16, 0, 0, 0, 0, .inl 1, []),
    (.if_icmp .ne 13, 19, 29, 0, 0, 0, .inl 0, []),
    (.aload_n 0, 20, 0, 0, 0, 0, .inl 0, []),
    (.getfield 10, 23, 10, 0, 2, 1, .inl 0, []),
    (.getfield 82, 26, 5, 10, 0, 0, .inl 0, []),
    (.goto 4, 29, 30, 0, 0, 0, .inl 0, [])]),
  (29, [(.iconst (-1), 30, 0, 0, 0, 0, .inl (-1), [])]),
  (30, [(.ireturn, 31, 0, 0, 0, 0, .inl 0, [])])]
def gT_X11_fault : gs_T := ([], gB_X11_fault, [])
set_option maxRecDepth 100000 in
def gB_X11_named : List (Nat × List gs_N) := [(0, [(.iload_n 1, 1, 1, 0, 0, 0, .inl 0, []),
    (.tableswitch 79 0 3 #[31, 43, 55, 67], 32, 80, 31, 0, 0, .inl 0, [(0, 32), (1, 44), (2, 56), (3, 68)])]),
  (32, [(.aload_n 0, 33, 0, 0, 0, 0, .inl 0, []),
    (.getfield 33, 36, 10, 3, 2, 0, .inl 0, []),
    (.getfield 85, 39, 7, 0, 2, 1, .inl 0, []),
    (.iload_n 2, 40, 2, 0, 0, 0, .inl 0, []),
    (.invokevirtual 89, 43, 27, 2, 0, 3, .inl 0, []),
    (.ireturn, 44, 0, 0, 0, 0, .inl 0, [])]),
  (44, [(.aload_n 0, 45, 0, 0, 0, 0, .inl 0, []),
    (.getfield 33, 48, 10, 3, 2, 0, .inl 0, []),
    (.getfield 95, 51, 7, 1, 2, 1, .inl 0, []),
    (.iload_n 2, 52, 2, 0, 0, 0, .inl 0, []),
    (.invokevirtual 89, 55, 27, 2, 0, 3, .inl 0, []),
    (.ireturn, 56, 0, 0, 0, 0, .inl 0, [])]),
  (56, [(.aload_n 0, 57, 0, 0, 0, 0, .inl 0, []),
    (.getfield 33, 60, 10, 3, 2, 0, .inl 0, []),
    (.getfield 98, 63, 7, 3, 2, 1, .inl 0, []),
    (.iload_n 2, 64, 2, 0, 0, 0, .inl 0, []),
    (.invokevirtual 89, 67, 27, 2, 0, 3, .inl 0, []),
    (.ireturn, 68, 0, 0, 0, 0, .inl 0, [])]),
  (68, [(.aload_n 0, 69, 0, 0, 0, 0, .inl 0, []),
    (.getfield 33, 72, 10, 3, 2, 0, .inl 0, []),
    (.getfield 101, 75, 7, 2, 2, 1, .inl 0, []),
    (.iload_n 2, 76, 2, 0, 0, 0, .inl 0, []),
    (.invokevirtual 89, 79, 27, 2, 0, 3, .inl 0, []),
    (.ireturn, 80, 0, 0, 0, 0, .inl 0, [])]),
  (80, [(.iconst (-1), 81, 0, 0, 0, 0, .inl (-1), []),
    (.ireturn, 82, 0, 0, 0, 0, .inl 0, [])])]
def gT_X11_named : gs_T := ([], gB_X11_named, [])
set_option maxRecDepth 100000 in
def gB_X11_look : List (Nat × List gs_N) := [(0, [(.aload_n 0, 1, 0, 0, 0, 0, .inl 0, []),
    (.iload_n 1, 2, 1, 0, 0, 0, .inl 0, []),
    (.invokevirtual 104, 5, 157, 2, 0, 10, .inl 0, []),
    (.ifCond .ne 13, 8, 18, 0, 0, 0, .inl 0, []),
    (.new 108, 11, 101, 0, 0, 0, .inl 0, [])]),
  (18, [(.iload_n 2, 19, 2, 0, 0, 0, .inl 0, []),
    (.ifCond .lt 9, 22, 28, 0, 0, 0, .inl 0, []),
    (.iload_n 2, 23, 2, 0, 0, 0, .inl 0, []),
    (.bipush 12, 25, 0, 0, 0, 0, .inl 12, []),
    (.if_icmp .le 13, 28, 38, 0, 0, 0, .inl 0, [])]),
  (28, [(.new 115, 31, 102, 0, 0, 0, .inl 0, [])]),
  (38, [(.aload_n 0, 39, 0, 0, 0, 0, .inl 0, []),
    (.getfield 33, 42, 10, 3, 2, 0, .inl 0, []),
    (.getfield 120, 45, 7, 6, 2, 1, .inl 0, []),
    (.iload_n 1, 46, 1, 0, 0, 0, .inl 0, []),
    (.aaload, 47, 0, 0, 0, 0, .inl 0, []),
    (.iload_n 2, 48, 2, 0, 0, 0, .inl 0, []),
    (.invokevirtual 124, 51, 20, 2, 0, 2, .inl 0, []),
    (.ireturn, 52, 0, 0, 0, 0, .inl 0, [])])]
def gT_X11_look : gs_T := ([], gB_X11_look, [])
set_option maxRecDepth 100000 in
def gB_X11_round : List (Nat × List gs_N) := [(0, [(.iload_n 1, 1, 1, 0, 0, 0, .inl 0, []),
    (.invokestatic 129, 4, 161, 1, 0, 1, .inl 0, []),
    (.ifCond .eq 14, 7, 18, 0, 0, 0, .inl 0, []),
    (.aload_n 0, 8, 0, 0, 0, 0, .inl 0, []),
    (.getfield 33, 11, 10, 3, 2, 0, .inl 0, []),
    (.iload_n 1, 12, 1, 0, 0, 0, .inl 0, []),
    (.invokevirtual 132, 15, 88, 2, 0, 7, .inl 0, []),
    (.goto 4, 18, 19, 0, 0, 0, .inl 0, [])]),
  (18, [(.iconst (-1), 19, 0, 0, 0, 0, .inl (-1), [])]),
  (19, [(.ireturn, 20, 0, 0, 0, 0, .inl 0, [])])]
def gT_X11_round : gs_T := ([], gB_X11_round, [])
set_option maxRecDepth 100000 in
def gB_X11_day : List (Nat × List gs_N) := [(0, [(.aload_n 0, 1, 0, 0, 0, 0, .inl 0, []),
    (.iload_n 1, 2, 1, 0, 0, 0, .inl 0, []),
    (.invokevirtual 104, 5, 157, 2, 0, 10, .inl 0, []),
    (.ifCond .eq 22, 8, 27, 0, 0, 0, .inl 0, []),
    (.aload_n 0, 9, 0, 0, 0, 0, .inl 0, []),
    (.getfield 33, 12, 10, 3, 2, 0, .inl 0, []),
    (.aload_n 0, 13, 0, 0, 0, 0, .inl 0, []),
    (.getfield 33, 16, 10, 3, 2, 0, .inl 0, []),
    (.getfield 120, 19, 7, 6, 2, 1, .inl 0, []),
    (.iload_n 1, 20, 1, 0, 0, 0, .inl 0, []),
    (.aaload, 21, 0, 0, 0, 0, .inl 0, []),
    (.invokevirtual 135, 24, 90, 2, 0, 7, .inl 0, []),
    (.goto 5, 27, 29, 0, 0, 0, .inl 0, [])]),
  (27, [(.bipush (-2), 29, 0, 0, 0, 0, .inl (-2), [])]),
  (29, [(.ireturn, 30, 0, 0, 0, 0, .inl 0, [])])]
def gT_X11_day : gs_T := ([], gB_X11_day, [])
set_option maxRecDepth 100000 in
def gB_X11_months : List (Nat × List gs_N) := [(0, [(.aload_n 0, 1, 0, 0, 0, 0, .inl 0, []),
    (.iload_n 1, 2, 1, 0, 0, 0, .inl 0, []),
    (.invokevirtual 104, 5, 157, 2, 0, 10, .inl 0, []),
    (.ifCond .eq 22, 8, 27, 0, 0, 0, .inl 0, []),
    (.aload_n 0, 9, 0, 0, 0, 0, .inl 0, []),
    (.getfield 33, 12, 10, 3, 2, 0, .inl 0, []),
    (.aload_n 0, 13, 0, 0, 0, 0, .inl 0, []),
    (.getfield 33, 16, 10, 3, 2, 0, .inl 0, []),
    (.getfield 120, 19, 7, 6, 2, 1, .inl 0, []),
    (.iload_n 1, 20, 1, 0, 0, 0, .inl 0, []),
    (.aaload, 21, 0, 0, 0, 0, .inl 0, []),
    (.invokevirtual 139, 24, 91, 2, 0, 7, .inl 0, []),
    (.goto 4, 27, 28, 0, 0, 0, .inl 0, [])]),
  (27, [(.iconst (-1), 28, 0, 0, 0, 0, .inl (-1), [])]),
  (28, [(.ireturn, 29, 0, 0, 0, 0, .inl 0, [])])]
def gT_X11_months : gs_T := ([], gB_X11_months, [])
set_option maxRecDepth 100000 in
def gB_X11_years : List (Nat × List gs_N) := [(0, [(.aload_n 0, 1, 0, 0, 0, 0, .inl 0, []),
    (.iload_n 1, 2, 1, 0, 0, 0, .inl 0, []),
    (.invokevirtual 104, 5, 157, 2, 0, 10, .inl 0, []),
    (.ifCond .eq 8, 8, 13, 0, 0, 0, .inl 0, []),
    (.iload_n 2, 9, 2, 0, 0, 0, .inl 0, []),
    (.iconst (-1), 10, 0, 0, 0, 0, .inl (-1), []),
    (.if_icmp .ge 5, 13, 15, 0, 0, 0, .inl 0, [])]),
  (13, [(.iconst (-1), 14, 0, 0, 0, 0, .inl (-1), []),
    (.ireturn, 15, 0, 0, 0, 0, .inl 0, [])]),
  (15, [(.aload_n 0, 16, 0, 0, 0, 0, .inl 0, []),
    (.getfield 33, 19, 10, 3, 2, 0, .inl 0, []),
    (.aload_n 0, 20, 0, 0, 0, 0, .inl 0, []),
    (.getfield 33, 23, 10, 3, 2, 0, .inl 0, []),
    (.getfield 120, 26, 7, 6, 2, 1, .inl 0, []),
    (.iload_n 1, 27, 1, 0, 0, 0, .inl 0, []),
    (.aaload, 28, 0, 0, 0, 0, .inl 0, []),
    (.iload_n 2, 29, 2, 0, 0, 0, .inl 0, []),
    (.invokevirtual 142, 32, 92, 3, 0, 7, .inl 0, []),
    (.ireturn, 33, 0, 0, 0, 0, .inl 0, [])])]
def gT_X11_years : gs_T := ([], gB_X11_years, [])
set_option maxRecDepth 100000 in
def gB_X11_place : List (Nat × List gs_N) := [(0, [(.aload_n 0, 1, 0, 0, 0, 0, .inl 0, []),
    (.iload_n 1, 2, 1, 0, 0, 0, .inl 0, []),
    (.invokevirtual 104, 5, 157, 2, 0, 10, .inl 0, []),
    (.ifCond .eq 19, 8, 24, 0, 0, 0, .inl 0, []),
    (.iload_n 2, 9, 2, 0, 0, 0, .inl 0, []),
    (.ifCond .lt 15, 12, 24, 0, 0, 0, .inl 0, []),
    (.iload_n 2, 13, 2, 0, 0, 0, .inl 0, []),
    (.iconst 4, 14, 0, 0, 0, 0, .inl 4, []),
    (.if_icmp .ge 10, 17, 24, 0, 0, 0, .inl 0, []),
    (.iload_n 3, 18, 3, 0, 0, 0, .inl 0, []),
    (.invokestatic 146, 21, 164, 1, 0, 1, .inl 0, []),
    (.ifCond .ne 5, 24, 26, 0, 0, 0, .inl 0, [])]),
  (24, [(.iconst (-1), 25, 0, 0, 0, 0, .inl (-1), []),
    (.ireturn, 26, 0, 0, 0, 0, .inl 0, [])]),
  (26, [(.aload_n 0, 27, 0, 0, 0, 0, .inl 0, []),
    (.getfield 33, 30, 10, 3, 2, 0, .inl 0, []),
    (.getfield 120, 33, 7, 6, 2, 1, .inl 0, []),
    (.iload_n 1, 34, 1, 0, 0, 0, .inl 0, []),
    (.aaload, 35, 0, 0, 0, 0, .inl 0, []),
    (.astore 4, 37, 4, 0, 0, 0, .inl 0, []),
    (.iload_n 3, 38, 3, 0, 0, 0, .inl 0, []),
    (.ifCond .ne 16, 41, 54, 0, 0, 0, .inl 0, []),
    (.aload_n 0, 42, 0, 0, 0, 0, .inl 0, []),
    (.getfield 33, 45, 10, 3, 2, 0, .inl 0, []),
    (.aload 4, 47, 4, 0, 0, 0, .inl 0, []),
    (.iload_n 2, 48, 2, 0, 0, 0, .inl 0, []),
    (.invokevirtual 149, 51, 93, 3, 0, 7, .inl 0, []),
    (.goto 13, 54, 64, 0, 0, 0, .inl 0, [])]),
  (54, [(.aload_n 0, 55, 0, 0, 0, 0, .inl 0, []),
    (.getfield 33, 58, 10, 3, 2, 0, .inl 0, []),
    (.aload 4, 60, 4, 0, 0, 0, .inl 0, []),
    (.iload_n 2, 61, 2, 0, 0, 0, .inl 0, []),
    (.invokevirtual 152, 64, 94, 3, 0, 7, .inl 0, [])]),
  (64, [(.ireturn, 65, 0, 0, 0, 0, .inl 0, [])])]
def gT_X11_place : gs_T := ([], gB_X11_place, [])
set_option maxRecDepth 100000 in
def gB_X11_sort : List (Nat × List gs_N) := [(0, [(.aload_n 0, 1, 0, 0, 0, 0, .inl 0, []),
    (.iload_n 1, 2, 1, 0, 0, 0, .inl 0, []),
    (.invokevirtual 104, 5, 157, 2, 0, 10, .inl 0, []),
    (.ifCond .eq 22, 8, 27, 0, 0, 0, .inl 0, []),
    (.aload_n 0, 9, 0, 0, 0, 0, .inl 0, []),
    (.getfield 33, 12, 10, 3, 2, 0, .inl 0, []),
    (.aload_n 0, 13, 0, 0, 0, 0, .inl 0, []),
    (.getfield 33, 16, 10, 3, 2, 0, .inl 0, []),
    (.getfield 120, 19, 7, 6, 2, 1, .inl 0, []),
    (.iload_n 1, 20, 1, 0, 0, 0, .inl 0, []),
    (.aaload, 21, 0, 0, 0, 0, .inl 0, []),
    (.invokevirtual 155, 24, 95, 2, 0, 7, .inl 0, []),
    (.goto 5, 27, 29, 0, 0, 0, .inl 0, [])]),
  (27, [(.bipush (-2), 29, 0, 0, 0, 0, .inl (-2), [])]),
  (29, [(.ireturn, 30, 0, 0, 0, 0, .inl 0, [])])]
def gT_X11_sort : gs_T := ([], gB_X11_sort, [])
set_option maxRecDepth 100000 in
def gB_X11_mend : List (Nat × List gs_N) := [(0, [(.aload_n 0, 1, 0, 0, 0, 0, .inl 0, []),
    (.iload_n 1, 2, 1, 0, 0, 0, .inl 0, []),
    (.invokevirtual 104, 5, 157, 2, 0, 10, .inl 0, []),
    (.ifCond .eq 12, 8, 17, 0, 0, 0, .inl 0, []),
    (.iload_n 2, 9, 2, 0, 0, 0, .inl 0, []),
    (.ifCond .lt 8, 12, 17, 0, 0, 0, .inl 0, []),
    (.iload_n 2, 13, 2, 0, 0, 0, .inl 0, []),
    (.iconst 3, 14, 0, 0, 0, 0, .inl 3, []),
    (.if_icmp .le 5, 17, 19, 0, 0, 0, .inl 0, [])]),
  (17, [(.iconst (-1), 18, 0, 0, 0, 0, .inl (-1), []),
    (.ireturn, 19, 0, 0, 0, 0, .inl 0, [])]),
  (19, [(.aload_n 0, 20, 0, 0, 0, 0, .inl 0, []),
    (.getfield 33, 23, 10, 3, 2, 0, .inl 0, []),
    (.getfield 120, 26, 7, 6, 2, 1, .inl 0, []),
    (.iload_n 1, 27, 1, 0, 0, 0, .inl 0, []),
    (.aaload, 28, 0, 0, 0, 0, .inl 0, []),
    (.astore_n 3, 29, 3, 0, 0, 0, .inl 0, []),
    (.aload_n 3, 30, 3, 0, 0, 0, .inl 0, []),
    (.invokevirtual 158, 33, 19, 1, 0, 2, .inl 0, []),
    (.ifCond .ne 15, 36, 48, 0, 0, 0, .inl 0, []),
    (.aload_n 0, 37, 0, 0, 0, 0, .inl 0, []),
    (.getfield 33, 40, 10, 3, 2, 0, .inl 0, []),
    (.aload_n 3, 41, 3, 0, 0, 0, .inl 0, []),
    (.invokevirtual 135, 44, 90, 2, 0, 7, .inl 0, []),
    (.iconst (-1), 45, 0, 0, 0, 0, .inl (-1), []),
    (.if_icmp .eq 5, 48, 50, 0, 0, 0, .inl 0, [])]),
  (48, [(.iconst 0, 49, 0, 0, 0, 0, .inl 0, []),
    (.ireturn, 50, 0, 0, 0, 0, .inl 0, [])]),
  (50, [(.aload_n 0, 51, 0, 0, 0, 0, .inl 0, []),
    (.getfield 33, 54, 10, 3, 2, 0, .inl 0, []),
    (.aload_n 3, 55, 3, 0, 0, 0, .inl 0, []),
    (.invokevirtual 139, 58, 91, 2, 0, 7, .inl 0, []),
    (.invokestatic 162, 61, 308, 1, 0, 1, .inl 0, []),
    (.istore 4, 63, 4, 0, 0, 0, .inl 0, []),
    (.aload_n 0, 64, 0, 0, 0, 0, .inl 0, []),
    (.getfield 33, 67, 10, 3, 2, 0, .inl 0, []),
    (.aload_n 3, 68, 3, 0, 0, 0, .inl 0, []),
    (.iconst (-1), 69, 0, 0, 0, 0, .inl (-1), []),
    (.invokevirtual 142, 72, 92, 3, 0, 7, .inl 0, []),
    (.istore 5, 74, 5, 0, 0, 0, .inl 0, []),
    (.aload_n 3, 75, 3, 0, 0, 0, .inl 0, []),
    (.getfield 167, 78, 2, 3, 0, 0, .inl 0, []),
    (.invokestatic 170, 81, 80, 1, 0, 1, .inl 0, []),
    (.istore 6, 83, 6, 0, 0, 0, .inl 0, []),
    (.iload_n 2, 84, 2, 0, 0, 0, .inl 0, []),
    (.tableswitch 37 1 3 #[28, 31, 34], 112, 121, 28, 0, 0, .inl 0, [(1, 112), (2, 115), (3, 118)])]),
  (112, [(.iload 4, 114, 4, 0, 0, 0, .inl 0, []),
    (.ireturn, 115, 0, 0, 0, 0, .inl 0, [])]),
  (115, [(.iload 5, 117, 5, 0, 0, 0, .inl 0, []),
    (.ireturn, 118, 0, 0, 0, 0, .inl 0, [])]),
  (118, [(.iload 6, 120, 6, 0, 0, 0, .inl 0, []),
    (.ireturn, 121, 0, 0, 0, 0, .inl 0, [])]),
  (121, [(.iload 4, 123, 4, 0, 0, 0, .inl 0, []),
    (.iload 5, 125, 5, 0, 0, 0, .inl 0, []),
    (.iadd, 126, 0, 0, 0, 0, .inl 0, []),
    (.iload 6, 128, 6, 0, 0, 0, .inl 0, []),
    (.iadd, 129, 0, 0, 0, 0, .inl 0, []),
    (.ireturn, 130, 0, 0, 0, 0, .inl 0, [])])]
def gT_X11_mend : gs_T := ([], gB_X11_mend, [])
set_option maxRecDepth 100000 in
def gB_X11_odds : List (Nat × List gs_N) := [(0, [(.aload_n 0, 1, 0, 0, 0, 0, .inl 0, []),
    (.iload_n 1, 2, 1, 0, 0, 0, .inl 0, []),
    (.invokevirtual 104, 5, 157, 2, 0, 10, .inl 0, []),
    (.ifCond .eq 18, 8, 23, 0, 0, 0, .inl 0, []),
    (.aload_n 0, 9, 0, 0, 0, 0, .inl 0, []),
    (.iload_n 2, 10, 2, 0, 0, 0, .inl 0, []),
    (.invokevirtual 175, 13, 159, 2, 0, 10, .inl 0, []),
    (.ifCond .eq 10, 16, 23, 0, 0, 0, .inl 0, []),
    (.iload_n 3, 17, 3, 0, 0, 0, .inl 0, []),
    (.invokestatic 146, 20, 164, 1, 0, 1, .inl 0, []),
    (.ifCond .ne 7, 23, 27, 0, 0, 0, .inl 0, [])]),
  (23, [(.ldc2_w 178, 26, 0, 0, 0, 0, .inr (.inl (-1)), []),
    (.lreturn, 27, 0, 0, 0, 0, .inl 0, [])]),
  (27, [(.aload_n 0, 28, 0, 0, 0, 0, .inl 0, []),
    (.getfield 33, 31, 10, 3, 2, 0, .inl 0, []),
    (.getfield 120, 34, 7, 6, 2, 1, .inl 0, []),
    (.iload_n 1, 35, 1, 0, 0, 0, .inl 0, []),
    (.aaload, 36, 0, 0, 0, 0, .inl 0, []),
    (.astore 4, 38, 4, 0, 0, 0, .inl 0, []),
    (.lconst 0, 39, 0, 0, 0, 0, .inr (.inl 0), []),
    (.lstore 5, 41, 5, 0, 0, 0, .inl 0, []),
    (.iconst 0, 42, 0, 0, 0, 0, .inl 0, []),
    (.istore 7, 44, 7, 0, 0, 0, .inl 0, [])]),
  (44, [(.iload 7, 46, 7, 0, 0, 0, .inl 0, []),
    (.aload_n 0, 47, 0, 0, 0, 0, .inl 0, []),
    (.getfield 33, 50, 10, 3, 2, 0, .inl 0, []),
    (.getfield 98, 53, 7, 3, 2, 1, .inl 0, []),
    (.getfield 180, 56, 3, 3, 0, 0, .inl 0, []),
    (.if_icmp .ge 25, 59, 81, 0, 0, 0, .inl 0, []),
    (.lload 5, 61, 5, 0, 0, 0, .inl 0, []),
    (.aload_n 0, 62, 0, 0, 0, 0, .inl 0, []),
    (.getfield 33, 65, 10, 3, 2, 0, .inl 0, []),
    (.aload 4, 67, 4, 0, 0, 0, .inl 0, []),
    (.iload 7, 69, 7, 0, 0, 0, .inl 0, []),
    (.invokevirtual 181, 72, 97, 3, 1, 7, .inl 0, []),
    (.ladd, 73, 0, 0, 0, 0, .inl 0, []),
    (.lstore 5, 75, 5, 0, 0, 0, .inl 0, []),
    (.iinc 7 1, 78, 7, 0, 0, 0, .inl 1, []),
    (.goto (-34), 81, 44, 0, 0, 0, .inl 0, [])]),
  (81, [(.aload_n 0, 82, 0, 0, 0, 0, .inl 0, []),
    (.getfield 33, 85, 10, 3, 2, 0, .inl 0, []),
    (.aload 4, 87, 4, 0, 0, 0, .inl 0, []),
    (.iload_n 2, 88, 2, 0, 0, 0, .inl 0, []),
    (.invokevirtual 181, 91, 97, 3, 1, 7, .inl 0, []),
    (.lload 5, 93, 5, 0, 0, 0, .inl 0, []),
    (.iload_n 3, 94, 3, 0, 0, 0, .inl 0, []),
    (.invokestatic 185, 97, 85, 3, 1, 1, .inl 0, []),
    (.lreturn, 98, 0, 0, 0, 0, .inl 0, [])])]
def gT_X11_odds : gs_T := ([], gB_X11_odds, [(44, [0, 2, 3, 4, 5, 7])])
set_option maxRecDepth 100000 in
def gB_X11_born : List (Nat × List gs_N) := [(0, [(.aload_n 0, 1, 0, 0, 0, 0, .inl 0, []),
    (.iload_n 1, 2, 1, 0, 0, 0, .inl 0, []),
    (.invokevirtual 189, 5, 158, 2, 0, 10, .inl 0, []),
    (.ifCond .ne 6, 8, 11, 0, 0, 0, .inl 0, []),
    (.ldc 192, 10, 0, 0, 0, 0, .inl (-2147483648), []),
    (.ireturn, 11, 0, 0, 0, 0, .inl 0, [])]),
  (11, [(.aload_n 0, 12, 0, 0, 0, 0, .inl 0, []),
    (.getfield 33, 15, 10, 3, 2, 0, .inl 0, []),
    (.getfield 193, 18, 7, 7, 2, 1, .inl 0, []),
    (.iload_n 1, 19, 1, 0, 0, 0, .inl 0, []),
    (.aaload, 20, 0, 0, 0, 0, .inl 0, []),
    (.astore_n 3, 21, 3, 0, 0, 0, .inl 0, []),
    (.iload_n 2, 22, 2, 0, 0, 0, .inl 0, []),
    (.tableswitch 84 0 5 #[38, 59, 64, 69, 74, 79], 60, 106, 38, 0, 0, .inl 0, [(0, 60), (1, 81), (2, 86), (3, 91), (4, 96), (5, 101)])]),
  (60, [(.aload_n 3, 61, 3, 0, 0, 0, .inl 0, []),
    (.getfield 197, 64, 0, 3, 0, 0, .inl 0, []),
    (.aload_n 3, 65, 3, 0, 0, 0, .inl 0, []),
    (.getfield 202, 68, 0, 5, 0, 0, .inl 0, []),
    (.aload_n 3, 69, 3, 0, 0, 0, .inl 0, []),
    (.getfield 205, 72, 0, 4, 0, 0, .inl 0, []),
    (.aload_n 3, 73, 3, 0, 0, 0, .inl 0, []),
    (.getfield 208, 76, 0, 2, 0, 0, .inl 0, []),
    (.isub, 77, 0, 0, 0, 0, .inl 0, []),
    (.invokestatic 211, 80, 1, 3, 0, 1, .inl 0, []),
    (.ireturn, 81, 0, 0, 0, 0, .inl 0, [])]),
  (81, [(.aload_n 3, 82, 3, 0, 0, 0, .inl 0, []),
    (.getfield 215, 85, 0, 9, 0, 0, .inl 0, []),
    (.ireturn, 86, 0, 0, 0, 0, .inl 0, [])]),
  (86, [(.aload_n 3, 87, 3, 0, 0, 0, .inl 0, []),
    (.getfield 218, 90, 0, 10, 0, 0, .inl 0, []),
    (.ireturn, 91, 0, 0, 0, 0, .inl 0, [])]),
  (91, [(.aload_n 3, 92, 3, 0, 0, 0, .inl 0, []),
    (.invokevirtual 221, 95, 6, 1, 0, 0, .inl 0, []),
    (.ireturn, 96, 0, 0, 0, 0, .inl 0, [])]),
  (96, [(.aload_n 3, 97, 3, 0, 0, 0, .inl 0, []),
    (.getfield 225, 100, 0, 0, 0, 0, .inl 0, []),
    (.ireturn, 101, 0, 0, 0, 0, .inl 0, [])]),
  (101, [(.aload_n 3, 102, 3, 0, 0, 0, .inl 0, []),
    (.getfield 228, 105, 0, 1, 0, 0, .inl 0, []),
    (.ireturn, 106, 0, 0, 0, 0, .inl 0, [])]),
  (106, [(.ldc 192, 108, 0, 0, 0, 0, .inl (-2147483648), []),
    (.ireturn, 109, 0, 0, 0, 0, .inl 0, [])])]
def gT_X11_born : gs_T := ([], gB_X11_born, [])
set_option maxRecDepth 100000 in
def gB_X11_toll : List (Nat × List gs_N) := [(0, [(.aload_n 0, 1, 0, 0, 0, 0, .inl 0, []),
    (.iload_n 1, 2, 1, 0, 0, 0, .inl 0, []),
    (.invokevirtual 104, 5, 157, 2, 0, 10, .inl 0, []),
    (.ifCond .eq 11, 8, 16, 0, 0, 0, .inl 0, []),
    (.aload_n 0, 9, 0, 0, 0, 0, .inl 0, []),
    (.iload_n 2, 10, 2, 0, 0, 0, .inl 0, []),
    (.invokevirtual 189, 13, 158, 2, 0, 10, .inl 0, []),
    (.ifCond .ne 5, 16, 18, 0, 0, 0, .inl 0, [])]),
  (16, [(.iconst (-1), 17, 0, 0, 0, 0, .inl (-1), []),
    (.ireturn, 18, 0, 0, 0, 0, .inl 0, [])]),
  (18, [(.aload_n 0, 19, 0, 0, 0, 0, .inl 0, []),
    (.getfield 33, 22, 10, 3, 2, 0, .inl 0, []),
    (.aload_n 0, 23, 0, 0, 0, 0, .inl 0, []),
    (.getfield 33, 26, 10, 3, 2, 0, .inl 0, []),
    (.getfield 120, 29, 7, 6, 2, 1, .inl 0, []),
    (.iload_n 1, 30, 1, 0, 0, 0, .inl 0, []),
    (.aaload, 31, 0, 0, 0, 0, .inl 0, []),
    (.aload_n 0, 32, 0, 0, 0, 0, .inl 0, []),
    (.getfield 33, 35, 10, 3, 2, 0, .inl 0, []),
    (.getfield 193, 38, 7, 7, 2, 1, .inl 0, []),
    (.iload_n 2, 39, 2, 0, 0, 0, .inl 0, []),
    (.aaload, 40, 0, 0, 0, 0, .inl 0, []),
    (.invokevirtual 231, 43, 100, 3, 0, 7, .inl 0, []),
    (.ireturn, 44, 0, 0, 0, 0, .inl 0, [])])]
def gT_X11_toll : gs_T := ([], gB_X11_toll, [])
set_option maxRecDepth 100000 in
def gB_X11_reading : List (Nat × List gs_N) := [(0, [(.aload_n 0, 1, 0, 0, 0, 0, .inl 0, []),
    (.iload_n 1, 2, 1, 0, 0, 0, .inl 0, []),
    (.invokevirtual 104, 5, 157, 2, 0, 10, .inl 0, []),
    (.ifCond .eq 11, 8, 16, 0, 0, 0, .inl 0, []),
    (.aload_n 0, 9, 0, 0, 0, 0, .inl 0, []),
    (.iload_n 2, 10, 2, 0, 0, 0, .inl 0, []),
    (.invokevirtual 189, 13, 158, 2, 0, 10, .inl 0, []),
    (.ifCond .ne 5, 16, 18, 0, 0, 0, .inl 0, [])]),
  (16, [(.iconst (-1), 17, 0, 0, 0, 0, .inl (-1), []),
    (.ireturn, 18, 0, 0, 0, 0, .inl 0, [])]),
  (18, [(.aload_n 0, 19, 0, 0, 0, 0, .inl 0, []),
    (.getfield 33, 22, 10, 3, 2, 0, .inl 0, []),
    (.aload_n 0, 23, 0, 0, 0, 0, .inl 0, []),
    (.getfield 33, 26, 10, 3, 2, 0, .inl 0, []),
    (.getfield 120, 29, 7, 6, 2, 1, .inl 0, []),
    (.iload_n 1, 30, 1, 0, 0, 0, .inl 0, []),
    (.aaload, 31, 0, 0, 0, 0, .inl 0, []),
    (.aload_n 0, 32, 0, 0, 0, 0, .inl 0, []),
    (.getfield 33, 35, 10, 3, 2, 0, .inl 0, []),
    (.getfield 193, 38, 7, 7, 2, 1, .inl 0, []),
    (.iload_n 2, 39, 2, 0, 0, 0, .inl 0, []),
    (.aaload, 40, 0, 0, 0, 0, .inl 0, []),
    (.invokevirtual 235, 43, 99, 3, 0, 7, .inl 0, []),
    (.ireturn, 44, 0, 0, 0, 0, .inl 0, [])])]
def gT_X11_reading : gs_T := ([], gB_X11_reading, [])
set_option maxRecDepth 100000 in
def gB_X11_pairs : List (Nat × List gs_N) := [(0, [(.iload_n 1, 1, 1, 0, 0, 0, .inl 0, []),
    (.invokestatic 146, 4, 164, 1, 0, 1, .inl 0, []),
    (.ifCond .ne 5, 7, 9, 0, 0, 0, .inl 0, []),
    (.iconst (-1), 8, 0, 0, 0, 0, .inl (-1), []),
    (.ireturn, 9, 0, 0, 0, 0, .inl 0, [])]),
  (9, [(.aload_n 0, 10, 0, 0, 0, 0, .inl 0, []),
    (.invokevirtual 238, 13, 168, 1, 2, 10, .inl 0, []),
    (.iload_n 1, 14, 1, 0, 0, 0, .inl 0, []),
    (.ifCond .ne 13, 17, 27, 0, 0, 0, .inl 0, []),
    (.aload_n 0, 18, 0, 0, 0, 0, .inl 0, []),
    (.getfield 19, 21, 10, 1, 2, 1, .inl 0, []),
    (.getfield 241, 24, 4, 13, 0, 0, .inl 0, []),
    (.goto 10, 27, 34, 0, 0, 0, .inl 0, [])]),
  (27, [(.aload_n 0, 28, 0, 0, 0, 0, .inl 0, []),
    (.getfield 19, 31, 10, 1, 2, 1, .inl 0, []),
    (.getfield 244, 34, 4, 14, 0, 0, .inl 0, [])]),
  (34, [(.ireturn, 35, 0, 0, 0, 0, .inl 0, [])])]
def gT_X11_pairs : gs_T := ([], gB_X11_pairs, [])
set_option maxRecDepth 100000 in
def gB_X11_pair : List (Nat × List gs_N) := [(0, [(.aload_n 0, 1, 0, 0, 0, 0, .inl 0, []),
    (.iload_n 1, 2, 1, 0, 0, 0, .inl 0, []),
    (.invokevirtual 104, 5, 157, 2, 0, 10, .inl 0, []),
    (.ifCond .ne 5, 8, 10, 0, 0, 0, .inl 0, []),
    (.iconst (-1), 9, 0, 0, 0, 0, .inl (-1), []),
    (.ireturn, 10, 0, 0, 0, 0, .inl 0, [])]),
  (10, [(.aload_n 0, 11, 0, 0, 0, 0, .inl 0, []),
    (.invokevirtual 238, 14, 168, 1, 2, 10, .inl 0, []),
    (.aload_n 0, 15, 0, 0, 0, 0, .inl 0, []),
    (.getfield 19, 18, 10, 1, 2, 1, .inl 0, []),
    (.getfield 247, 21, 4, 11, 2, 1, .inl 0, []),
    (.iload_n 1, 22, 1, 0, 0, 0, .inl 0, []),
    (.iaload, 23, 0, 0, 0, 0, .inl 0, []),
    (.ireturn, 24, 0, 0, 0, 0, .inl 0, [])])]
def gT_X11_pair : gs_T := ([], gB_X11_pair, [])
set_option maxRecDepth 100000 in
def gB_X11_one : List (Nat × List gs_N) := [(0, [(.aload_n 0, 1, 0, 0, 0, 0, .inl 0, []),
    (.iload_n 1, 2, 1, 0, 0, 0, .inl 0, []),
    (.invokevirtual 104, 5, 157, 2, 0, 10, .inl 0, []),
    (.ifCond .eq 16, 8, 21, 0, 0, 0, .inl 0, []),
    (.aload_n 0, 9, 0, 0, 0, 0, .inl 0, []),
    (.iload_n 2, 10, 2, 0, 0, 0, .inl 0, []),
    (.invokevirtual 104, 13, 157, 2, 0, 10, .inl 0, []),
    (.ifCond .eq 8, 16, 21, 0, 0, 0, .inl 0, []),
    (.iload_n 1, 17, 1, 0, 0, 0, .inl 0, []),
    (.iload_n 2, 18, 2, 0, 0, 0, .inl 0, []),
    (.if_icmp .ne 5, 21, 23, 0, 0, 0, .inl 0, [])]),
  (21, [(.iconst (-1), 22, 0, 0, 0, 0, .inl (-1), []),
    (.ireturn, 23, 0, 0, 0, 0, .inl 0, [])]),
  (23, [(.aload_n 0, 24, 0, 0, 0, 0, .inl 0, []),
    (.getfield 33, 27, 10, 3, 2, 0, .inl 0, []),
    (.aload_n 0, 28, 0, 0, 0, 0, .inl 0, []),
    (.getfield 33, 31, 10, 3, 2, 0, .inl 0, []),
    (.getfield 120, 34, 7, 6, 2, 1, .inl 0, []),
    (.iload_n 1, 35, 1, 0, 0, 0, .inl 0, []),
    (.aaload, 36, 0, 0, 0, 0, .inl 0, []),
    (.aload_n 0, 37, 0, 0, 0, 0, .inl 0, []),
    (.getfield 33, 40, 10, 3, 2, 0, .inl 0, []),
    (.getfield 120, 43, 7, 6, 2, 1, .inl 0, []),
    (.iload_n 2, 44, 2, 0, 0, 0, .inl 0, []),
    (.aaload, 45, 0, 0, 0, 0, .inl 0, []),
    (.invokevirtual 251, 48, 103, 3, 0, 7, .inl 0, []),
    (.ifCond .eq 7, 51, 55, 0, 0, 0, .inl 0, []),
    (.iconst 1, 52, 0, 0, 0, 0, .inl 1, []),
    (.goto 4, 55, 56, 0, 0, 0, .inl 0, [])]),
  (55, [(.iconst 0, 56, 0, 0, 0, 0, .inl 0, [])]),
  (56, [(.ireturn, 57, 0, 0, 0, 0, .inl 0, [])])]
def gT_X11_one : gs_T := ([], gB_X11_one, [])
end
section
set_option maxRecDepth 100000 in
def gB_X11_known : List (Nat × List gs_N) := [(0, [(.iload_n 1, 1, 1, 0, 0, 0, .inl 0, []),
    (.iconst (-1), 2, 0, 0, 0, 0, .inl (-1), []),
    (.if_icmp .lt 14, 5, 16, 0, 0, 0, .inl 0, []),
    (.iload_n 1, 6, 1, 0, 0, 0, .inl 0, []),
    (.aload_n 0, 7, 0, 0, 0, 0, .inl 0, []),
    (.getfield 33, 10, 10, 3, 2, 0, .inl 0, []),
    (.getfield 67, 13, 7, 8, 0, 0, .inl 0, []),
    (.if_icmp .le 5, 16, 18, 0, 0, 0, .inl 0, [])]),
  (16, [(.iconst 0, 17, 0, 0, 0, 0, .inl 0, []),
    (.ireturn, 18, 1, 0, 0, 0, .inl 0, [])]),
  (18, [(.aload_n 0, 19, 0, 0, 0, 0, .inl 0, []),
    (.iload_n 1, 20, 1, 0, 0, 0, .inl 0, []),
    (.iconst (-1), 21, 0, 0, 0, 0, .inl (-1), []),
    (.if_icmp .ne 13, 24, 34, 0, 0, 0, .inl 0, []),
    (.aload_n 0, 25, 0, 0, 0, 0, .inl 0, []),
    (.getfield 33, 28, 10, 3, 2, 0, .inl 0, []),
    (.getfield 67, 31, 7, 8, 0, 0, .inl 0, []),
    (.goto 4, 34, 35, 0, 0, 0, .inl 0, [])]),
  (34, [(.iload_n 1, 35, 1, 0, 0, 0, .inl 0, [])]),
  (35, [(.putfield 70, 38, 10, 5, 0, 0, .inl 0, []),
    (.aload_n 0, 39, 0, 0, 0, 0, .inl 0, []),
    (.invokevirtual 76, 42, 166, 1, 2, 10, .inl 0, []),
    (.iconst 1, 43, 0, 0, 0, 0, .inl 1, []),
    (.ireturn, 44, 1, 0, 0, 0, .inl 0, [])])]
def gT_X11_known : gs_T := ([], gB_X11_known, [])
set_option maxRecDepth 100000 in
def gB_X11_event : List (Nat × List gs_N) := [(0, [(.aload_n 0, 1, 0, 0, 0, 0, .inl 0, []),
    (.iload_n 1, 2, 1, 0, 0, 0, .inl 0, []),
    (.invokevirtual 104, 5, 157, 2, 0, 10, .inl 0, []),
    (.ifCond .ne 5, 8, 10, 0, 0, 0, .inl 0, []),
    (.iconst (-1), 9, 0, 0, 0, 0, .inl (-1), []),
    (.ireturn, 10, 0, 0, 0, 0, .inl 0, [])]),
  (10, [(.aload_n 0, 11, 0, 0, 0, 0, .inl 0, []),
    (.invokevirtual 255, 14, 169, 1, 2, 10, .inl 0, []),
    (.aload_n 0, 15, 0, 0, 0, 0, .inl 0, []),
    (.getfield 26, 18, 10, 2, 2, 1, .inl 0, []),
    (.getfield 258, 21, 1, 0, 2, 1, .inl 0, []),
    (.iload_n 1, 22, 1, 0, 0, 0, .inl 0, []),
    (.iaload, 23, 0, 0, 0, 0, .inl 0, []),
    (.ireturn, 24, 0, 0, 0, 0, .inl 0, [])])]
def gT_X11_event : gs_T := ([], gB_X11_event, [])
set_option maxRecDepth 100000 in
def gB_X11_slips : List (Nat × List gs_N) := [(0, [(.aload_n 0, 1, 0, 0, 0, 0, .inl 0, []),
    (.iload_n 1, 2, 1, 0, 0, 0, .inl 0, []),
    (.invokevirtual 104, 5, 157, 2, 0, 10, .inl 0, []),
    (.ifCond .eq 16, 8, 21, 0, 0, 0, .inl 0, []),
    (.aload_n 0, 9, 0, 0, 0, 0, .inl 0, []),
    (.iload_n 2, 10, 2, 0, 0, 0, .inl 0, []),
    (.invokevirtual 104, 13, 157, 2, 0, 10, .inl 0, []),
    (.ifCond .eq 8, 16, 21, 0, 0, 0, .inl 0, []),
    (.iload_n 1, 17, 1, 0, 0, 0, .inl 0, []),
    (.iload_n 2, 18, 2, 0, 0, 0, .inl 0, []),
    (.if_icmp .ne 5, 21, 23, 0, 0, 0, .inl 0, [])]),
  (21, [(.iconst (-1), 22, 0, 0, 0, 0, .inl (-1), []),
    (.ireturn, 23, 0, 0, 0, 0, .inl 0, [])]),
  (23, [(.aload_n 0, 24, 0, 0, 0, 0, .inl 0, []),
    (.getfield 33, 27, 10, 3, 2, 0, .inl 0, []),
    (.getfield 120, 30, 7, 6, 2, 1, .inl 0, []),
    (.iload_n 1, 31, 1, 0, 0, 0, .inl 0, []),
    (.aaload, 32, 0, 0, 0, 0, .inl 0, []),
    (.aload_n 0, 33, 0, 0, 0, 0, .inl 0, []),
    (.getfield 33, 36, 10, 3, 2, 0, .inl 0, []),
    (.getfield 120, 39, 7, 6, 2, 1, .inl 0, []),
    (.iload_n 2, 40, 2, 0, 0, 0, .inl 0, []),
    (.aaload, 41, 0, 0, 0, 0, .inl 0, []),
    (.invokevirtual 261, 44, 21, 2, 0, 2, .inl 0, []),
    (.ireturn, 45, 0, 0, 0, 0, .inl 0, [])])]
def gT_X11_slips : gs_T := ([], gB_X11_slips, [])
set_option maxRecDepth 100000 in
def gB_X11_copied : List (Nat × List gs_N) := [(0, [(.aload_n 0, 1, 0, 0, 0, 0, .inl 0, []),
    (.iload_n 1, 2, 1, 0, 0, 0, .inl 0, []),
    (.invokevirtual 104, 5, 157, 2, 0, 10, .inl 0, []),
    (.ifCond .ne 5, 8, 10, 0, 0, 0, .inl 0, []),
    (.iconst (-1), 9, 0, 0, 0, 0, .inl (-1), []),
    (.ireturn, 10, 0, 0, 0, 0, .inl 0, [])]),
  (10, [(.aload_n 0, 11, 0, 0, 0, 0, .inl 0, []),
    (.invokevirtual 255, 14, 169, 1, 2, 10, .inl 0, []),
    (.aload_n 0, 15, 0, 0, 0, 0, .inl 0, []),
    (.getfield 26, 18, 10, 2, 2, 1, .inl 0, []),
    (.aload_n 0, 19, 0, 0, 0, 0, .inl 0, []),
    (.getfield 33, 22, 10, 3, 2, 0, .inl 0, []),
    (.iload_n 1, 23, 1, 0, 0, 0, .inl 0, []),
    (.invokevirtual 264, 26, 14, 3, 0, 1, .inl 0, []),
    (.ireturn, 27, 0, 0, 0, 0, .inl 0, [])])]
def gT_X11_copied : gs_T := ([], gB_X11_copied, [])
set_option maxRecDepth 100000 in
def gB_X11_from : List (Nat × List gs_N) := [(0, [(.aload_n 0, 1, 0, 0, 0, 0, .inl 0, []),
    (.iload_n 1, 2, 1, 0, 0, 0, .inl 0, []),
    (.invokevirtual 267, 5, 160, 2, 0, 10, .inl 0, []),
    (.ifCond .eq 11, 8, 16, 0, 0, 0, .inl 0, []),
    (.aload_n 0, 9, 0, 0, 0, 0, .inl 0, []),
    (.iload_n 2, 10, 2, 0, 0, 0, .inl 0, []),
    (.invokevirtual 267, 13, 160, 2, 0, 10, .inl 0, []),
    (.ifCond .ne 5, 16, 18, 0, 0, 0, .inl 0, [])]),
  (16, [(.iconst (-1), 17, 0, 0, 0, 0, .inl (-1), []),
    (.ireturn, 18, 0, 0, 0, 0, .inl 0, [])]),
  (18, [(.aload_n 0, 19, 0, 0, 0, 0, .inl 0, []),
    (.getfield 33, 22, 10, 3, 2, 0, .inl 0, []),
    (.iload_n 1, 23, 1, 0, 0, 0, .inl 0, []),
    (.iload_n 2, 24, 2, 0, 0, 0, .inl 0, []),
    (.invokevirtual 270, 27, 104, 3, 0, 7, .inl 0, []),
    (.ifCond .eq 7, 30, 34, 0, 0, 0, .inl 0, []),
    (.iconst 1, 31, 0, 0, 0, 0, .inl 1, []),
    (.goto 4, 34, 35, 0, 0, 0, .inl 0, [])]),
  (34, [(.iconst 0, 35, 0, 0, 0, 0, .inl 0, [])]),
  (35, [(.ireturn, 36, 0, 0, 0, 0, .inl 0, [])])]
def gT_X11_from : gs_T := ([], gB_X11_from, [])
set_option maxRecDepth 100000 in
def gB_X11_worth : List (Nat × List gs_N) := [(0, [(.aload_n 0, 1, 0, 0, 0, 0, .inl 0, []),
    (.iload_n 1, 2, 1, 0, 0, 0, .inl 0, []),
    (.invokevirtual 104, 5, 157, 2, 0, 10, .inl 0, []),
    (.ifCond .eq 10, 8, 15, 0, 0, 0, .inl 0, []),
    (.iload_n 2, 9, 2, 0, 0, 0, .inl 0, []),
    (.invokestatic 146, 12, 164, 1, 0, 1, .inl 0, []),
    (.ifCond .ne 7, 15, 19, 0, 0, 0, .inl 0, [])]),
  (15, [(.ldc2_w 178, 18, 0, 0, 0, 0, .inr (.inl (-1)), []),
    (.lreturn, 19, 0, 0, 0, 0, .inl 0, [])]),
  (19, [(.aload_n 0, 20, 0, 0, 0, 0, .inl 0, []),
    (.invokevirtual 255, 23, 169, 1, 2, 10, .inl 0, []),
    (.aload_n 0, 24, 0, 0, 0, 0, .inl 0, []),
    (.getfield 26, 27, 10, 2, 2, 1, .inl 0, []),
    (.getfield 258, 30, 1, 0, 2, 1, .inl 0, []),
    (.iload_n 1, 31, 1, 0, 0, 0, .inl 0, []),
    (.iaload, 32, 0, 0, 0, 0, .inl 0, []),
    (.iconst (-1), 33, 0, 0, 0, 0, .inl (-1), []),
    (.if_icmp .ne 7, 36, 40, 0, 0, 0, .inl 0, []),
    (.ldc2_w 178, 39, 0, 0, 0, 0, .inr (.inl (-1)), []),
    (.lreturn, 40, 0, 0, 0, 0, .inl 0, [])]),
  (40, [(.aload_n 0, 41, 0, 0, 0, 0, .inl 0, []),
    (.getfield 26, 44, 10, 2, 2, 1, .inl 0, []),
    (.aload_n 0, 45, 0, 0, 0, 0, .inl 0, []),
    (.getfield 33, 48, 10, 3, 2, 0, .inl 0, []),
    (.aload_n 0, 49, 0, 0, 0, 0, .inl 0, []),
    (.getfield 26, 52, 10, 2, 2, 1, .inl 0, []),
    (.getfield 258, 55, 1, 0, 2, 1, .inl 0, []),
    (.iload_n 1, 56, 1, 0, 0, 0, .inl 0, []),
    (.iaload, 57, 0, 0, 0, 0, .inl 0, []),
    (.iload_n 2, 58, 2, 0, 0, 0, .inl 0, []),
    (.invokevirtual 274, 61, 15, 4, 1, 1, .inl 0, []),
    (.lreturn, 62, 0, 0, 0, 0, .inl 0, [])])]
def gT_X11_worth : gs_T := ([], gB_X11_worth, [])
set_option maxRecDepth 100000 in
def gB_X11_said : List (Nat × List gs_N) := [(0, [(.aload_n 0, 1, 0, 0, 0, 0, .inl 0, []),
    (.iload_n 1, 2, 1, 0, 0, 0, .inl 0, []),
    (.invokevirtual 189, 5, 158, 2, 0, 10, .inl 0, []),
    (.ifCond .ne 5, 8, 10, 0, 0, 0, .inl 0, []),
    (.iconst (-1), 9, 0, 0, 0, 0, .inl (-1), []),
    (.ireturn, 10, 0, 0, 0, 0, .inl 0, [])]),
  (10, [(.aload_n 0, 11, 0, 0, 0, 0, .inl 0, []),
    (.invokevirtual 238, 14, 168, 1, 2, 10, .inl 0, []),
    (.aload_n 0, 15, 0, 0, 0, 0, .inl 0, []),
    (.getfield 19, 18, 10, 1, 2, 1, .inl 0, []),
    (.iload_n 1, 19, 1, 0, 0, 0, .inl 0, []),
    (.invokevirtual 278, 22, 37, 2, 0, 4, .inl 0, []),
    (.istore_n 2, 23, 2, 0, 0, 0, .inl 0, []),
    (.iload_n 2, 24, 2, 0, 0, 0, .inl 0, []),
    (.ifCond .ne 5, 27, 29, 0, 0, 0, .inl 0, []),
    (.iconst 0, 28, 0, 0, 0, 0, .inl 0, []),
    (.ireturn, 29, 0, 0, 0, 0, .inl 0, [])]),
  (29, [(.aload_n 0, 30, 0, 0, 0, 0, .inl 0, []),
    (.getfield 19, 33, 10, 1, 2, 1, .inl 0, []),
    (.iload_n 1, 34, 1, 0, 0, 0, .inl 0, []),
    (.invokevirtual 281, 37, 36, 2, 0, 4, .inl 0, []),
    (.istore_n 3, 38, 3, 0, 0, 0, .inl 0, []),
    (.iload_n 3, 39, 3, 0, 0, 0, .inl 0, []),
    (.iconst (-1), 40, 0, 0, 0, 0, .inl (-1), []),
    (.if_icmp .ne 5, 43, 45, 0, 0, 0, .inl 0, []),
    (.iconst 1, 44, 0, 0, 0, 0, .inl 1, []),
    (.ireturn, 45, 0, 0, 0, 0, .inl 0, [])]),
  (45, [(.iload_n 2, 46, 2, 0, 0, 0, .inl 0, []),
    (.iconst 1, 47, 0, 0, 0, 0, .inl 1, []),
    (.if_icmp .le 5, 50, 52, 0, 0, 0, .inl 0, []),
    (.iconst 2, 51, 0, 0, 0, 0, .inl 2, []),
    (.ireturn, 52, 0, 0, 0, 0, .inl 0, [])]),
  (52, [(.aload_n 0, 53, 0, 0, 0, 0, .inl 0, []),
    (.getfield 19, 56, 10, 1, 2, 1, .inl 0, []),
    (.iload_n 3, 57, 3, 0, 0, 0, .inl 0, []),
    (.invokevirtual 284, 60, 38, 2, 0, 4, .inl 0, []),
    (.iconst 1, 61, 0, 0, 0, 0, .inl 1, []),
    (.if_icmp .le 7, 64, 68, 0, 0, 0, .inl 0, []),
    (.iconst 3, 65, 0, 0, 0, 0, .inl 3, []),
    (.goto 4, 68, 69, 0, 0, 0, .inl 0, [])]),
  (68, [(.iconst 4, 69, 0, 0, 0, 0, .inl 4, [])]),
  (69, [(.ireturn, 70, 0, 0, 0, 0, .inl 0, [])])]
def gT_X11_said : gs_T := ([], gB_X11_said, [])
set_option maxRecDepth 100000 in
def gB_X11_untold : List (Nat × List gs_N) := [(0, [(.aload_n 0, 1, 0, 0, 0, 0, .inl 0, []),
    (.iload_n 1, 2, 1, 0, 0, 0, .inl 0, []),
    (.invokevirtual 189, 5, 158, 2, 0, 10, .inl 0, []),
    (.ifCond .eq 10, 8, 15, 0, 0, 0, .inl 0, []),
    (.iload_n 2, 9, 2, 0, 0, 0, .inl 0, []),
    (.invokestatic 146, 12, 164, 1, 0, 1, .inl 0, []),
    (.ifCond .ne 7, 15, 19, 0, 0, 0, .inl 0, [])]),
  (15, [(.ldc2_w 178, 18, 0, 0, 0, 0, .inr (.inl (-1)), []),
    (.lreturn, 19, 0, 0, 0, 0, .inl 0, [])]),
  (19, [(.aload_n 0, 20, 0, 0, 0, 0, .inl 0, []),
    (.getfield 33, 23, 10, 3, 2, 0, .inl 0, []),
    (.getfield 193, 26, 7, 7, 2, 1, .inl 0, []),
    (.iload_n 1, 27, 1, 0, 0, 0, .inl 0, []),
    (.aaload, 28, 0, 0, 0, 0, .inl 0, []),
    (.astore_n 3, 29, 3, 0, 0, 0, .inl 0, []),
    (.iconst 0, 30, 0, 0, 0, 0, .inl 0, []),
    (.aload_n 3, 31, 3, 0, 0, 0, .inl 0, []),
    (.getfield 215, 34, 0, 9, 0, 0, .inl 0, []),
    (.invokestatic 287, 37, 312, 2, 0, 1, .inl 0, []),
    (.istore 4, 39, 4, 0, 0, 0, .inl 0, []),
    (.sipush 1999, 42, 0, 0, 0, 0, .inl 1999, []),
    (.aload_n 3, 43, 3, 0, 0, 0, .inl 0, []),
    (.getfield 218, 46, 0, 10, 0, 0, .inl 0, []),
    (.invokestatic 293, 49, 314, 2, 0, 1, .inl 0, []),
    (.istore 5, 51, 5, 0, 0, 0, .inl 0, []),
    (.aload_n 3, 52, 3, 0, 0, 0, .inl 0, []),
    (.getfield 225, 55, 0, 0, 0, 0, .inl 0, []),
    (.invokestatic 296, 58, 84, 1, 0, 1, .inl 0, []),
    (.invokestatic 162, 61, 308, 1, 0, 1, .inl 0, []),
    (.istore 6, 63, 6, 0, 0, 0, .inl 0, []),
    (.lconst 0, 64, 0, 0, 0, 0, .inr (.inl 0), []),
    (.lstore 7, 66, 7, 0, 0, 0, .inl 0, []),
    (.lconst 0, 67, 0, 0, 0, 0, .inr (.inl 0), []),
    (.lstore 9, 69, 9, 0, 0, 0, .inl 0, []),
    (.iload 4, 71, 4, 0, 0, 0, .inl 0, []),
    (.istore 11, 73, 11, 0, 0, 0, .inl 0, [])]),
  (73, [(.iload 11, 75, 11, 0, 0, 0, .inl 0, []),
    (.iload 5, 77, 5, 0, 0, 0, .inl 0, []),
    (.if_icmp .gt 41, 80, 118, 0, 0, 0, .inl 0, []),
    (.lload 7, 82, 7, 0, 0, 0, .inl 0, []),
    (.bipush 120, 84, 0, 0, 0, 0, .inl 120, []),
    (.aload_n 0, 85, 0, 0, 0, 0, .inl 0, []),
    (.getfield 33, 88, 10, 3, 2, 0, .inl 0, []),
    (.getfield 299, 91, 7, 5, 2, 1, .inl 0, []),
    (.iload 11, 93, 11, 0, 0, 0, .inl 0, []),
    (.invokevirtual 303, 96, 115, 2, 0, 9, .inl 0, []),
    (.iload 6, 98, 6, 0, 0, 0, .inl 0, []),
    (.imul, 99, 0, 0, 0, 0, .inl 0, []),
    (.isub, 100, 0, 0, 0, 0, .inl 0, []),
    (.i2l, 101, 0, 0, 0, 0, .inl 0, []),
    (.ladd, 102, 0, 0, 0, 0, .inl 0, []),
    (.lstore 7, 104, 7, 0, 0, 0, .inl 0, []),
    (.lload 9, 106, 9, 0, 0, 0, .inl 0, []),
    (.ldc2_w 308, 109, 0, 0, 0, 0, .inr (.inl 120), []),
    (.ladd, 110, 0, 0, 0, 0, .inl 0, []),
    (.lstore 9, 112, 9, 0, 0, 0, .inl 0, []),
    (.iinc 11 1, 115, 11, 0, 0, 0, .inl 1, []),
    (.goto (-42), 118, 73, 0, 0, 0, .inl 0, [])]),
  (118, [(.lload 7, 120, 7, 0, 0, 0, .inl 0, []),
    (.lload 9, 122, 9, 0, 0, 0, .inl 0, []),
    (.iload_n 2, 123, 2, 0, 0, 0, .inl 0, []),
    (.invokestatic 185, 126, 85, 3, 1, 1, .inl 0, []),
    (.lreturn, 127, 0, 0, 0, 0, .inl 0, [])])]
def gT_X11_untold : gs_T := ([], gB_X11_untold, [(73, [0, 2, 5, 6, 7, 9, 11])])
set_option maxRecDepth 100000 in
def gB_X11_next : List (Nat × List gs_N) := [(0, [(.iload_n 1, 1, 1, 0, 0, 0, .inl 0, []),
    (.ifCond .lt 17, 4, 18, 0, 0, 0, .inl 0, []),
    (.iload_n 1, 5, 1, 0, 0, 0, .inl 0, []),
    (.sipush 3000, 8, 0, 0, 0, 0, .inl 3000, []),
    (.if_icmp .ge 10, 11, 18, 0, 0, 0, .inl 0, []),
    (.iload_n 2, 12, 2, 0, 0, 0, .inl 0, []),
    (.invokestatic 146, 15, 164, 1, 0, 1, .inl 0, []),
    (.ifCond .ne 5, 18, 20, 0, 0, 0, .inl 0, [])]),
  (18, [(.iconst (-1), 19, 0, 0, 0, 0, .inl (-1), []),
    (.ireturn, 20, 0, 0, 0, 0, .inl 0, [])]),
  (20, [(.iconst (-1), 21, 0, 0, 0, 0, .inl (-1), []),
    (.istore_n 3, 22, 3, 0, 0, 0, .inl 0, []),
    (.iconst 0, 23, 0, 0, 0, 0, .inl 0, []),
    (.istore 4, 25, 4, 0, 0, 0, .inl 0, []),
    (.iconst 0, 26, 0, 0, 0, 0, .inl 0, []),
    (.istore 5, 28, 5, 0, 0, 0, .inl 0, [])]),
  (28, [(.iload 5, 30, 5, 0, 0, 0, .inl 0, []),
    (.aload_n 0, 31, 0, 0, 0, 0, .inl 0, []),
    (.getfield 33, 34, 10, 3, 2, 0, .inl 0, []),
    (.getfield 310, 37, 7, 9, 0, 0, .inl 0, []),
    (.if_icmp .ge 46, 40, 83, 0, 0, 0, .inl 0, []),
    (.aload_n 0, 41, 0, 0, 0, 0, .inl 0, []),
    (.getfield 33, 44, 10, 3, 2, 0, .inl 0, []),
    (.getfield 193, 47, 7, 7, 2, 1, .inl 0, []),
    (.iload 5, 49, 5, 0, 0, 0, .inl 0, []),
    (.aaload, 50, 0, 0, 0, 0, .inl 0, []),
    (.iload_n 1, 51, 1, 0, 0, 0, .inl 0, []),
    (.aload_n 0, 52, 0, 0, 0, 0, .inl 0, []),
    (.getfield 33, 55, 10, 3, 2, 0, .inl 0, []),
    (.getfield 313, 58, 7, 13, 0, 0, .inl 0, []),
    (.invokevirtual 316, 61, 7, 3, 0, 0, .inl 0, []),
    (.istore 6, 63, 6, 0, 0, 0, .inl 0, []),
    (.iload 6, 65, 6, 0, 0, 0, .inl 0, []),
    (.iload 4, 67, 4, 0, 0, 0, .inl 0, []),
    (.if_icmp .le 10, 70, 77, 0, 0, 0, .inl 0, []),
    (.iload 6, 72, 6, 0, 0, 0, .inl 0, []),
    (.istore 4, 74, 4, 0, 0, 0, .inl 0, []),
    (.iload 5, 76, 5, 0, 0, 0, .inl 0, []),
    (.istore_n 3, 77, 3, 0, 0, 0, .inl 0, [])]),
  (77, [(.iinc 5 1, 80, 5, 0, 0, 0, .inl 1, []),
    (.goto (-52), 83, 28, 0, 0, 0, .inl 0, [])]),
  (83, [(.iload_n 3, 84, 3, 0, 0, 0, .inl 0, []),
    (.iconst (-1), 85, 0, 0, 0, 0, .inl (-1), []),
    (.if_icmp .ne 7, 88, 92, 0, 0, 0, .inl 0, []),
    (.iconst (-1), 89, 0, 0, 0, 0, .inl (-1), []),
    (.goto 13, 92, 102, 0, 0, 0, .inl 0, [])]),
  (92, [(.iload_n 2, 93, 2, 0, 0, 0, .inl 0, []),
    (.ifCond .ne 7, 96, 100, 0, 0, 0, .inl 0, []),
    (.iload_n 3, 97, 3, 0, 0, 0, .inl 0, []),
    (.goto 5, 100, 102, 0, 0, 0, .inl 0, [])]),
  (100, [(.iload 4, 102, 4, 0, 0, 0, .inl 0, [])]),
  (102, [(.ireturn, 103, 0, 0, 0, 0, .inl 0, [])])]
def gT_X11_next : gs_T := ([], gB_X11_next, [(28, [0, 1, 2, 3, 4, 5])])
set_option maxRecDepth 100000 in
def gB_X11_events : List (Nat × List gs_N) := [(0, [(.aload_n 0, 1, 0, 0, 0, 0, .inl 0, []),
    (.invokevirtual 255, 4, 169, 1, 2, 10, .inl 0, []),
    (.aload_n 0, 5, 0, 0, 0, 0, .inl 0, []),
    (.getfield 26, 8, 10, 2, 2, 1, .inl 0, []),
    (.invokevirtual 319, 11, 13, 1, 0, 1, .inl 0, []),
    (.ireturn, 12, 0, 0, 0, 0, .inl 0, [])])]
def gT_X11_events : gs_T := ([], gB_X11_events, [])
set_option maxRecDepth 100000 in
def gB_X11_share : List (Nat × List gs_N) := [(0, [(.iload_n 1, 1, 1, 0, 0, 0, .inl 0, []),
    (.invokestatic 322, 4, 162, 1, 0, 1, .inl 0, []),
    (.ifCond .eq 17, 7, 21, 0, 0, 0, .inl 0, []),
    (.aload_n 0, 8, 0, 0, 0, 0, .inl 0, []),
    (.getfield 33, 11, 10, 3, 2, 0, .inl 0, []),
    (.getfield 299, 14, 7, 5, 2, 1, .inl 0, []),
    (.iload_n 1, 15, 1, 0, 0, 0, .inl 0, []),
    (.invokevirtual 303, 18, 115, 2, 0, 9, .inl 0, []),
    (.goto 4, 21, 22, 0, 0, 0, .inl 0, [])]),
  (21, [(.iconst (-1), 22, 0, 0, 0, 0, .inl (-1), [])]),
  (22, [(.ireturn, 23, 0, 0, 0, 0, .inl 0, [])])]
def gT_X11_share : gs_T := ([], gB_X11_share, [])
set_option maxRecDepth 100000 in
def gB_X11_many : List (Nat × List gs_N) := [(0, [(.iload_n 1, 1, 1, 0, 0, 0, .inl 0, []),
    (.iconst (-1), 2, 0, 0, 0, 0, .inl (-1), []),
    (.if_icmp .eq 11, 5, 13, 0, 0, 0, .inl 0, []),
    (.aload_n 0, 6, 0, 0, 0, 0, .inl 0, []),
    (.iload_n 1, 7, 1, 0, 0, 0, .inl 0, []),
    (.invokevirtual 175, 10, 159, 2, 0, 10, .inl 0, []),
    (.ifCond .eq 30, 13, 40, 0, 0, 0, .inl 0, [])]),
  (13, [(.iload_n 2, 14, 2, 0, 0, 0, .inl 0, []),
    (.invokestatic 322, 17, 162, 1, 0, 1, .inl 0, []),
    (.ifCond .eq 23, 20, 40, 0, 0, 0, .inl 0, []),
    (.iload_n 3, 21, 3, 0, 0, 0, .inl 0, []),
    (.invokestatic 322, 24, 162, 1, 0, 1, .inl 0, []),
    (.ifCond .eq 16, 27, 40, 0, 0, 0, .inl 0, []),
    (.iload_n 2, 28, 2, 0, 0, 0, .inl 0, []),
    (.iload_n 3, 29, 3, 0, 0, 0, .inl 0, []),
    (.if_icmp .gt 11, 32, 40, 0, 0, 0, .inl 0, []),
    (.iload 4, 34, 4, 0, 0, 0, .inl 0, []),
    (.invokestatic 146, 37, 164, 1, 0, 1, .inl 0, []),
    (.ifCond .ne 7, 40, 44, 0, 0, 0, .inl 0, [])]),
  (40, [(.ldc2_w 178, 43, 0, 0, 0, 0, .inr (.inl (-1)), []),
    (.lreturn, 44, 0, 0, 0, 0, .inl 0, [])]),
  (44, [(.aload_n 0, 45, 0, 0, 0, 0, .inl 0, []),
    (.invokevirtual 255, 48, 169, 1, 2, 10, .inl 0, []),
    (.lconst 0, 49, 0, 0, 0, 0, .inr (.inl 0), []),
    (.lstore 5, 51, 5, 0, 0, 0, .inl 0, []),
    (.iload_n 2, 52, 2, 0, 0, 0, .inl 0, []),
    (.istore 7, 54, 7, 0, 0, 0, .inl 0, [])]),
  (54, [(.iload 7, 56, 7, 0, 0, 0, .inl 0, []),
    (.iload_n 3, 57, 3, 0, 0, 0, .inl 0, []),
    (.if_icmp .gt 27, 60, 84, 0, 0, 0, .inl 0, []),
    (.lload 5, 62, 5, 0, 0, 0, .inl 0, []),
    (.aload_n 0, 63, 0, 0, 0, 0, .inl 0, []),
    (.getfield 33, 66, 10, 3, 2, 0, .inl 0, []),
    (.getfield 299, 69, 7, 5, 2, 1, .inl 0, []),
    (.iload 7, 71, 7, 0, 0, 0, .inl 0, []),
    (.invokevirtual 303, 74, 115, 2, 0, 9, .inl 0, []),
    (.i2l, 75, 0, 0, 0, 0, .inl 0, []),
    (.ladd, 76, 0, 0, 0, 0, .inl 0, []),
    (.lstore 5, 78, 5, 0, 0, 0, .inl 0, []),
    (.iinc 7 1, 81, 7, 0, 0, 0, .inl 1, []),
    (.goto (-27), 84, 54, 0, 0, 0, .inl 0, [])]),
  (84, [(.iconst 0, 85, 0, 0, 0, 0, .inl 0, []),
    (.istore 7, 87, 7, 0, 0, 0, .inl 0, []),
    (.iconst 0, 88, 0, 0, 0, 0, .inl 0, []),
    (.istore 8, 90, 8, 0, 0, 0, .inl 0, [])]),
  (90, [(.iload 8, 92, 8, 0, 0, 0, .inl 0, []),
    (.aload_n 0, 93, 0, 0, 0, 0, .inl 0, []),
    (.getfield 33, 96, 10, 3, 2, 0, .inl 0, []),
    (.getfield 67, 99, 7, 8, 0, 0, .inl 0, []),
    (.if_icmp .ge 46, 102, 145, 0, 0, 0, .inl 0, []),
    (.aload_n 0, 103, 0, 0, 0, 0, .inl 0, []),
    (.getfield 26, 106, 10, 2, 2, 1, .inl 0, []),
    (.getfield 258, 109, 1, 0, 2, 1, .inl 0, []),
    (.iload 8, 111, 8, 0, 0, 0, .inl 0, []),
    (.iaload, 112, 0, 0, 0, 0, .inl 0, []),
    (.iload 8, 114, 8, 0, 0, 0, .inl 0, []),
    (.if_icmp .ne 25, 117, 139, 0, 0, 0, .inl 0, []),
    (.aload_n 0, 118, 0, 0, 0, 0, .inl 0, []),
    (.getfield 26, 121, 10, 2, 2, 1, .inl 0, []),
    (.aload_n 0, 122, 0, 0, 0, 0, .inl 0, []),
    (.getfield 33, 125, 10, 3, 2, 0, .inl 0, []),
    (.iload 8, 127, 8, 0, 0, 0, .inl 0, []),
    (.iload_n 1, 128, 1, 0, 0, 0, .inl 0, []),
    (.iload_n 2, 129, 2, 0, 0, 0, .inl 0, []),
    (.iload_n 3, 130, 3, 0, 0, 0, .inl 0, []),
    (.invokevirtual 325, 133, 16, 6, 0, 1, .inl 0, []),
    (.ifCond .eq 6, 136, 139, 0, 0, 0, .inl 0, []),
    (.iinc 7 1, 139, 7, 0, 0, 0, .inl 1, [])]),
  (139, [(.iinc 8 1, 142, 8, 0, 0, 0, .inl 1, []),
    (.goto (-52), 145, 90, 0, 0, 0, .inl 0, [])]),
  (145, [(.iload 7, 147, 7, 0, 0, 0, .inl 0, []),
    (.i2l, 148, 0, 0, 0, 0, .inl 0, []),
    (.ldc2_w 329, 151, 0, 0, 0, 0, .inr (.inl 10), []),
    (.lmul, 152, 0, 0, 0, 0, .inl 0, []),
    (.iload_n 3, 153, 3, 0, 0, 0, .inl 0, []),
    (.iload_n 2, 154, 2, 0, 0, 0, .inl 0, []),
    (.isub, 155, 0, 0, 0, 0, .inl 0, []),
    (.iconst 1, 156, 0, 0, 0, 0, .inl 1, []),
    (.iadd, 157, 0, 0, 0, 0, .inl 0, []),
    (.i2l, 158, 0, 0, 0, 0, .inl 0, []),
    (.lmul, 159, 0, 0, 0, 0, .inl 0, []),
    (.lload 5, 161, 5, 0, 0, 0, .inl 0, []),
    (.iload 4, 163, 4, 0, 0, 0, .inl 0, []),
    (.invokestatic 185, 166, 85, 3, 1, 1, .inl 0, []),
    (.lreturn, 167, 0, 0, 0, 0, .inl 0, [])])]
def gT_X11_many : gs_T := ([], gB_X11_many, [(54, [0, 1, 2, 3, 4, 5, 7]), (90, [0, 1, 2, 3, 4, 5, 7, 8])])
set_option maxRecDepth 100000 in
def gB_X11_chance : List (Nat × List gs_N) := [(0, [(.iload_n 1, 1, 1, 0, 0, 0, .inl 0, []),
    (.invokestatic 331, 4, 163, 1, 0, 1, .inl 0, []),
    (.ifCond .eq 10, 7, 14, 0, 0, 0, .inl 0, []),
    (.iload_n 2, 8, 2, 0, 0, 0, .inl 0, []),
    (.invokestatic 146, 11, 164, 1, 0, 1, .inl 0, []),
    (.ifCond .ne 5, 14, 16, 0, 0, 0, .inl 0, [])]),
  (14, [(.iconst (-1), 15, 0, 0, 0, 0, .inl (-1), []),
    (.ireturn, 16, 0, 0, 0, 0, .inl 0, [])]),
  (16, [(.iconst 0, 17, 0, 0, 0, 0, .inl 0, []),
    (.istore_n 3, 18, 3, 0, 0, 0, .inl 0, []),
    (.iconst 0, 19, 0, 0, 0, 0, .inl 0, []),
    (.istore 4, 21, 4, 0, 0, 0, .inl 0, [])]),
  (21, [(.iload 4, 23, 4, 0, 0, 0, .inl 0, []),
    (.aload_n 0, 24, 0, 0, 0, 0, .inl 0, []),
    (.getfield 33, 27, 10, 3, 2, 0, .inl 0, []),
    (.getfield 310, 30, 7, 9, 0, 0, .inl 0, []),
    (.if_icmp .ge 26, 33, 56, 0, 0, 0, .inl 0, []),
    (.iload_n 3, 34, 3, 0, 0, 0, .inl 0, []),
    (.aload_n 0, 35, 0, 0, 0, 0, .inl 0, []),
    (.getfield 33, 38, 10, 3, 2, 0, .inl 0, []),
    (.getfield 193, 41, 7, 7, 2, 1, .inl 0, []),
    (.iload 4, 43, 4, 0, 0, 0, .inl 0, []),
    (.aaload, 44, 0, 0, 0, 0, .inl 0, []),
    (.iload_n 1, 45, 1, 0, 0, 0, .inl 0, []),
    (.invokevirtual 334, 48, 8, 2, 0, 0, .inl 0, []),
    (.iadd, 49, 0, 0, 0, 0, .inl 0, []),
    (.istore_n 3, 50, 3, 0, 0, 0, .inl 0, []),
    (.iinc 4 1, 53, 4, 0, 0, 0, .inl 1, []),
    (.goto (-32), 56, 21, 0, 0, 0, .inl 0, [])]),
  (56, [(.iload_n 3, 57, 3, 0, 0, 0, .inl 0, []),
    (.i2l, 58, 0, 0, 0, 0, .inl 0, []),
    (.ldc2_w 337, 61, 0, 0, 0, 0, .inr (.inl 7200), []),
    (.iload_n 2, 62, 2, 0, 0, 0, .inl 0, []),
    (.invokestatic 185, 65, 85, 3, 1, 1, .inl 0, []),
    (.l2i, 66, 0, 0, 0, 0, .inl 0, []),
    (.ireturn, 67, 0, 0, 0, 0, .inl 0, [])])]
def gT_X11_chance : gs_T := ([], gB_X11_chance, [(21, [0, 1, 2, 3, 4])])
set_option maxRecDepth 100000 in
def gB_X11_sun : List (Nat × List gs_N) := [(0, [(.iload_n 1, 1, 1, 0, 0, 0, .inl 0, []),
    (.invokestatic 129, 4, 161, 1, 0, 1, .inl 0, []),
    (.ifCond .eq 10, 7, 14, 0, 0, 0, .inl 0, []),
    (.iload_n 1, 8, 1, 0, 0, 0, .inl 0, []),
    (.invokestatic 339, 11, 82, 1, 0, 1, .inl 0, []),
    (.goto 4, 14, 15, 0, 0, 0, .inl 0, [])]),
  (14, [(.iconst (-1), 15, 0, 0, 0, 0, .inl (-1), [])]),
  (15, [(.ireturn, 16, 0, 0, 0, 0, .inl 0, [])])]
def gT_X11_sun : gs_T := ([], gB_X11_sun, [])
set_option maxRecDepth 100000 in
def gB_X11_hidden : List (Nat × List gs_N) := [(0, [(.aload_n 0, 1, 0, 0, 0, 0, .inl 0, []),
    (.iload_n 1, 2, 1, 0, 0, 0, .inl 0, []),
    (.invokevirtual 104, 5, 157, 2, 0, 10, .inl 0, []),
    (.ifCond .ne 5, 8, 10, 0, 0, 0, .inl 0, []),
    (.iconst (-1), 9, 0, 0, 0, 0, .inl (-1), []),
    (.ireturn, 10, 0, 0, 0, 0, .inl 0, [])]),
  (10, [(.aload_n 0, 11, 0, 0, 0, 0, .inl 0, []),
    (.getfield 33, 14, 10, 3, 2, 0, .inl 0, []),
    (.getfield 120, 17, 7, 6, 2, 1, .inl 0, []),
    (.iload_n 1, 18, 1, 0, 0, 0, .inl 0, []),
    (.aaload, 19, 0, 0, 0, 0, .inl 0, []),
    (.astore_n 2, 20, 2, 0, 0, 0, .inl 0, []),
    (.aload_n 0, 21, 0, 0, 0, 0, .inl 0, []),
    (.getfield 33, 24, 10, 3, 2, 0, .inl 0, []),
    (.aload_n 2, 25, 2, 0, 0, 0, .inl 0, []),
    (.invokevirtual 135, 28, 90, 2, 0, 7, .inl 0, []),
    (.istore_n 3, 29, 3, 0, 0, 0, .inl 0, []),
    (.aload_n 2, 30, 2, 0, 0, 0, .inl 0, []),
    (.getfield 342, 33, 2, 5, 0, 0, .inl 0, []),
    (.iconst (-1), 34, 0, 0, 0, 0, .inl (-1), []),
    (.if_icmp .eq 8, 37, 42, 0, 0, 0, .inl 0, []),
    (.iload_n 3, 38, 3, 0, 0, 0, .inl 0, []),
    (.iconst (-1), 39, 0, 0, 0, 0, .inl (-1), []),
    (.if_icmp .ne 5, 42, 44, 0, 0, 0, .inl 0, [])]),
  (42, [(.iconst (-1), 43, 0, 0, 0, 0, .inl (-1), []),
    (.ireturn, 44, 0, 0, 0, 0, .inl 0, [])]),
  (44, [(.iload_n 3, 45, 3, 0, 0, 0, .inl 0, []),
    (.aload_n 0, 46, 0, 0, 0, 0, .inl 0, []),
    (.getfield 33, 49, 10, 3, 2, 0, .inl 0, []),
    (.aload_n 2, 50, 2, 0, 0, 0, .inl 0, []),
    (.iconst 0, 51, 0, 0, 0, 0, .inl 0, []),
    (.invokevirtual 149, 54, 93, 3, 0, 7, .inl 0, []),
    (.invokestatic 345, 57, 83, 2, 0, 1, .inl 0, []),
    (.ifCond .eq 7, 60, 64, 0, 0, 0, .inl 0, []),
    (.iconst 1, 61, 0, 0, 0, 0, .inl 1, []),
    (.goto 4, 64, 65, 0, 0, 0, .inl 0, [])]),
  (64, [(.iconst 0, 65, 0, 0, 0, 0, .inl 0, [])]),
  (65, [(.ireturn, 66, 0, 0, 0, 0, .inl 0, [])])]
def gT_X11_hidden : gs_T := ([], gB_X11_hidden, [])
set_option maxRecDepth 100000 in
def gB_X11_seen : List (Nat × List gs_N) := [(0, [(.iload_n 1, 1, 1, 0, 0, 0, .inl 0, []),
    (.ifCond .lt 9, 4, 10, 0, 0, 0, .inl 0, []),
    (.iload_n 1, 5, 1, 0, 0, 0, .inl 0, []),
    (.bipush 120, 7, 0, 0, 0, 0, .inl 120, []),
    (.if_icmp .lt 7, 10, 14, 0, 0, 0, .inl 0, [])]),
  (10, [(.iconst (-1), 11, 0, 0, 0, 0, .inl (-1), []),
    (.goto 7, 14, 18, 0, 0, 0, .inl 0, [])]),
  (14, [(.iload_n 1, 15, 1, 0, 0, 0, .inl 0, []),
    (.invokestatic 296, 18, 84, 1, 0, 1, .inl 0, [])]),
  (18, [(.ireturn, 19, 0, 0, 0, 0, .inl 0, [])])]
def gT_X11_seen : gs_T := ([], gB_X11_seen, [])
set_option maxRecDepth 100000 in
def gB_X11_doubt : List (Nat × List gs_N) := [(0, [(.aload_n 0, 1, 0, 0, 0, 0, .inl 0, []),
    (.iload_n 1, 2, 1, 0, 0, 0, .inl 0, []),
    (.invokevirtual 104, 5, 157, 2, 0, 10, .inl 0, []),
    (.ifCond .eq 12, 8, 17, 0, 0, 0, .inl 0, []),
    (.aload_n 0, 9, 0, 0, 0, 0, .inl 0, []),
    (.iload_n 1, 10, 1, 0, 0, 0, .inl 0, []),
    (.invokevirtual 348, 13, 165, 2, 0, 10, .inl 0, []),
    (.iload_n 2, 14, 2, 0, 0, 0, .inl 0, []),
    (.if_icmp .ne 5, 17, 19, 0, 0, 0, .inl 0, [])]),
  (17, [(.iconst 0, 18, 0, 0, 0, 0, .inl 0, []),
    (.ireturn, 19, 1, 0, 0, 0, .inl 0, [])]),
  (19, [(.aload_n 0, 20, 0, 0, 0, 0, .inl 0, []),
    (.dup, 21, 0, 0, 0, 0, .inl 0, []),
    (.getfield 73, 24, 10, 6, 0, 0, .inl 0, []),
    (.iconst 1, 25, 0, 0, 0, 0, .inl 1, []),
    (.iload_n 1, 26, 1, 0, 0, 0, .inl 0, []),
    (.ishl, 27, 0, 0, 0, 0, .inl 0, []),
    (.ixor, 28, 0, 0, 0, 0, .inl 0, []),
    (.putfield 73, 31, 10, 6, 0, 0, .inl 0, []),
    (.aload_n 0, 32, 0, 0, 0, 0, .inl 0, []),
    (.invokevirtual 76, 35, 166, 1, 2, 10, .inl 0, []),
    (.iconst 1, 36, 0, 0, 0, 0, .inl 1, []),
    (.ireturn, 37, 1, 0, 0, 0, .inl 0, [])])]
def gT_X11_doubt : gs_T := ([], gB_X11_doubt, [])
set_option maxRecDepth 100000 in
def gB_X11_doubted : List (Nat × List gs_N) := [(0, [(.aload_n 0, 1, 0, 0, 0, 0, .inl 0, []),
    (.getfield 73, 4, 10, 6, 0, 0, .inl 0, []),
    (.ireturn, 5, 0, 0, 0, 0, .inl 0, [])])]
def gT_X11_doubted : gs_T := ([], gB_X11_doubted, [])
set_option maxRecDepth 100000 in
def gB_X11_draws : List (Nat × List gs_N) := [(0, [(.iload_n 1, 1, 1, 0, 0, 0, .inl 0, []),
    (.ifCond .lt 22, 4, 23, 0, 0, 0, .inl 0, []),
    (.iload_n 2, 5, 2, 0, 0, 0, .inl 0, []),
    (.iconst 1, 6, 0, 0, 0, 0, .inl 1, []),
    (.if_icmp .lt 17, 9, 23, 0, 0, 0, .inl 0, []),
    (.iload_n 2, 10, 2, 0, 0, 0, .inl 0, []),
    (.sipush 500, 13, 0, 0, 0, 0, .inl 500, []),
    (.if_icmp .gt 10, 16, 23, 0, 0, 0, .inl 0, []),
    (.iload_n 3, 17, 3, 0, 0, 0, .inl 0, []),
    (.invokestatic 331, 20, 163, 1, 0, 1, .inl 0, []),
    (.ifCond .ne 5, 23, 25, 0, 0, 0, .inl 0, [])]),
  (23, [(.iconst (-1), 24, 0, 0, 0, 0, .inl (-1), []),
    (.ireturn, 25, 0, 0, 0, 0, .inl 0, [])]),
  (25, [(.aload_n 0, 26, 0, 0, 0, 0, .inl 0, []),
    (.iload_n 1, 27, 1, 0, 0, 0, .inl 0, []),
    (.putfield 351, 30, 10, 9, 0, 0, .inl 0, []),
    (.iconst 0, 31, 0, 0, 0, 0, .inl 0, []),
    (.istore 4, 33, 4, 0, 0, 0, .inl 0, []),
    (.iconst 0, 34, 0, 0, 0, 0, .inl 0, []),
    (.istore 5, 36, 5, 0, 0, 0, .inl 0, [])]),
  (36, [(.iload 5, 38, 5, 0, 0, 0, .inl 0, []),
    (.iload_n 2, 39, 2, 0, 0, 0, .inl 0, []),
    (.if_icmp .ge 45, 42, 84, 0, 0, 0, .inl 0, []),
    (.aload_n 0, 43, 0, 0, 0, 0, .inl 0, []),
    (.invokevirtual 354, 46, 170, 1, 0, 10, .inl 0, []),
    (.bipush 120, 48, 0, 0, 0, 0, .inl 120, []),
    (.irem, 49, 0, 0, 0, 0, .inl 0, []),
    (.istore 6, 51, 6, 0, 0, 0, .inl 0, []),
    (.aload_n 0, 52, 0, 0, 0, 0, .inl 0, []),
    (.invokevirtual 354, 55, 170, 1, 0, 10, .inl 0, []),
    (.bipush 60, 57, 0, 0, 0, 0, .inl 60, []),
    (.irem, 58, 0, 0, 0, 0, .inl 0, []),
    (.istore 7, 60, 7, 0, 0, 0, .inl 0, []),
    (.aload_n 0, 61, 0, 0, 0, 0, .inl 0, []),
    (.getfield 33, 64, 10, 3, 2, 0, .inl 0, []),
    (.iload 6, 66, 6, 0, 0, 0, .inl 0, []),
    (.iload 7, 68, 7, 0, 0, 0, .inl 0, []),
    (.iload_n 3, 69, 3, 0, 0, 0, .inl 0, []),
    (.invokevirtual 357, 72, 102, 4, 0, 7, .inl 0, []),
    (.ifCond .eq 6, 75, 78, 0, 0, 0, .inl 0, []),
    (.iinc 4 1, 78, 4, 0, 0, 0, .inl 1, [])]),
  (78, [(.iinc 5 1, 81, 5, 0, 0, 0, .inl 1, []),
    (.goto (-45), 84, 36, 0, 0, 0, .inl 0, [])]),
  (84, [(.iload 4, 86, 4, 0, 0, 0, .inl 0, []),
    (.ireturn, 87, 0, 0, 0, 0, .inl 0, [])])]
def gT_X11_draws : gs_T := ([], gB_X11_draws, [(36, [0, 2, 3, 4, 5])])
set_option maxRecDepth 100000 in
def gB_X11_luck : List (Nat × List gs_N) := [(0, [(.iload_n 1, 1, 1, 0, 0, 0, .inl 0, []),
    (.ifCond .lt 14, 4, 15, 0, 0, 0, .inl 0, []),
    (.iload_n 2, 5, 2, 0, 0, 0, .inl 0, []),
    (.iconst 1, 6, 0, 0, 0, 0, .inl 1, []),
    (.if_icmp .lt 9, 9, 15, 0, 0, 0, .inl 0, []),
    (.iload_n 2, 10, 2, 0, 0, 0, .inl 0, []),
    (.bipush 20, 12, 0, 0, 0, 0, .inl 20, []),
    (.if_icmp .le 5, 15, 17, 0, 0, 0, .inl 0, [])]),
  (15, [(.iconst (-1), 16, 0, 0, 0, 0, .inl (-1), []),
    (.ireturn, 17, 0, 0, 0, 0, .inl 0, [])]),
  (17, [(.aload_n 0, 18, 0, 0, 0, 0, .inl 0, []),
    (.invokevirtual 238, 21, 168, 1, 2, 10, .inl 0, []),
    (.aload_n 0, 22, 0, 0, 0, 0, .inl 0, []),
    (.iload_n 1, 23, 1, 0, 0, 0, .inl 0, []),
    (.putfield 351, 26, 10, 9, 0, 0, .inl 0, []),
    (.iconst 0, 27, 0, 0, 0, 0, .inl 0, []),
    (.istore_n 3, 28, 3, 0, 0, 0, .inl 0, []),
    (.iconst 0, 29, 0, 0, 0, 0, .inl 0, []),
    (.istore 4, 31, 4, 0, 0, 0, .inl 0, [])]),
  (31, [(.iload 4, 33, 4, 0, 0, 0, .inl 0, []),
    (.iload_n 2, 34, 2, 0, 0, 0, .inl 0, []),
    (.if_icmp .ge 33, 37, 67, 0, 0, 0, .inl 0, []),
    (.aload_n 0, 38, 0, 0, 0, 0, .inl 0, []),
    (.invokevirtual 361, 41, 171, 1, 2, 10, .inl 0, []),
    (.aload_n 0, 42, 0, 0, 0, 0, .inl 0, []),
    (.getfield 19, 45, 10, 1, 2, 1, .inl 0, []),
    (.invokevirtual 364, 48, 39, 1, 0, 4, .inl 0, []),
    (.aload_n 0, 49, 0, 0, 0, 0, .inl 0, []),
    (.getfield 19, 52, 10, 1, 2, 1, .inl 0, []),
    (.getfield 241, 55, 4, 13, 0, 0, .inl 0, []),
    (.if_icmp .lt 6, 58, 61, 0, 0, 0, .inl 0, []),
    (.iinc 3 1, 61, 3, 0, 0, 0, .inl 1, [])]),
  (61, [(.iinc 4 1, 64, 4, 0, 0, 0, .inl 1, []),
    (.goto (-33), 67, 31, 0, 0, 0, .inl 0, [])]),
  (67, [(.iload_n 3, 68, 3, 0, 0, 0, .inl 0, []),
    (.ireturn, 69, 0, 0, 0, 0, .inl 0, [])])]
def gT_X11_luck : gs_T := ([], gB_X11_luck, [(31, [0, 2, 3, 4])])
set_option maxRecDepth 100000 in
def gB_X11_count : List (Nat × List gs_N) := [(0, [(.iload_n 1, 1, 1, 0, 0, 0, .inl 0, []),
    (.tableswitch 186 0 12 #[67, 78, 89, 97, 105, 116, 127, 138, 146, 154, 162, 170, 181], 68, 187, 67, 0, 0, .inl 0, [(0, 68), (1, 79), (2, 90), (3, 98), (4, 106), (5, 117), (6, 128), (7, 139), (8, 147), (9, 155), (10, 163), (11, 171), (12, 182)])]),
  (68, [(.aload_n 0, 69, 0, 0, 0, 0, .inl 0, []),
    (.getfield 33, 72, 10, 3, 2, 0, .inl 0, []),
    (.getfield 85, 75, 7, 0, 2, 1, .inl 0, []),
    (.getfield 180, 78, 3, 3, 0, 0, .inl 0, []),
    (.ireturn, 79, 0, 0, 0, 0, .inl 0, [])]),
  (79, [(.aload_n 0, 80, 0, 0, 0, 0, .inl 0, []),
    (.getfield 33, 83, 10, 3, 2, 0, .inl 0, []),
    (.getfield 95, 86, 7, 1, 2, 1, .inl 0, []),
    (.getfield 180, 89, 3, 3, 0, 0, .inl 0, []),
    (.ireturn, 90, 0, 0, 0, 0, .inl 0, [])]),
  (90, [(.aload_n 0, 91, 0, 0, 0, 0, .inl 0, []),
    (.getfield 33, 94, 10, 3, 2, 0, .inl 0, []),
    (.getfield 67, 97, 7, 8, 0, 0, .inl 0, []),
    (.ireturn, 98, 0, 0, 0, 0, .inl 0, [])]),
  (98, [(.aload_n 0, 99, 0, 0, 0, 0, .inl 0, []),
    (.getfield 33, 102, 10, 3, 2, 0, .inl 0, []),
    (.getfield 310, 105, 7, 9, 0, 0, .inl 0, []),
    (.ireturn, 106, 0, 0, 0, 0, .inl 0, [])]),
  (106, [(.aload_n 0, 107, 0, 0, 0, 0, .inl 0, []),
    (.getfield 33, 110, 10, 3, 2, 0, .inl 0, []),
    (.getfield 98, 113, 7, 3, 2, 1, .inl 0, []),
    (.getfield 180, 116, 3, 3, 0, 0, .inl 0, []),
    (.ireturn, 117, 0, 0, 0, 0, .inl 0, [])]),
  (117, [(.aload_n 0, 118, 0, 0, 0, 0, .inl 0, []),
    (.getfield 33, 121, 10, 3, 2, 0, .inl 0, []),
    (.getfield 299, 124, 7, 5, 2, 1, .inl 0, []),
    (.getfield 367, 127, 9, 3, 0, 0, .inl 0, []),
    (.ireturn, 128, 0, 0, 0, 0, .inl 0, [])]),
  (128, [(.aload_n 0, 129, 0, 0, 0, 0, .inl 0, []),
    (.getfield 33, 132, 10, 3, 2, 0, .inl 0, []),
    (.getfield 368, 135, 7, 4, 2, 1, .inl 0, []),
    (.getfield 372, 138, 6, 3, 0, 0, .inl 0, []),
    (.ireturn, 139, 0, 0, 0, 0, .inl 0, [])]),
  (139, [(.aload_n 0, 140, 0, 0, 0, 0, .inl 0, []),
    (.getfield 33, 143, 10, 3, 2, 0, .inl 0, []),
    (.getfield 375, 146, 7, 10, 0, 0, .inl 0, []),
    (.ireturn, 147, 0, 0, 0, 0, .inl 0, [])]),
  (147, [(.aload_n 0, 148, 0, 0, 0, 0, .inl 0, []),
    (.getfield 33, 151, 10, 3, 2, 0, .inl 0, []),
    (.getfield 378, 154, 7, 11, 0, 0, .inl 0, []),
    (.ireturn, 155, 0, 0, 0, 0, .inl 0, [])]),
  (155, [(.aload_n 0, 156, 0, 0, 0, 0, .inl 0, []),
    (.getfield 33, 159, 10, 3, 2, 0, .inl 0, []),
    (.getfield 381, 162, 7, 12, 0, 0, .inl 0, []),
    (.ireturn, 163, 0, 0, 0, 0, .inl 0, [])]),
  (163, [(.aload_n 0, 164, 0, 0, 0, 0, .inl 0, []),
    (.getfield 33, 167, 10, 3, 2, 0, .inl 0, []),
    (.getfield 313, 170, 7, 13, 0, 0, .inl 0, []),
    (.ireturn, 171, 0, 0, 0, 0, .inl 0, [])]),
  (171, [(.aload_n 0, 172, 0, 0, 0, 0, .inl 0, []),
    (.getfield 33, 175, 10, 3, 2, 0, .inl 0, []),
    (.getfield 101, 178, 7, 2, 2, 1, .inl 0, []),
    (.getfield 180, 181, 3, 3, 0, 0, .inl 0, []),
    (.ireturn, 182, 0, 0, 0, 0, .inl 0, [])]),
  (182, [(.aload_n 0, 183, 0, 0, 0, 0, .inl 0, []),
    (.getfield 70, 186, 10, 5, 0, 0, .inl 0, []),
    (.ireturn, 187, 0, 0, 0, 0, .inl 0, [])]),
  (187, [(.iconst (-1), 188, 0, 0, 0, 0, .inl (-1), []),
    (.ireturn, 189, 0, 0, 0, 0, .inl 0, [])])]
def gT_X11_count : gs_T := ([], gB_X11_count, [])
set_option maxRecDepth 100000 in
def gB_X11_isGuest : List (Nat × List gs_N) := [(0, [(.iload_n 1, 1, 1, 0, 0, 0, .inl 0, []),
    (.ifCond .lt 18, 4, 19, 0, 0, 0, .inl 0, []),
    (.iload_n 1, 5, 1, 0, 0, 0, .inl 0, []),
    (.aload_n 0, 6, 0, 0, 0, 0, .inl 0, []),
    (.getfield 33, 9, 10, 3, 2, 0, .inl 0, []),
    (.getfield 67, 12, 7, 8, 0, 0, .inl 0, []),
    (.if_icmp .ge 7, 15, 19, 0, 0, 0, .inl 0, []),
    (.iconst 1, 16, 0, 0, 0, 0, .inl 1, []),
    (.goto 4, 19, 20, 0, 0, 0, .inl 0, [])]),
  (19, [(.iconst 0, 20, 0, 0, 0, 0, .inl 0, [])]),
  (20, [(.ireturn, 21, 1, 0, 0, 0, .inl 0, [])])]
def gT_X11_isGuest : gs_T := ([], gB_X11_isGuest, [])
set_option maxRecDepth 100000 in
def gB_X11_isCloud : List (Nat × List gs_N) := [(0, [(.iload_n 1, 1, 1, 0, 0, 0, .inl 0, []),
    (.ifCond .lt 18, 4, 19, 0, 0, 0, .inl 0, []),
    (.iload_n 1, 5, 1, 0, 0, 0, .inl 0, []),
    (.aload_n 0, 6, 0, 0, 0, 0, .inl 0, []),
    (.getfield 33, 9, 10, 3, 2, 0, .inl 0, []),
    (.getfield 310, 12, 7, 9, 0, 0, .inl 0, []),
    (.if_icmp .ge 7, 15, 19, 0, 0, 0, .inl 0, []),
    (.iconst 1, 16, 0, 0, 0, 0, .inl 1, []),
    (.goto 4, 19, 20, 0, 0, 0, .inl 0, [])]),
  (19, [(.iconst 0, 20, 0, 0, 0, 0, .inl 0, [])]),
  (20, [(.ireturn, 21, 1, 0, 0, 0, .inl 0, [])])]
def gT_X11_isCloud : gs_T := ([], gB_X11_isCloud, [])
set_option maxRecDepth 100000 in
def gB_X11_isSort : List (Nat × List gs_N) := [(0, [(.iload_n 1, 1, 1, 0, 0, 0, .inl 0, []),
    (.ifCond .lt 21, 4, 22, 0, 0, 0, .inl 0, []),
    (.iload_n 1, 5, 1, 0, 0, 0, .inl 0, []),
    (.aload_n 0, 6, 0, 0, 0, 0, .inl 0, []),
    (.getfield 33, 9, 10, 3, 2, 0, .inl 0, []),
    (.getfield 98, 12, 7, 3, 2, 1, .inl 0, []),
    (.getfield 180, 15, 3, 3, 0, 0, .inl 0, []),
    (.if_icmp .ge 7, 18, 22, 0, 0, 0, .inl 0, []),
    (.iconst 1, 19, 0, 0, 0, 0, .inl 1, []),
    (.goto 4, 22, 23, 0, 0, 0, .inl 0, [])]),
  (22, [(.iconst 0, 23, 0, 0, 0, 0, .inl 0, [])]),
  (23, [(.ireturn, 24, 1, 0, 0, 0, .inl 0, [])])]
def gT_X11_isSort : gs_T := ([], gB_X11_isSort, [])
set_option maxRecDepth 100000 in
def gB_X11_isBook : List (Nat × List gs_N) := [(0, [(.iload_n 1, 1, 1, 0, 0, 0, .inl 0, []),
    (.ifCond .lt 21, 4, 22, 0, 0, 0, .inl 0, []),
    (.iload_n 1, 5, 1, 0, 0, 0, .inl 0, []),
    (.aload_n 0, 6, 0, 0, 0, 0, .inl 0, []),
    (.getfield 33, 9, 10, 3, 2, 0, .inl 0, []),
    (.getfield 101, 12, 7, 2, 2, 1, .inl 0, []),
    (.getfield 180, 15, 3, 3, 0, 0, .inl 0, []),
    (.if_icmp .ge 7, 18, 22, 0, 0, 0, .inl 0, []),
    (.iconst 1, 19, 0, 0, 0, 0, .inl 1, []),
    (.goto 4, 22, 23, 0, 0, 0, .inl 0, [])]),
  (22, [(.iconst 0, 23, 0, 0, 0, 0, .inl 0, [])]),
  (23, [(.ireturn, 24, 1, 0, 0, 0, .inl 0, [])])]
def gT_X11_isBook : gs_T := ([], gB_X11_isBook, [])
set_option maxRecDepth 100000 in
def gB_X11_isDay : List (Nat × List gs_N) := [(0, [(.iload_n 0, 1, 0, 0, 0, 0, .inl 0, []),
    (.ifCond .lt 14, 4, 15, 0, 0, 0, .inl 0, []),
    (.iload_n 0, 5, 0, 0, 0, 0, .inl 0, []),
    (.ldc_w 384, 8, 0, 0, 0, 0, .inl 708000, []),
    (.if_icmp .ge 7, 11, 15, 0, 0, 0, .inl 0, []),
    (.iconst 1, 12, 0, 0, 0, 0, .inl 1, []),
    (.goto 4, 15, 16, 0, 0, 0, .inl 0, [])]),
  (15, [(.iconst 0, 16, 0, 0, 0, 0, .inl 0, [])]),
  (16, [(.ireturn, 17, 1, 0, 0, 0, .inl 0, [])])]
def gT_X11_isDay : gs_T := ([], gB_X11_isDay, [])
set_option maxRecDepth 100000 in
def gB_X11_isYear : List (Nat × List gs_N) := [(0, [(.iload_n 0, 1, 0, 0, 0, 0, .inl 0, []),
    (.ifCond .lt 14, 4, 15, 0, 0, 0, .inl 0, []),
    (.iload_n 0, 5, 0, 0, 0, 0, .inl 0, []),
    (.sipush 2000, 8, 0, 0, 0, 0, .inl 2000, []),
    (.if_icmp .ge 7, 11, 15, 0, 0, 0, .inl 0, []),
    (.iconst 1, 12, 0, 0, 0, 0, .inl 1, []),
    (.goto 4, 15, 16, 0, 0, 0, .inl 0, [])]),
  (15, [(.iconst 0, 16, 0, 0, 0, 0, .inl 0, [])]),
  (16, [(.ireturn, 17, 1, 0, 0, 0, .inl 0, [])])]
def gT_X11_isYear : gs_T := ([], gB_X11_isYear, [])
set_option maxRecDepth 100000 in
def gB_X11_isWidth : List (Nat × List gs_N) := [(0, [(.iload_n 0, 1, 0, 0, 0, 0, .inl 0, []),
    (.ifCond .lt 13, 4, 14, 0, 0, 0, .inl 0, []),
    (.iload_n 0, 5, 0, 0, 0, 0, .inl 0, []),
    (.bipush 60, 7, 0, 0, 0, 0, .inl 60, []),
    (.if_icmp .gt 7, 10, 14, 0, 0, 0, .inl 0, []),
    (.iconst 1, 11, 0, 0, 0, 0, .inl 1, []),
    (.goto 4, 14, 15, 0, 0, 0, .inl 0, [])]),
  (14, [(.iconst 0, 15, 0, 0, 0, 0, .inl 0, [])]),
  (15, [(.ireturn, 16, 1, 0, 0, 0, .inl 0, [])])]
def gT_X11_isWidth : gs_T := ([], gB_X11_isWidth, [])
set_option maxRecDepth 100000 in
def gB_X11_isPart : List (Nat × List gs_N) := [(0, [(.iload_n 0, 1, 0, 0, 0, 0, .inl 0, []),
    (.ifCond .eq 8, 4, 9, 0, 0, 0, .inl 0, []),
    (.iload_n 0, 5, 0, 0, 0, 0, .inl 0, []),
    (.iconst 1, 6, 0, 0, 0, 0, .inl 1, []),
    (.if_icmp .ne 7, 9, 13, 0, 0, 0, .inl 0, [])]),
  (9, [(.iconst 1, 10, 0, 0, 0, 0, .inl 1, []),
    (.goto 4, 13, 14, 0, 0, 0, .inl 0, [])]),
  (13, [(.iconst 0, 14, 0, 0, 0, 0, .inl 0, [])]),
  (14, [(.ireturn, 15, 1, 0, 0, 0, .inl 0, [])])]
def gT_X11_isPart : gs_T := ([], gB_X11_isPart, [])
set_option maxRecDepth 100000 in
def gB_X11_isDoubted : List (Nat × List gs_N) := [(0, [(.aload_n 0, 1, 0, 0, 0, 0, .inl 0, []),
    (.getfield 73, 4, 10, 6, 0, 0, .inl 0, []),
    (.iload_n 1, 5, 1, 0, 0, 0, .inl 0, []),
    (.ishr, 6, 0, 0, 0, 0, .inl 0, []),
    (.iconst 1, 7, 0, 0, 0, 0, .inl 1, []),
    (.iand, 8, 0, 0, 0, 0, .inl 0, []),
    (.iconst 1, 9, 0, 0, 0, 0, .inl 1, []),
    (.if_icmp .ne 7, 12, 16, 0, 0, 0, .inl 0, []),
    (.iconst 1, 13, 0, 0, 0, 0, .inl 1, []),
    (.goto 4, 16, 17, 0, 0, 0, .inl 0, [])]),
  (16, [(.iconst 0, 17, 0, 0, 0, 0, .inl 0, [])]),
  (17, [(.ireturn, 18, 1, 0, 0, 0, .inl 0, [])])]
def gT_X11_isDoubted : gs_T := ([], gB_X11_isDoubted, [])
set_option maxRecDepth 100000 in
def gB_X11_forgetReckoned : List (Nat × List gs_N) := [(0, [(.aload_n 0, 1, 0, 0, 0, 0, .inl 0, []),
    (.iconst 1, 2, 0, 0, 0, 0, .inl 1, []),
    (.putfield 40, 5, 10, 7, 3, 0, .inl 0, []),
    (.aload_n 0, 6, 0, 0, 0, 0, .inl 0, []),
    (.iconst 1, 7, 0, 0, 0, 0, .inl 1, []),
    (.putfield 44, 10, 10, 8, 3, 0, .inl 0, []),
    (.return_, 11, 0, 0, 0, 0, .inl 0, [])])]
def gT_X11_forgetReckoned : gs_T := ([], gB_X11_forgetReckoned, [])
set_option maxRecDepth 100000 in
def gB_X11_trusted : List (Nat × List gs_N) := [(0, [(.iconst 1, 1, 0, 0, 0, 0, .inl 1, []),
    (.aload_n 0, 2, 0, 0, 0, 0, .inl 0, []),
    (.getfield 70, 5, 10, 5, 0, 0, .inl 0, []),
    (.ishl, 6, 0, 0, 0, 0, .inl 0, []),
    (.iconst 1, 7, 0, 0, 0, 0, .inl 1, []),
    (.isub, 8, 0, 0, 0, 0, .inl 0, []),
    (.aload_n 0, 9, 0, 0, 0, 0, .inl 0, []),
    (.getfield 73, 12, 10, 6, 0, 0, .inl 0, []),
    (.iconst (-1), 13, 0, 0, 0, 0, .inl (-1), []),
    (.ixor, 14, 0, 0, 0, 0, .inl 0, []),
    (.iand, 15, 0, 0, 0, 0, .inl 0, []),
    (.ireturn, 16, 0, 0, 0, 0, .inl 0, [])])]
def gT_X11_trusted : gs_T := ([], gB_X11_trusted, [])
set_option maxRecDepth 100000 in
def gB_X11_reckonPairs : List (Nat × List gs_N) := [(0, [(.aload_n 0, 1, 0, 0, 0, 0, .inl 0, []),
    (.getfield 40, 4, 10, 7, 3, 0, .inl 0, []),
    (.ifCond .eq 23, 7, 27, 0, 0, 0, .inl 0, []),
    (.aload_n 0, 8, 0, 0, 0, 0, .inl 0, []),
    (.getfield 19, 11, 10, 1, 2, 1, .inl 0, []),
    (.aload_n 0, 12, 0, 0, 0, 0, .inl 0, []),
    (.getfield 33, 15, 10, 3, 2, 0, .inl 0, []),
    (.aload_n 0, 16, 0, 0, 0, 0, .inl 0, []),
    (.invokevirtual 385, 19, 167, 1, 0, 10, .inl 0, []),
    (.invokevirtual 388, 22, 29, 3, 2, 4, .inl 0, []),
    (.aload_n 0, 23, 0, 0, 0, 0, .inl 0, []),
    (.iconst 0, 24, 0, 0, 0, 0, .inl 0, []),
    (.putfield 40, 27, 10, 7, 3, 0, .inl 0, [])]),
  (27, [(.return_, 28, 0, 0, 0, 0, .inl 0, [])])]
def gT_X11_reckonPairs : gs_T := ([], gB_X11_reckonPairs, [])
set_option maxRecDepth 100000 in
def gB_X11_reckonEvents : List (Nat × List gs_N) := [(0, [(.aload_n 0, 1, 0, 0, 0, 0, .inl 0, []),
    (.getfield 44, 4, 10, 8, 3, 0, .inl 0, []),
    (.ifCond .eq 23, 7, 27, 0, 0, 0, .inl 0, []),
    (.aload_n 0, 8, 0, 0, 0, 0, .inl 0, []),
    (.getfield 26, 11, 10, 2, 2, 1, .inl 0, []),
    (.aload_n 0, 12, 0, 0, 0, 0, .inl 0, []),
    (.getfield 33, 15, 10, 3, 2, 0, .inl 0, []),
    (.aload_n 0, 16, 0, 0, 0, 0, .inl 0, []),
    (.invokevirtual 385, 19, 167, 1, 0, 10, .inl 0, []),
    (.invokevirtual 392, 22, 11, 3, 2, 1, .inl 0, []),
    (.aload_n 0, 23, 0, 0, 0, 0, .inl 0, []),
    (.iconst 0, 24, 0, 0, 0, 0, .inl 0, []),
    (.putfield 44, 27, 10, 8, 3, 0, .inl 0, [])]),
  (27, [(.return_, 28, 0, 0, 0, 0, .inl 0, [])])]
def gT_X11_reckonEvents : gs_T := ([], gB_X11_reckonEvents, [])
set_option maxRecDepth 100000 in
def gB_X11_roll : List (Nat × List gs_N) := [(0, [(.aload_n 0, 1, 0, 0, 0, 0, .inl 0, []),
    (.aload_n 0, 2, 0, 0, 0, 0, .inl 0, []),
    (.getfield 351, 5, 10, 9, 0, 0, .inl 0, []),
    (.ldc_w 393, 8, 0, 0, 0, 0, .inl 1103515245, []),
    (.imul, 9, 0, 0, 0, 0, .inl 0, []),
    (.sipush 12345, 12, 0, 0, 0, 0, .inl 12345, []),
    (.iadd, 13, 0, 0, 0, 0, .inl 0, []),
    (.ldc_w 394, 16, 0, 0, 0, 0, .inl 2147483647, []),
    (.iand, 17, 0, 0, 0, 0, .inl 0, []),
    (.putfield 351, 20, 10, 9, 0, 0, .inl 0, []),
    (.aload_n 0, 21, 0, 0, 0, 0, .inl 0, []),
    (.getfield 351, 24, 10, 9, 0, 0, .inl 0, []),
    (.ldc_w 395, 27, 0, 0, 0, 0, .inl 65536, []),
    (.idiv, 28, 0, 0, 0, 0, .inl 0, []),
    (.ireturn, 29, 0, 0, 0, 0, .inl 0, [])])]
def gT_X11_roll : gs_T := ([], gB_X11_roll, [])
set_option maxRecDepth 100000 in
def gB_X11_drawPlaces : List (Nat × List gs_N) := [(0, [(.aload_n 0, 1, 0, 0, 0, 0, .inl 0, []),
    (.invokevirtual 385, 4, 167, 1, 0, 10, .inl 0, []),
    (.istore_n 1, 5, 1, 0, 0, 0, .inl 0, []),
    (.iconst 0, 6, 0, 0, 0, 0, .inl 0, []),
    (.istore_n 2, 7, 2, 0, 0, 0, .inl 0, [])]),
  (7, [(.iload_n 2, 8, 2, 0, 0, 0, .inl 0, []),
    (.aload_n 0, 9, 0, 0, 0, 0, .inl 0, []),
    (.getfield 33, 12, 10, 3, 2, 0, .inl 0, []),
    (.getfield 67, 15, 7, 8, 0, 0, .inl 0, []),
    (.if_icmp .ge 85, 18, 100, 0, 0, 0, .inl 0, []),
    (.aload_n 0, 19, 0, 0, 0, 0, .inl 0, []),
    (.getfield 33, 22, 10, 3, 2, 0, .inl 0, []),
    (.getfield 120, 25, 7, 6, 2, 1, .inl 0, []),
    (.iload_n 2, 26, 2, 0, 0, 0, .inl 0, []),
    (.aaload, 27, 0, 0, 0, 0, .inl 0, []),
    (.astore_n 3, 28, 3, 0, 0, 0, .inl 0, []),
    (.iconst 0, 29, 0, 0, 0, 0, .inl 0, []),
    (.istore 4, 31, 4, 0, 0, 0, .inl 0, []),
    (.iconst 0, 32, 0, 0, 0, 0, .inl 0, []),
    (.istore 5, 34, 5, 0, 0, 0, .inl 0, []),
    (.aload_n 3, 35, 3, 0, 0, 0, .inl 0, []),
    (.getfield 342, 38, 2, 5, 0, 0, .inl 0, []),
    (.iconst (-1), 39, 0, 0, 0, 0, .inl (-1), []),
    (.if_icmp .eq 21, 42, 60, 0, 0, 0, .inl 0, []),
    (.aload_n 0, 43, 0, 0, 0, 0, .inl 0, []),
    (.invokevirtual 354, 46, 170, 1, 0, 10, .inl 0, []),
    (.bipush 120, 48, 0, 0, 0, 0, .inl 120, []),
    (.irem, 49, 0, 0, 0, 0, .inl 0, []),
    (.istore 4, 51, 4, 0, 0, 0, .inl 0, []),
    (.aload_n 0, 52, 0, 0, 0, 0, .inl 0, []),
    (.invokevirtual 354, 55, 170, 1, 0, 10, .inl 0, []),
    (.bipush 60, 57, 0, 0, 0, 0, .inl 60, []),
    (.irem, 58, 0, 0, 0, 0, .inl 0, []),
    (.istore 5, 60, 5, 0, 0, 0, .inl 0, [])]),
  (60, [(.aload_n 0, 61, 0, 0, 0, 0, .inl 0, []),
    (.getfield 19, 64, 10, 1, 2, 1, .inl 0, []),
    (.getfield 396, 67, 4, 12, 2, 1, .inl 0, []),
    (.iload_n 2, 68, 2, 0, 0, 0, .inl 0, []),
    (.iload_n 1, 69, 1, 0, 0, 0, .inl 0, []),
    (.iload_n 2, 70, 2, 0, 0, 0, .inl 0, []),
    (.ishr, 71, 0, 0, 0, 0, .inl 0, []),
    (.iconst 1, 72, 0, 0, 0, 0, .inl 1, []),
    (.iand, 73, 0, 0, 0, 0, .inl 0, []),
    (.iconst 1, 74, 0, 0, 0, 0, .inl 1, []),
    (.if_icmp .ne 18, 77, 92, 0, 0, 0, .inl 0, []),
    (.aload_n 0, 78, 0, 0, 0, 0, .inl 0, []),
    (.getfield 33, 81, 10, 3, 2, 0, .inl 0, []),
    (.aload_n 3, 82, 3, 0, 0, 0, .inl 0, []),
    (.iload 4, 84, 4, 0, 0, 0, .inl 0, []),
    (.iload 5, 86, 5, 0, 0, 0, .inl 0, []),
    (.invokevirtual 399, 89, 101, 4, 0, 7, .inl 0, []),
    (.goto 4, 92, 93, 0, 0, 0, .inl 0, [])]),
  (92, [(.iconst 0, 93, 0, 0, 0, 0, .inl 0, [])]),
  (93, [(.iastore, 94, 0, 0, 0, 0, .inl 0, []),
    (.iinc 2 1, 97, 2, 0, 0, 0, .inl 1, []),
    (.goto (-90), 100, 7, 0, 0, 0, .inl 0, [])]),
  (100, [(.return_, 101, 0, 0, 0, 0, .inl 0, [])])]
def gT_X11_drawPlaces : gs_T := ([], gB_X11_drawPlaces, [(7, [0, 1, 2])])
set_option maxRecDepth 100000 in
def gB_X12_init : List (Nat × List gs_N) := [(0, [(.aload_n 0, 1, 0, 0, 0, 0, .inl 0, []),
    (.invokespecial 1, 4, 9000, 1, 2, 92, .inl 0, []),
    (.aload_n 0, 5, 0, 0, 0, 0, .inl 0, []),
    (.sipush 800, 8, 0, 0, 0, 0, .inl 800, []),
    (.newarray .int, 10, 13, 0, 0, 0, .inl 0, []),
    (.putfield 7, 13, 11, 0, 2, 1, .inl 0, []),
    (.aload_n 0, 14, 0, 0, 0, 0, .inl 0, []),
    (.sipush 171, 17, 0, 0, 0, 0, .inl 171, []),
    (.newarray .int, 19, 13, 0, 0, 0, .inl 0, []),
    (.dup, 20, 0, 0, 0, 0, .inl 0, []),
    (.iconst 0, 21, 0, 0, 0, 0, .inl 0, []),
    (.bipush 114, 23, 0, 0, 0, 0, .inl 114, []),
    (.iastore, 24, 0, 0, 0, 0, .inl 0, []),
    (.dup, 25, 0, 0, 0, 0, .inl 0, []),
    (.iconst 1, 26, 0, 0, 0, 0, .inl 1, []),
    (.bipush 101, 28, 0, 0, 0, 0, .inl 101, []),
    (.iastore, 29, 0, 0, 0, 0, .inl 0, []),
    (.dup, 30, 0, 0, 0, 0, .inl 0, []),
    (.iconst 2, 31, 0, 0, 0, 0, .inl 2, []),
    (.bipush 105, 33, 0, 0, 0, 0, .inl 105, []),
    (.iastore, 34, 0, 0, 0, 0, .inl 0, []),
    (.dup, 35, 0, 0, 0, 0, .inl 0, []),
    (.iconst 3, 36, 0, 0, 0, 0, .inl 3, []),
    (.bipush 103, 38, 0, 0, 0, 0, .inl 103, []),
    (.iastore, 39, 0, 0, 0, 0, .inl 0, []),
    (.dup, 40, 0, 0, 0, 0, .inl 0, []),
    (.iconst 4, 41, 0, 0, 0, 0, .inl 4, []),
    (.bipush 110, 43, 0, 0, 0, 0, .inl 110, []),
    (.iastore, 44, 0, 0, 0, 0, .inl 0, []),
    (.dup, 45, 0, 0, 0, 0, .inl 0, []),
    (.iconst 5, 46, 0, 0, 0, 0, .inl 5, []),
    (.bipush 32, 48, 0, 0, 0, 0, .inl 32, []),
    (.iastore, 49, 0, 0, 0, 0, .inl 0, []),
    (.dup, 50, 0, 0, 0, 0, .inl 0, []),
    (.bipush 6, 52, 0, 0, 0, 0, .inl 6, []),
    (.bipush 103, 54, 0, 0, 0, 0, .inl 103, []),
    (.iastore, 55, 0, 0, 0, 0, .inl 0, []),
    (.dup, 56, 0, 0, 0, 0, .inl 0, []),
    (.bipush 7, 58, 0, 0, 0, 0, .inl 7, []),
    (.bipush 97, 60, 0, 0, 0, 0, .inl 97, []),
    (.iastore, 61, 0, 0, 0, 0, .inl 0, []),
    (.dup, 62, 0, 0, 0, 0, .inl 0, []),
    (.bipush 8, 64, 0, 0, 0, 0, .inl 8, []),
    (.bipush 116, 66, 0, 0, 0, 0, .inl 116, []),
    (.iastore, 67, 0, 0, 0, 0, .inl 0, []),
    (.dup, 68, 0, 0, 0, 0, .inl 0, []),
    (.bipush 9, 70, 0, 0, 0, 0, .inl 9, []),
    (.bipush 101, 72, 0, 0, 0, 0, .inl 101, []),
    (.iastore, 73, 0, 0, 0, 0, .inl 0, []),
    (.dup, 74, 0, 0, 0, 0, .inl 0, []),
    (.bipush 10, 76, 0, 0, 0, 0, .inl 10, []),
    (.bipush 32, 78, 0, 0, 0, 0, .inl 32, []),
    (.iastore, 79, 0, 0, 0, 0, .inl 0, []),
    (.dup, 80, 0, 0, 0, 0, .inl 0, []),
    (.bipush 11, 82, 0, 0, 0, 0, .inl 11, []),
    (.bipush 98, 84, 0, 0, 0, 0, .inl 98, []),
    (.iastore, 85, 0, 0, 0, 0, .inl 0, []),
    (.dup, 86, 0, 0, 0, 0, .inl 0, []),
    (.bipush 12, 88, 0, 0, 0, 0, .inl 12, []),
    (.bipush 111, 90, 0, 0, 0, 0, .inl 111, []),
    (.iastore, 91, 0, 0, 0, 0, .inl 0, []),
    (.dup, 92, 0, 0, 0, 0, .inl 0, []),
    (.bipush 13, 94, 0, 0, 0, 0, .inl 13, []),
    (.bipush 111, 96, 0, 0, 0, 0, .inl 111, []),
    (.iastore, 97, 0, 0, 0, 0, .inl 0, []),
    (.dup, 98, 0, 0, 0, 0, .inl 0, []),
    (.bipush 14, 100, 0, 0, 0, 0, .inl 14, []),
    (.bipush 107, 102, 0, 0, 0, 0, .inl 107, []),
    (.iastore, 103, 0, 0, 0, 0, .inl 0, []),
    (.dup, 104, 0, 0, 0, 0, .inl 0, []),
    (.bipush 15, 106, 0, 0, 0, 0, .inl 15, []),
    (.bipush 32, 108, 0, 0, 0, 0, .inl 32, []),
    (.iastore, 109, 0, 0, 0, 0, .inl 0, []),
    (.dup, 110, 0, 0, 0, 0, .inl 0, []),
    (.bipush 16, 112, 0, 0, 0, 0, .inl 16, []),
    (.bipush 103, 114, 0, 0, 0, 0, .inl 103, []),
    (.iastore, 115, 0, 0, 0, 0, .inl 0, []),
    (.dup, 116, 0, 0, 0, 0, .inl 0, []),
    (.bipush 17, 118, 0, 0, 0, 0, .inl 17, []),
    (.bipush 117, 120, 0, 0, 0, 0, .inl 117, []),
    (.iastore, 121, 0, 0, 0, 0, .inl 0, []),
    (.dup, 122, 0, 0, 0, 0, .inl 0, []),
    (.bipush 18, 124, 0, 0, 0, 0, .inl 18, []),
    (.bipush 101, 126, 0, 0, 0, 0, .inl 101, []),
    (.iastore, 127, 0, 0, 0, 0, .inl 0, []),
    (.dup, 128, 0, 0, 0, 0, .inl 0, []),
    (.bipush 19, 130, 0, 0, 0, 0, .inl 19, []),
    (.bipush 115, 132, 0, 0, 0, 0, .inl 115, []),
    (.iastore, 133, 0, 0, 0, 0, .inl 0, []),
    (.dup, 134, 0, 0, 0, 0, .inl 0, []),
    (.bipush 20, 136, 0, 0, 0, 0, .inl 20, []),
    (.bipush 116, 138, 0, 0, 0, 0, .inl 116, []),
    (.iastore, 139, 0, 0, 0, 0, .inl 0, []),
    (.dup, 140, 0, 0, 0, 0, .inl 0, []),
    (.bipush 21, 142, 0, 0, 0, 0, .inl 21, []),
    (.bipush 32, 144, 0, 0, 0, 0, .inl 32, []),
    (.iastore, 145, 0, 0, 0, 0, .inl 0, []),
    (.dup, 146, 0, 0, 0, 0, .inl 0, []),
    (.bipush 22, 148, 0, 0, 0, 0, .inl 22, []),
    (.bipush 114, 150, 0, 0, 0, 0, .inl 114, []),
    (.iastore, 151, 0, 0, 0, 0, .inl 0, []),
    (.dup, 152, 0, 0, 0, 0, .inl 0, []),
    (.bipush 23, 154, 0, 0, 0, 0, .inl 23, []),
    (.bipush 111, 156, 0, 0, 0, 0, .inl 111, []),
    (.iastore, 157, 0, 0, 0, 0, .inl 0, []),
    (.dup, 158, 0, 0, 0, 0, .inl 0, []),
    (.bipush 24, 160, 0, 0, 0, 0, .inl 24, []),
    (.bipush 99, 162, 0, 0, 0, 0, .inl 99, []),
    (.iastore, 163, 0, 0, 0, 0, .inl 0, []),
    (.dup, 164, 0, 0, 0, 0, .inl 0, []),
    (.bipush 25, 166, 0, 0, 0, 0, .inl 25, []),
    (.bipush 107, 168, 0, 0, 0, 0, .inl 107, []),
    (.iastore, 169, 0, 0, 0, 0, .inl 0, []),
    (.dup, 170, 0, 0, 0, 0, .inl 0, []),
    (.bipush 26, 172, 0, 0, 0, 0, .inl 26, []),
    (.bipush 32, 174, 0, 0, 0, 0, .inl 32, []),
    (.iastore, 175, 0, 0, 0, 0, .inl 0, []),
    (.dup, 176, 0, 0, 0, 0, .inl 0, []),
    (.bipush 27, 178, 0, 0, 0, 0, .inl 27, []),
    (.bipush 99, 180, 0, 0, 0, 0, .inl 99, []),
    (.iastore, 181, 0, 0, 0, 0, .inl 0, []),
    (.dup, 182, 0, 0, 0, 0, .inl 0, []),
    (.bipush 28, 184, 0, 0, 0, 0, .inl 28, []),
    (.bipush 108, 186, 0, 0, 0, 0, .inl 108, []),
    (.iastore, 187, 0, 0, 0, 0, .inl 0, []),
    (.dup, 188, 0, 0, 0, 0, .inl 0, []),
    (.bipush 29, 190, 0, 0, 0, 0, .inl 29, []),
    (.bipush 111, 192, 0, 0, 0, 0, .inl 111, []),
    (.iastore, 193, 0, 0, 0, 0, .inl 0, []),
    (.dup, 194, 0, 0, 0, 0, .inl 0, []),
    (.bipush 30, 196, 0, 0, 0, 0, .inl 30, []),
    (.bipush 117, 198, 0, 0, 0, 0, .inl 117, []),
    (.iastore, 199, 0, 0, 0, 0, .inl 0, []),
    (.dup, 200, 0, 0, 0, 0, .inl 0, []),
    (.bipush 31, 202, 0, 0, 0, 0, .inl 31, []),
    (.bipush 100, 204, 0, 0, 0, 0, .inl 100, []),
    (.iastore, 205, 0, 0, 0, 0, .inl 0, []),
    (.dup, 206, 0, 0, 0, 0, .inl 0, []),
    (.bipush 32, 208, 0, 0, 0, 0, .inl 32, []),
    (.bipush 32, 210, 0, 0, 0, 0, .inl 32, []),
    (.iastore, 211, 0, 0, 0, 0, .inl 0, []),
    (.dup, 212, 0, 0, 0, 0, .inl 0, []),
    (.bipush 33, 214, 0, 0, 0, 0, .inl 33, []),
    (.bipush 115, 216, 0, 0, 0, 0, .inl 115, []),
    (.iastore, 217, 0, 0, 0, 0, .inl 0, []),
    (.dup, 218, 0, 0, 0, 0, .inl 0, []),
    (.bipush 34, 220, 0, 0, 0, 0, .inl 34, []),
    (.bipush 111, 222, 0, 0, 0, 0, .inl 111, []),
    (.iastore, 223, 0, 0, 0, 0, .inl 0, []),
    (.dup, 224, 0, 0, 0, 0, .inl 0, []),
    (.bipush 35, 226, 0, 0, 0, 0, .inl 35, []),
    (.bipush 114, 228, 0, 0, 0, 0, .inl 114, []),
    (.iastore, 229, 0, 0, 0, 0, .inl 0, []),
    (.dup, 230, 0, 0, 0, 0, .inl 0, []),
    (.bipush 36, 232, 0, 0, 0, 0, .inl 36, []),
    (.bipush 116, 234, 0, 0, 0, 0, .inl 116, []),
    (.iastore, 235, 0, 0, 0, 0, .inl 0, []),
    (.dup, 236, 0, 0, 0, 0, .inl 0, []),
    (.bipush 37, 238, 0, 0, 0, 0, .inl 37, []),
    (.bipush 32, 240, 0, 0, 0, 0, .inl 32, []),
    (.iastore, 241, 0, 0, 0, 0, .inl 0, []),
    (.dup, 242, 0, 0, 0, 0, .inl 0, []),
    (.bipush 38, 244, 0, 0, 0, 0, .inl 38, []),
    (.bipush 119, 246, 0, 0, 0, 0, .inl 119, []),
    (.iastore, 247, 0, 0, 0, 0, .inl 0, []),
    (.dup, 248, 0, 0, 0, 0, .inl 0, []),
    (.bipush 39, 250, 0, 0, 0, 0, .inl 39, []),
    (.bipush 97, 252, 0, 0, 0, 0, .inl 97, []),
    (.iastore, 253, 0, 0, 0, 0, .inl 0, []),
    (.dup, 254, 0, 0, 0, 0, .inl 0, []),
    (.bipush 40, 256, 0, 0, 0, 0, .inl 40, []),
    (.bipush 116, 258, 0, 0, 0, 0, .inl 116, []),
    (.iastore, 259, 0, 0, 0, 0, .inl 0, []),
    (.dup, 260, 0, 0, 0, 0, .inl 0, []),
    (.bipush 41, 262, 0, 0, 0, 0, .inl 41, []),
    (.bipush 99, 264, 0, 0, 0, 0, .inl 99, []),
    (.iastore, 265, 0, 0, 0, 0, .inl 0, []),
    (.dup, 266, 0, 0, 0, 0, .inl 0, []),
    (.bipush 42, 268, 0, 0, 0, 0, .inl 42, []),
    (.bipush 104, 270, 0, 0, 0, 0, .inl 104, []),
    (.iastore, 271, 0, 0, 0, 0, .inl 0, []),
    (.dup, 272, 0, 0, 0, 0, .inl 0, []),
    (.bipush 43, 274, 0, 0, 0, 0, .inl 43, []),
    (.bipush 32, 276, 0, 0, 0, 0, .inl 32, []),
    (.iastore, 277, 0, 0, 0, 0, .inl 0, []),
    (.dup, 278, 0, 0, 0, 0, .inl 0, []),
    (.bipush 44, 280, 0, 0, 0, 0, .inl 44, []),
    (.bipush 116, 282, 0, 0, 0, 0, .inl 116, []),
    (.iastore, 283, 0, 0, 0, 0, .inl 0, []),
    (.dup, 284, 0, 0, 0, 0, .inl 0, []),
    (.bipush 45, 286, 0, 0, 0, 0, .inl 45, []),
    (.bipush 117, 288, 0, 0, 0, 0, .inl 117, []),
    (.iastore, 289, 0, 0, 0, 0, .inl 0, []),
    (.dup, 290, 0, 0, 0, 0, .inl 0, []),
    (.bipush 46, 292, 0, 0, 0, 0, .inl 46, []),
    (.bipush 114, 294, 0, 0, 0, 0, .inl 114, []),
    (.iastore, 295, 0, 0, 0, 0, .inl 0, []),
    (.dup, 296, 0, 0, 0, 0, .inl 0, []),
    (.bipush 47, 298, 0, 0, 0, 0, .inl 47, []),
    (.bipush 110, 300, 0, 0, 0, 0, .inl 110, []),
    (.iastore, 301, 0, 0, 0, 0, .inl 0, []),
    (.dup, 302, 0, 0, 0, 0, .inl 0, []),
    (.bipush 48, 304, 0, 0, 0, 0, .inl 48, []),
    (.bipush 32, 306, 0, 0, 0, 0, .inl 32, []),
    (.iastore, 307, 0, 0, 0, 0, .inl 0, []),
    (.dup, 308, 0, 0, 0, 0, .inl 0, []),
    (.bipush 49, 310, 0, 0, 0, 0, .inl 49, []),
    (.bipush 112, 312, 0, 0, 0, 0, .inl 112, []),
    (.iastore, 313, 0, 0, 0, 0, .inl 0, []),
    (.dup, 314, 0, 0, 0, 0, .inl 0, []),
    (.bipush 50, 316, 0, 0, 0, 0, .inl 50, []),
    (.bipush 114, 318, 0, 0, 0, 0, .inl 114, []),
    (.iastore, 319, 0, 0, 0, 0, .inl 0, []),
    (.dup, 320, 0, 0, 0, 0, .inl 0, []),
    (.bipush 51, 322, 0, 0, 0, 0, .inl 51, []),
    (.bipush 105, 324, 0, 0, 0, 0, .inl 105, []),
    (.iastore, 325, 0, 0, 0, 0, .inl 0, []),
    (.dup, 326, 0, 0, 0, 0, .inl 0, []),
    (.bipush 52, 328, 0, 0, 0, 0, .inl 52, []),
    (.bipush 99, 330, 0, 0, 0, 0, .inl 99, []),
    (.iastore, 331, 0, 0, 0, 0, .inl 0, []),
    (.dup, 332, 0, 0, 0, 0, .inl 0, []),
    (.bipush 53, 334, 0, 0, 0, 0, .inl 53, []),
    (.bipush 101, 336, 0, 0, 0, 0, .inl 101, []),
    (.iastore, 337, 0, 0, 0, 0, .inl 0, []),
    (.dup, 338, 0, 0, 0, 0, .inl 0, []),
    (.bipush 54, 340, 0, 0, 0, 0, .inl 54, []),
    (.bipush 32, 342, 0, 0, 0, 0, .inl 32, []),
    (.iastore, 343, 0, 0, 0, 0, .inl 0, []),
    (.dup, 344, 0, 0, 0, 0, .inl 0, []),
    (.bipush 55, 346, 0, 0, 0, 0, .inl 55, []),
    (.bipush 108, 348, 0, 0, 0, 0, .inl 108, []),
    (.iastore, 349, 0, 0, 0, 0, .inl 0, []),
    (.dup, 350, 0, 0, 0, 0, .inl 0, []),
    (.bipush 56, 352, 0, 0, 0, 0, .inl 56, []),
    (.bipush 105, 354, 0, 0, 0, 0, .inl 105, []),
    (.iastore, 355, 0, 0, 0, 0, .inl 0, []),
    (.dup, 356, 0, 0, 0, 0, .inl 0, []),
    (.bipush 57, 358, 0, 0, 0, 0, .inl 57, []),
    (.bipush 109, 360, 0, 0, 0, 0, .inl 109, []),
    (.iastore, 361, 0, 0, 0, 0, .inl 0, []),
    (.dup, 362, 0, 0, 0, 0, .inl 0, []),
    (.bipush 58, 364, 0, 0, 0, 0, .inl 58, []),
    (.bipush 105, 366, 0, 0, 0, 0, .inl 105, []),
    (.iastore, 367, 0, 0, 0, 0, .inl 0, []),
    (.dup, 368, 0, 0, 0, 0, .inl 0, []),
    (.bipush 59, 370, 0, 0, 0, 0, .inl 59, []),
    (.bipush 116, 372, 0, 0, 0, 0, .inl 116, []),
    (.iastore, 373, 0, 0, 0, 0, .inl 0, []),
    (.dup, 374, 0, 0, 0, 0, .inl 0, []),
    (.bipush 60, 376, 0, 0, 0, 0, .inl 60, []),
    (.bipush 32, 378, 0, 0, 0, 0, .inl 32, []),
    (.iastore, 379, 0, 0, 0, 0, .inl 0, []),
    (.dup, 380, 0, 0, 0, 0, .inl 0, []),
    (.bipush 61, 382, 0, 0, 0, 0, .inl 61, []),
    (.bipush 98, 384, 0, 0, 0, 0, .inl 98, []),
    (.iastore, 385, 0, 0, 0, 0, .inl 0, []),
    (.dup, 386, 0, 0, 0, 0, .inl 0, []),
    (.bipush 62, 388, 0, 0, 0, 0, .inl 62, []),
    (.bipush 108, 390, 0, 0, 0, 0, .inl 108, []),
    (.iastore, 391, 0, 0, 0, 0, .inl 0, []),
    (.dup, 392, 0, 0, 0, 0, .inl 0, []),
    (.bipush 63, 394, 0, 0, 0, 0, .inl 63, []),
    (.bipush 117, 396, 0, 0, 0, 0, .inl 117, []),
    (.iastore, 397, 0, 0, 0, 0, .inl 0, []),
    (.dup, 398, 0, 0, 0, 0, .inl 0, []),
    (.bipush 64, 400, 0, 0, 0, 0, .inl 64, []),
    (.bipush 114, 402, 0, 0, 0, 0, .inl 114, []),
    (.iastore, 403, 0, 0, 0, 0, .inl 0, []),
    (.dup, 404, 0, 0, 0, 0, .inl 0, []),
    (.bipush 65, 406, 0, 0, 0, 0, .inl 65, []),
    (.bipush 32, 408, 0, 0, 0, 0, .inl 32, []),
    (.iastore, 409, 0, 0, 0, 0, .inl 0, []),
    (.dup, 410, 0, 0, 0, 0, .inl 0, []),
    (.bipush 66, 412, 0, 0, 0, 0, .inl 66, []),
    (.bipush 102, 414, 0, 0, 0, 0, .inl 102, []),
    (.iastore, 415, 0, 0, 0, 0, .inl 0, []),
    (.dup, 416, 0, 0, 0, 0, .inl 0, []),
    (.bipush 67, 418, 0, 0, 0, 0, .inl 67, []),
    (.bipush 114, 420, 0, 0, 0, 0, .inl 114, []),
    (.iastore, 421, 0, 0, 0, 0, .inl 0, []),
    (.dup, 422, 0, 0, 0, 0, .inl 0, []),
    (.bipush 68, 424, 0, 0, 0, 0, .inl 68, []),
    (.bipush 111, 426, 0, 0, 0, 0, .inl 111, []),
    (.iastore, 427, 0, 0, 0, 0, .inl 0, []),
    (.dup, 428, 0, 0, 0, 0, .inl 0, []),
    (.bipush 69, 430, 0, 0, 0, 0, .inl 69, []),
    (.bipush 109, 432, 0, 0, 0, 0, .inl 109, []),
    (.iastore, 433, 0, 0, 0, 0, .inl 0, []),
    (.dup, 434, 0, 0, 0, 0, .inl 0, []),
    (.bipush 70, 436, 0, 0, 0, 0, .inl 70, []),
    (.bipush 32, 438, 0, 0, 0, 0, .inl 32, []),
    (.iastore, 439, 0, 0, 0, 0, .inl 0, []),
    (.dup, 440, 0, 0, 0, 0, .inl 0, []),
    (.bipush 71, 442, 0, 0, 0, 0, .inl 71, []),
    (.bipush 105, 444, 0, 0, 0, 0, .inl 105, []),
    (.iastore, 445, 0, 0, 0, 0, .inl 0, []),
    (.dup, 446, 0, 0, 0, 0, .inl 0, []),
    (.bipush 72, 448, 0, 0, 0, 0, .inl 72, []),
    (.bipush 110, 450, 0, 0, 0, 0, .inl 110, []),
    (.iastore, 451, 0, 0, 0, 0, .inl 0, []),
    (.dup, 452, 0, 0, 0, 0, .inl 0, []),
    (.bipush 73, 454, 0, 0, 0, 0, .inl 73, []),
    (.bipush 32, 456, 0, 0, 0, 0, .inl 32, []),
    (.iastore, 457, 0, 0, 0, 0, .inl 0, []),
    (.dup, 458, 0, 0, 0, 0, .inl 0, []),
    (.bipush 74, 460, 0, 0, 0, 0, .inl 74, []),
    (.bipush 110, 462, 0, 0, 0, 0, .inl 110, []),
    (.iastore, 463, 0, 0, 0, 0, .inl 0, []),
    (.dup, 464, 0, 0, 0, 0, .inl 0, []),
    (.bipush 75, 466, 0, 0, 0, 0, .inl 75, []),
    (.bipush 101, 468, 0, 0, 0, 0, .inl 101, []),
    (.iastore, 469, 0, 0, 0, 0, .inl 0, []),
    (.dup, 470, 0, 0, 0, 0, .inl 0, []),
    (.bipush 76, 472, 0, 0, 0, 0, .inl 76, []),
    (.bipush 97, 474, 0, 0, 0, 0, .inl 97, []),
    (.iastore, 475, 0, 0, 0, 0, .inl 0, []),
    (.dup, 476, 0, 0, 0, 0, .inl 0, []),
    (.bipush 77, 478, 0, 0, 0, 0, .inl 77, []),
    (.bipush 114, 480, 0, 0, 0, 0, .inl 114, []),
    (.iastore, 481, 0, 0, 0, 0, .inl 0, []),
    (.dup, 482, 0, 0, 0, 0, .inl 0, []),
    (.bipush 78, 484, 0, 0, 0, 0, .inl 78, []),
    (.bipush 32, 486, 0, 0, 0, 0, .inl 32, []),
    (.iastore, 487, 0, 0, 0, 0, .inl 0, []),
    (.dup, 488, 0, 0, 0, 0, .inl 0, []),
    (.bipush 79, 490, 0, 0, 0, 0, .inl 79, []),
    (.bipush 119, 492, 0, 0, 0, 0, .inl 119, []),
    (.iastore, 493, 0, 0, 0, 0, .inl 0, []),
    (.dup, 494, 0, 0, 0, 0, .inl 0, []),
    (.bipush 80, 496, 0, 0, 0, 0, .inl 80, []),
    (.bipush 111, 498, 0, 0, 0, 0, .inl 111, []),
    (.iastore, 499, 0, 0, 0, 0, .inl 0, []),
    (.dup, 500, 0, 0, 0, 0, .inl 0, []),
    (.bipush 81, 502, 0, 0, 0, 0, .inl 81, []),
    (.bipush 114, 504, 0, 0, 0, 0, .inl 114, []),
    (.iastore, 505, 0, 0, 0, 0, .inl 0, []),
    (.dup, 506, 0, 0, 0, 0, .inl 0, []),
    (.bipush 82, 508, 0, 0, 0, 0, .inl 82, []),
    (.bipush 116, 510, 0, 0, 0, 0, .inl 116, []),
    (.iastore, 511, 0, 0, 0, 0, .inl 0, []),
    (.dup, 512, 0, 0, 0, 0, .inl 0, []),
    (.bipush 83, 514, 0, 0, 0, 0, .inl 83, []),
    (.bipush 104, 516, 0, 0, 0, 0, .inl 104, []),
    (.iastore, 517, 0, 0, 0, 0, .inl 0, []),
    (.dup, 518, 0, 0, 0, 0, .inl 0, []),
    (.bipush 84, 520, 0, 0, 0, 0, .inl 84, []),
    (.bipush 32, 522, 0, 0, 0, 0, .inl 32, []),
    (.iastore, 523, 0, 0, 0, 0, .inl 0, []),
    (.dup, 524, 0, 0, 0, 0, .inl 0, []),
    (.bipush 85, 526, 0, 0, 0, 0, .inl 85, []),
    (.bipush 112, 528, 0, 0, 0, 0, .inl 112, []),
    (.iastore, 529, 0, 0, 0, 0, .inl 0, []),
    (.dup, 530, 0, 0, 0, 0, .inl 0, []),
    (.bipush 86, 532, 0, 0, 0, 0, .inl 86, []),
    (.bipush 108, 534, 0, 0, 0, 0, .inl 108, []),
    (.iastore, 535, 0, 0, 0, 0, .inl 0, []),
    (.dup, 536, 0, 0, 0, 0, .inl 0, []),
    (.bipush 87, 538, 0, 0, 0, 0, .inl 87, []),
    (.bipush 97, 540, 0, 0, 0, 0, .inl 97, []),
    (.iastore, 541, 0, 0, 0, 0, .inl 0, []),
    (.dup, 542, 0, 0, 0, 0, .inl 0, []),
    (.bipush 88, 544, 0, 0, 0, 0, .inl 88, []),
    (.bipush 116, 546, 0, 0, 0, 0, .inl 116, []),
    (.iastore, 547, 0, 0, 0, 0, .inl 0, []),
    (.dup, 548, 0, 0, 0, 0, .inl 0, []),
    (.bipush 89, 550, 0, 0, 0, 0, .inl 89, []),
    (.bipush 101, 552, 0, 0, 0, 0, .inl 101, []),
    (.iastore, 553, 0, 0, 0, 0, .inl 0, []),
    (.dup, 554, 0, 0, 0, 0, .inl 0, []),
    (.bipush 90, 556, 0, 0, 0, 0, .inl 90, []),
    (.bipush 32, 558, 0, 0, 0, 0, .inl 32, []),
    (.iastore, 559, 0, 0, 0, 0, .inl 0, []),
    (.dup, 560, 0, 0, 0, 0, .inl 0, []),
    (.bipush 91, 562, 0, 0, 0, 0, .inl 91, []),
    (.bipush 115, 564, 0, 0, 0, 0, .inl 115, []),
    (.iastore, 565, 0, 0, 0, 0, .inl 0, []),
    (.dup, 566, 0, 0, 0, 0, .inl 0, []),
    (.bipush 92, 568, 0, 0, 0, 0, .inl 92, []),
    (.bipush 108, 570, 0, 0, 0, 0, .inl 108, []),
    (.iastore, 571, 0, 0, 0, 0, .inl 0, []),
    (.dup, 572, 0, 0, 0, 0, .inl 0, []),
    (.bipush 93, 574, 0, 0, 0, 0, .inl 93, []),
    (.bipush 111, 576, 0, 0, 0, 0, .inl 111, []),
    (.iastore, 577, 0, 0, 0, 0, .inl 0, []),
    (.dup, 578, 0, 0, 0, 0, .inl 0, []),
    (.bipush 94, 580, 0, 0, 0, 0, .inl 94, []),
    (.bipush 119, 582, 0, 0, 0, 0, .inl 119, []),
    (.iastore, 583, 0, 0, 0, 0, .inl 0, []),
    (.dup, 584, 0, 0, 0, 0, .inl 0, []),
    (.bipush 95, 586, 0, 0, 0, 0, .inl 95, []),
    (.bipush 32, 588, 0, 0, 0, 0, .inl 32, []),
    (.iastore, 589, 0, 0, 0, 0, .inl 0, []),
    (.dup, 590, 0, 0, 0, 0, .inl 0, []),
    (.bipush 96, 592, 0, 0, 0, 0, .inl 96, []),
    (.bipush 116, 594, 0, 0, 0, 0, .inl 116, []),
    (.iastore, 595, 0, 0, 0, 0, .inl 0, []),
    (.dup, 596, 0, 0, 0, 0, .inl 0, []),
    (.bipush 97, 598, 0, 0, 0, 0, .inl 97, []),
    (.bipush 105, 600, 0, 0, 0, 0, .inl 105, []),
    (.iastore, 601, 0, 0, 0, 0, .inl 0, []),
    (.dup, 602, 0, 0, 0, 0, .inl 0, []),
    (.bipush 98, 604, 0, 0, 0, 0, .inl 98, []),
    (.bipush 99, 606, 0, 0, 0, 0, .inl 99, []),
    (.iastore, 607, 0, 0, 0, 0, .inl 0, []),
    (.dup, 608, 0, 0, 0, 0, .inl 0, []),
    (.bipush 99, 610, 0, 0, 0, 0, .inl 99, []),
    (.bipush 107, 612, 0, 0, 0, 0, .inl 107, []),
    (.iastore, 613, 0, 0, 0, 0, .inl 0, []),
    (.dup, 614, 0, 0, 0, 0, .inl 0, []),
    (.bipush 100, 616, 0, 0, 0, 0, .inl 100, []),
    (.bipush 32, 618, 0, 0, 0, 0, .inl 32, []),
    (.iastore, 619, 0, 0, 0, 0, .inl 0, []),
    (.dup, 620, 0, 0, 0, 0, .inl 0, []),
    (.bipush 101, 622, 0, 0, 0, 0, .inl 101, []),
    (.bipush 110, 624, 0, 0, 0, 0, .inl 110, []),
    (.iastore, 625, 0, 0, 0, 0, .inl 0, []),
    (.dup, 626, 0, 0, 0, 0, .inl 0, []),
    (.bipush 102, 628, 0, 0, 0, 0, .inl 102, []),
    (.bipush 111, 630, 0, 0, 0, 0, .inl 111, []),
    (.iastore, 631, 0, 0, 0, 0, .inl 0, []),
    (.dup, 632, 0, 0, 0, 0, .inl 0, []),
    (.bipush 103, 634, 0, 0, 0, 0, .inl 103, []),
    (.bipush 114, 636, 0, 0, 0, 0, .inl 114, []),
    (.iastore, 637, 0, 0, 0, 0, .inl 0, []),
    (.dup, 638, 0, 0, 0, 0, .inl 0, []),
    (.bipush 104, 640, 0, 0, 0, 0, .inl 104, []),
    (.bipush 116, 642, 0, 0, 0, 0, .inl 116, []),
    (.iastore, 643, 0, 0, 0, 0, .inl 0, []),
    (.dup, 644, 0, 0, 0, 0, .inl 0, []),
    (.bipush 105, 646, 0, 0, 0, 0, .inl 105, []),
    (.bipush 104, 648, 0, 0, 0, 0, .inl 104, []),
    (.iastore, 649, 0, 0, 0, 0, .inl 0, []),
    (.dup, 650, 0, 0, 0, 0, .inl 0, []),
    (.bipush 106, 652, 0, 0, 0, 0, .inl 106, []),
    (.bipush 32, 654, 0, 0, 0, 0, .inl 32, []),
    (.iastore, 655, 0, 0, 0, 0, .inl 0, []),
    (.dup, 656, 0, 0, 0, 0, .inl 0, []),
    (.bipush 107, 658, 0, 0, 0, 0, .inl 107, []),
    (.bipush 115, 660, 0, 0, 0, 0, .inl 115, []),
    (.iastore, 661, 0, 0, 0, 0, .inl 0, []),
    (.dup, 662, 0, 0, 0, 0, .inl 0, []),
    (.bipush 108, 664, 0, 0, 0, 0, .inl 108, []),
    (.bipush 111, 666, 0, 0, 0, 0, .inl 111, []),
    (.iastore, 667, 0, 0, 0, 0, .inl 0, []),
    (.dup, 668, 0, 0, 0, 0, .inl 0, []),
    (.bipush 109, 670, 0, 0, 0, 0, .inl 109, []),
    (.bipush 117, 672, 0, 0, 0, 0, .inl 117, []),
    (.iastore, 673, 0, 0, 0, 0, .inl 0, []),
    (.dup, 674, 0, 0, 0, 0, .inl 0, []),
    (.bipush 110, 676, 0, 0, 0, 0, .inl 110, []),
    (.bipush 116, 678, 0, 0, 0, 0, .inl 116, []),
    (.iastore, 679, 0, 0, 0, 0, .inl 0, []),
    (.dup, 680, 0, 0, 0, 0, .inl 0, []),
    (.bipush 111, 682, 0, 0, 0, 0, .inl 111, []),
    (.bipush 104, 684, 0, 0, 0, 0, .inl 104, []),
    (.iastore, 685, 0, 0, 0, 0, .inl 0, []),
    (.dup, 686, 0, 0, 0, 0, .inl 0, []),
    (.bipush 112, 688, 0, 0, 0, 0, .inl 112, []),
    (.bipush 32, 690, 0, 0, 0, 0, .inl 32, []),
    (.iastore, 691, 0, 0, 0, 0, .inl 0, []),
    (.dup, 692, 0, 0, 0, 0, .inl 0, []),
    (.bipush 113, 694, 0, 0, 0, 0, .inl 113, []),
    (.bipush 101, 696, 0, 0, 0, 0, .inl 101, []),
    (.iastore, 697, 0, 0, 0, 0, .inl 0, []),
    (.dup, 698, 0, 0, 0, 0, .inl 0, []),
    (.bipush 114, 700, 0, 0, 0, 0, .inl 114, []),
    (.bipush 97, 702, 0, 0, 0, 0, .inl 97, []),
    (.iastore, 703, 0, 0, 0, 0, .inl 0, []),
    (.dup, 704, 0, 0, 0, 0, .inl 0, []),
    (.bipush 115, 706, 0, 0, 0, 0, .inl 115, []),
    (.bipush 115, 708, 0, 0, 0, 0, .inl 115, []),
    (.iastore, 709, 0, 0, 0, 0, .inl 0, []),
    (.dup, 710, 0, 0, 0, 0, .inl 0, []),
    (.bipush 116, 712, 0, 0, 0, 0, .inl 116, []),
    (.bipush 116, 714, 0, 0, 0, 0, .inl 116, []),
    (.iastore, 715, 0, 0, 0, 0, .inl 0, []),
    (.dup, 716, 0, 0, 0, 0, .inl 0, []),
    (.bipush 117, 718, 0, 0, 0, 0, .inl 117, []),
    (.bipush 32, 720, 0, 0, 0, 0, .inl 32, []),
    (.iastore, 721, 0, 0, 0, 0, .inl 0, []),
    (.dup, 722, 0, 0, 0, 0, .inl 0, []),
    (.bipush 118, 724, 0, 0, 0, 0, .inl 118, []),
    (.bipush 119, 726, 0, 0, 0, 0, .inl 119, []),
    (.iastore, 727, 0, 0, 0, 0, .inl 0, []),
    (.dup, 728, 0, 0, 0, 0, .inl 0, []),
    (.bipush 119, 730, 0, 0, 0, 0, .inl 119, []),
    (.bipush 101, 732, 0, 0, 0, 0, .inl 101, []),
    (.iastore, 733, 0, 0, 0, 0, .inl 0, []),
    (.dup, 734, 0, 0, 0, 0, .inl 0, []),
    (.bipush 120, 736, 0, 0, 0, 0, .inl 120, []),
    (.bipush 115, 738, 0, 0, 0, 0, .inl 115, []),
    (.iastore, 739, 0, 0, 0, 0, .inl 0, []),
    (.dup, 740, 0, 0, 0, 0, .inl 0, []),
    (.bipush 121, 742, 0, 0, 0, 0, .inl 121, []),
    (.bipush 116, 744, 0, 0, 0, 0, .inl 116, []),
    (.iastore, 745, 0, 0, 0, 0, .inl 0, []),
    (.dup, 746, 0, 0, 0, 0, .inl 0, []),
    (.bipush 122, 748, 0, 0, 0, 0, .inl 122, []),
    (.bipush 32, 750, 0, 0, 0, 0, .inl 32, []),
    (.iastore, 751, 0, 0, 0, 0, .inl 0, []),
    (.dup, 752, 0, 0, 0, 0, .inl 0, []),
    (.bipush 123, 754, 0, 0, 0, 0, .inl 123, []),
    (.bipush 97, 756, 0, 0, 0, 0, .inl 97, []),
    (.iastore, 757, 0, 0, 0, 0, .inl 0, []),
    (.dup, 758, 0, 0, 0, 0, .inl 0, []),
    (.bipush 124, 760, 0, 0, 0, 0, .inl 124, []),
    (.bipush 110, 762, 0, 0, 0, 0, .inl 110, []),
    (.iastore, 763, 0, 0, 0, 0, .inl 0, []),
    (.dup, 764, 0, 0, 0, 0, .inl 0, []),
    (.bipush 125, 766, 0, 0, 0, 0, .inl 125, []),
    (.bipush 100, 768, 0, 0, 0, 0, .inl 100, []),
    (.iastore, 769, 0, 0, 0, 0, .inl 0, []),
    (.dup, 770, 0, 0, 0, 0, .inl 0, []),
    (.bipush 126, 772, 0, 0, 0, 0, .inl 126, []),
    (.bipush 32, 774, 0, 0, 0, 0, .inl 32, []),
    (.iastore, 775, 0, 0, 0, 0, .inl 0, []),
    (.dup, 776, 0, 0, 0, 0, .inl 0, []),
    (.bipush 127, 778, 0, 0, 0, 0, .inl 127, []),
    (.bipush 111, 780, 0, 0, 0, 0, .inl 111, []),
    (.iastore, 781, 0, 0, 0, 0, .inl 0, []),
    (.dup, 782, 0, 0, 0, 0, .inl 0, []),
    (.sipush 128, 785, 0, 0, 0, 0, .inl 128, []),
    (.bipush 114, 787, 0, 0, 0, 0, .inl 114, []),
    (.iastore, 788, 0, 0, 0, 0, .inl 0, []),
    (.dup, 789, 0, 0, 0, 0, .inl 0, []),
    (.sipush 129, 792, 0, 0, 0, 0, .inl 129, []),
    (.bipush 32, 794, 0, 0, 0, 0, .inl 32, []),
    (.iastore, 795, 0, 0, 0, 0, .inl 0, []),
    (.dup, 796, 0, 0, 0, 0, .inl 0, []),
    (.sipush 130, 799, 0, 0, 0, 0, .inl 130, []),
    (.bipush 110, 801, 0, 0, 0, 0, .inl 110, []),
    (.iastore, 802, 0, 0, 0, 0, .inl 0, []),
    (.dup, 803, 0, 0, 0, 0, .inl 0, []),
    (.sipush 131, 806, 0, 0, 0, 0, .inl 131, []),
    (.bipush 111, 808, 0, 0, 0, 0, .inl 111, []),
    (.iastore, 809, 0, 0, 0, 0, .inl 0, []),
    (.dup, 810, 0, 0, 0, 0, .inl 0, []),
    (.sipush 132, 813, 0, 0, 0, 0, .inl 132, []),
    (.bipush 116, 815, 0, 0, 0, 0, .inl 116, []),
    (.iastore, 816, 0, 0, 0, 0, .inl 0, []),
    (.dup, 817, 0, 0, 0, 0, .inl 0, []),
    (.sipush 133, 820, 0, 0, 0, 0, .inl 133, []),
    (.bipush 32, 822, 0, 0, 0, 0, .inl 32, []),
    (.iastore, 823, 0, 0, 0, 0, .inl 0, []),
    (.dup, 824, 0, 0, 0, 0, .inl 0, []),
    (.sipush 134, 827, 0, 0, 0, 0, .inl 134, []),
    (.bipush 108, 829, 0, 0, 0, 0, .inl 108, []),
    (.iastore, 830, 0, 0, 0, 0, .inl 0, []),
    (.dup, 831, 0, 0, 0, 0, .inl 0, []),
    (.sipush 135, 834, 0, 0, 0, 0, .inl 135, []),
    (.bipush 97, 836, 0, 0, 0, 0, .inl 97, []),
    (.iastore, 837, 0, 0, 0, 0, .inl 0, []),
    (.dup, 838, 0, 0, 0, 0, .inl 0, []),
    (.sipush 136, 841, 0, 0, 0, 0, .inl 136, []),
    (.bipush 115, 843, 0, 0, 0, 0, .inl 115, []),
    (.iastore, 844, 0, 0, 0, 0, .inl 0, []),
    (.dup, 845, 0, 0, 0, 0, .inl 0, []),
    (.sipush 137, 848, 0, 0, 0, 0, .inl 137, []),
    (.bipush 116, 850, 0, 0, 0, 0, .inl 116, []),
    (.iastore, 851, 0, 0, 0, 0, .inl 0, []),
    (.dup, 852, 0, 0, 0, 0, .inl 0, []),
    (.sipush 138, 855, 0, 0, 0, 0, .inl 138, []),
    (.bipush 115, 857, 0, 0, 0, 0, .inl 115, []),
    (.iastore, 858, 0, 0, 0, 0, .inl 0, []),
    (.dup, 859, 0, 0, 0, 0, .inl 0, []),
    (.sipush 139, 862, 0, 0, 0, 0, .inl 139, []),
    (.bipush 32, 864, 0, 0, 0, 0, .inl 32, []),
    (.iastore, 865, 0, 0, 0, 0, .inl 0, []),
    (.dup, 866, 0, 0, 0, 0, .inl 0, []),
    (.sipush 140, 869, 0, 0, 0, 0, .inl 140, []),
    (.bipush 98, 871, 0, 0, 0, 0, .inl 98, []),
    (.iastore, 872, 0, 0, 0, 0, .inl 0, []),
    (.dup, 873, 0, 0, 0, 0, .inl 0, []),
    (.sipush 141, 876, 0, 0, 0, 0, .inl 141, []),
    (.bipush 114, 878, 0, 0, 0, 0, .inl 114, []),
    (.iastore, 879, 0, 0, 0, 0, .inl 0, []),
    (.dup, 880, 0, 0, 0, 0, .inl 0, []),
    (.sipush 142, 883, 0, 0, 0, 0, .inl 142, []),
    (.bipush 105, 885, 0, 0, 0, 0, .inl 105, []),
    (.iastore, 886, 0, 0, 0, 0, .inl 0, []),
    (.dup, 887, 0, 0, 0, 0, .inl 0, []),
    (.sipush 143, 890, 0, 0, 0, 0, .inl 143, []),
    (.bipush 103, 892, 0, 0, 0, 0, .inl 103, []),
    (.iastore, 893, 0, 0, 0, 0, .inl 0, []),
    (.dup, 894, 0, 0, 0, 0, .inl 0, []),
    (.sipush 144, 897, 0, 0, 0, 0, .inl 144, []),
    (.bipush 104, 899, 0, 0, 0, 0, .inl 104, []),
    (.iastore, 900, 0, 0, 0, 0, .inl 0, []),
    (.dup, 901, 0, 0, 0, 0, .inl 0, []),
    (.sipush 145, 904, 0, 0, 0, 0, .inl 145, []),
    (.bipush 116, 906, 0, 0, 0, 0, .inl 116, []),
    (.iastore, 907, 0, 0, 0, 0, .inl 0, []),
    (.dup, 908, 0, 0, 0, 0, .inl 0, []),
    (.sipush 146, 911, 0, 0, 0, 0, .inl 146, []),
    (.bipush 32, 913, 0, 0, 0, 0, .inl 32, []),
    (.iastore, 914, 0, 0, 0, 0, .inl 0, []),
    (.dup, 915, 0, 0, 0, 0, .inl 0, []),
    (.sipush 147, 918, 0, 0, 0, 0, .inl 147, []),
    (.bipush 109, 920, 0, 0, 0, 0, .inl 109, []),
    (.iastore, 921, 0, 0, 0, 0, .inl 0, []),
    (.dup, 922, 0, 0, 0, 0, .inl 0, []),
    (.sipush 148, 925, 0, 0, 0, 0, .inl 148, []),
    (.bipush 111, 927, 0, 0, 0, 0, .inl 111, []),
    (.iastore, 928, 0, 0, 0, 0, .inl 0, []),
    (.dup, 929, 0, 0, 0, 0, .inl 0, []),
    (.sipush 149, 932, 0, 0, 0, 0, .inl 149, []),
    (.bipush 118, 934, 0, 0, 0, 0, .inl 118, []),
    (.iastore, 935, 0, 0, 0, 0, .inl 0, []),
    (.dup, 936, 0, 0, 0, 0, .inl 0, []),
    (.sipush 150, 939, 0, 0, 0, 0, .inl 150, []),
    (.bipush 101, 941, 0, 0, 0, 0, .inl 101, []),
    (.iastore, 942, 0, 0, 0, 0, .inl 0, []),
    (.dup, 943, 0, 0, 0, 0, .inl 0, []),
    (.sipush 151, 946, 0, 0, 0, 0, .inl 151, []),
    (.bipush 115, 948, 0, 0, 0, 0, .inl 115, []),
    (.iastore, 949, 0, 0, 0, 0, .inl 0, []),
    (.dup, 950, 0, 0, 0, 0, .inl 0, []),
    (.sipush 152, 953, 0, 0, 0, 0, .inl 152, []),
    (.bipush 32, 955, 0, 0, 0, 0, .inl 32, []),
    (.iastore, 956, 0, 0, 0, 0, .inl 0, []),
    (.dup, 957, 0, 0, 0, 0, .inl 0, []),
    (.sipush 153, 960, 0, 0, 0, 0, .inl 153, []),
    (.bipush 116, 962, 0, 0, 0, 0, .inl 116, []),
    (.iastore, 963, 0, 0, 0, 0, .inl 0, []),
    (.dup, 964, 0, 0, 0, 0, .inl 0, []),
    (.sipush 154, 967, 0, 0, 0, 0, .inl 154, []),
    (.bipush 97, 969, 0, 0, 0, 0, .inl 97, []),
    (.iastore, 970, 0, 0, 0, 0, .inl 0, []),
    (.dup, 971, 0, 0, 0, 0, .inl 0, []),
    (.sipush 155, 974, 0, 0, 0, 0, .inl 155, []),
    (.bipush 105, 976, 0, 0, 0, 0, .inl 105, []),
    (.iastore, 977, 0, 0, 0, 0, .inl 0, []),
    (.dup, 978, 0, 0, 0, 0, .inl 0, []),
    (.sipush 156, 981, 0, 0, 0, 0, .inl 156, []),
    (.bipush 108, 983, 0, 0, 0, 0, .inl 108, []),
    (.iastore, 984, 0, 0, 0, 0, .inl 0, []),
    (.dup, 985, 0, 0, 0, 0, .inl 0, []),
    (.sipush 157, 988, 0, 0, 0, 0, .inl 157, []),
    (.bipush 32, 990, 0, 0, 0, 0, .inl 32, []),
    (.iastore, 991, 0, 0, 0, 0, .inl 0, []),
    (.dup, 992, 0, 0, 0, 0, .inl 0, []),
    (.sipush 158, 995, 0, 0, 0, 0, .inl 158, []),
    (.bipush 105, 997, 0, 0, 0, 0, .inl 105, []),
    (.iastore, 998, 0, 0, 0, 0, .inl 0, []),
    (.dup, 999, 0, 0, 0, 0, .inl 0, []),
    (.sipush 159, 1002, 0, 0, 0, 0, .inl 159, []),
    (.bipush 110, 1004, 0, 0, 0, 0, .inl 110, []),
    (.iastore, 1005, 0, 0, 0, 0, .inl 0, []),
    (.dup, 1006, 0, 0, 0, 0, .inl 0, []),
    (.sipush 160, 1009, 0, 0, 0, 0, .inl 160, []),
    (.bipush 99, 1011, 0, 0, 0, 0, .inl 99, []),
    (.iastore, 1012, 0, 0, 0, 0, .inl 0, []),
    (.dup, 1013, 0, 0, 0, 0, .inl 0, []),
    (.sipush 161, 1016, 0, 0, 0, 0, .inl 161, []),
    (.bipush 104, 1018, 0, 0, 0, 0, .inl 104, []),
    (.iastore, 1019, 0, 0, 0, 0, .inl 0, []),
    (.dup, 1020, 0, 0, 0, 0, .inl 0, []),
    (.sipush 162, 1023, 0, 0, 0, 0, .inl 162, []),
    (.bipush 101, 1025, 0, 0, 0, 0, .inl 101, []),
    (.iastore, 1026, 0, 0, 0, 0, .inl 0, []),
    (.dup, 1027, 0, 0, 0, 0, .inl 0, []),
    (.sipush 163, 1030, 0, 0, 0, 0, .inl 163, []),
    (.bipush 115, 1032, 0, 0, 0, 0, .inl 115, []),
    (.iastore, 1033, 0, 0, 0, 0, .inl 0, []),
    (.dup, 1034, 0, 0, 0, 0, .inl 0, []),
    (.sipush 164, 1037, 0, 0, 0, 0, .inl 164, []),
    (.bipush 32, 1039, 0, 0, 0, 0, .inl 32, []),
    (.iastore, 1040, 0, 0, 0, 0, .inl 0, []),
    (.dup, 1041, 0, 0, 0, 0, .inl 0, []),
    (.sipush 165, 1044, 0, 0, 0, 0, .inl 165, []),
    (.bipush 109, 1046, 0, 0, 0, 0, .inl 109, []),
    (.iastore, 1047, 0, 0, 0, 0, .inl 0, []),
    (.dup, 1048, 0, 0, 0, 0, .inl 0, []),
    (.sipush 166, 1051, 0, 0, 0, 0, .inl 166, []),
    (.bipush 111, 1053, 0, 0, 0, 0, .inl 111, []),
    (.iastore, 1054, 0, 0, 0, 0, .inl 0, []),
    (.dup, 1055, 0, 0, 0, 0, .inl 0, []),
    (.sipush 167, 1058, 0, 0, 0, 0, .inl 167, []),
    (.bipush 110, 1060, 0, 0, 0, 0, .inl 110, []),
    (.iastore, 1061, 0, 0, 0, 0, .inl 0, []),
    (.dup, 1062, 0, 0, 0, 0, .inl 0, []),
    (.sipush 168, 1065, 0, 0, 0, 0, .inl 168, []),
    (.bipush 116, 1067, 0, 0, 0, 0, .inl 116, []),
    (.iastore, 1068, 0, 0, 0, 0, .inl 0, []),
    (.dup, 1069, 0, 0, 0, 0, .inl 0, []),
    (.sipush 169, 1072, 0, 0, 0, 0, .inl 169, []),
    (.bipush 104, 1074, 0, 0, 0, 0, .inl 104, []),
    (.iastore, 1075, 0, 0, 0, 0, .inl 0, []),
    (.dup, 1076, 0, 0, 0, 0, .inl 0, []),
    (.sipush 170, 1079, 0, 0, 0, 0, .inl 170, []),
    (.bipush 32, 1081, 0, 0, 0, 0, .inl 32, []),
    (.iastore, 1082, 0, 0, 0, 0, .inl 0, []),
    (.putfield 13, 1085, 11, 3, 2, 1, .inl 0, []),
    (.aload_n 0, 1086, 0, 0, 0, 0, .inl 0, []),
    (.iconst (-1), 1087, 0, 0, 0, 0, .inl (-1), []),
    (.putfield 16, 1090, 11, 5, 0, 0, .inl 0, []),
    (.aload_n 0, 1091, 0, 0, 0, 0, .inl 0, []),
    (.bipush 9, 1093, 0, 0, 0, 0, .inl 9, []),
    (.newarray .int, 1095, 13, 0, 0, 0, .inl 0, []),
    (.putfield 20, 1098, 11, 12, 2, 1, .inl 0, []),
    (.aload_n 0, 1099, 0, 0, 0, 0, .inl 0, []),
    (.bipush 9, 1101, 0, 0, 0, 0, .inl 9, []),
    (.newarray .int, 1103, 13, 0, 0, 0, .inl 0, []),
    (.putfield 23, 1106, 11, 13, 2, 1, .inl 0, []),
    (.aload_n 0, 1107, 0, 0, 0, 0, .inl 0, []),
    (.bipush 9, 1109, 0, 0, 0, 0, .inl 9, []),
    (.newarray .int, 1111, 13, 0, 0, 0, .inl 0, []),
    (.dup, 1112, 0, 0, 0, 0, .inl 0, []),
    (.iconst 0, 1113, 0, 0, 0, 0, .inl 0, []),
    (.bipush 8, 1115, 0, 0, 0, 0, .inl 8, []),
    (.iastore, 1116, 0, 0, 0, 0, .inl 0, []),
    (.dup, 1117, 0, 0, 0, 0, .inl 0, []),
    (.iconst 1, 1118, 0, 0, 0, 0, .inl 1, []),
    (.bipush 10, 1120, 0, 0, 0, 0, .inl 10, []),
    (.iastore, 1121, 0, 0, 0, 0, .inl 0, []),
    (.dup, 1122, 0, 0, 0, 0, .inl 0, []),
    (.iconst 2, 1123, 0, 0, 0, 0, .inl 2, []),
    (.bipush 8, 1125, 0, 0, 0, 0, .inl 8, []),
    (.iastore, 1126, 0, 0, 0, 0, .inl 0, []),
    (.dup, 1127, 0, 0, 0, 0, .inl 0, []),
    (.iconst 3, 1128, 0, 0, 0, 0, .inl 3, []),
    (.bipush 12, 1130, 0, 0, 0, 0, .inl 12, []),
    (.iastore, 1131, 0, 0, 0, 0, .inl 0, []),
    (.dup, 1132, 0, 0, 0, 0, .inl 0, []),
    (.iconst 4, 1133, 0, 0, 0, 0, .inl 4, []),
    (.iconst 0, 1134, 0, 0, 0, 0, .inl 0, []),
    (.iastore, 1135, 0, 0, 0, 0, .inl 0, []),
    (.dup, 1136, 0, 0, 0, 0, .inl 0, []),
    (.iconst 5, 1137, 0, 0, 0, 0, .inl 5, []),
    (.bipush 10, 1139, 0, 0, 0, 0, .inl 10, []),
    (.iastore, 1140, 0, 0, 0, 0, .inl 0, []),
    (.dup, 1141, 0, 0, 0, 0, .inl 0, []),
    (.bipush 6, 1143, 0, 0, 0, 0, .inl 6, []),
    (.bipush 6, 1145, 0, 0, 0, 0, .inl 6, []),
    (.iastore, 1146, 0, 0, 0, 0, .inl 0, []),
    (.dup, 1147, 0, 0, 0, 0, .inl 0, []),
    (.bipush 7, 1149, 0, 0, 0, 0, .inl 7, []),
    (.bipush 6, 1151, 0, 0, 0, 0, .inl 6, []),
    (.iastore, 1152, 0, 0, 0, 0, .inl 0, []),
    (.dup, 1153, 0, 0, 0, 0, .inl 0, []),
    (.bipush 8, 1155, 0, 0, 0, 0, .inl 8, []),
    (.iconst 0, 1156, 0, 0, 0, 0, .inl 0, []),
    (.iastore, 1157, 0, 0, 0, 0, .inl 0, []),
    (.putfield 26, 1160, 11, 14, 2, 1, .inl 0, []),
    (.aload_n 0, 1161, 0, 0, 0, 0, .inl 0, []),
    (.iconst 4, 1162, 0, 0, 0, 0, .inl 4, []),
    (.newarray .int, 1164, 13, 0, 0, 0, .inl 0, []),
    (.putfield 29, 1167, 11, 15, 2, 1, .inl 0, []),
    (.aload_n 0, 1168, 0, 0, 0, 0, .inl 0, []),
    (.iconst 4, 1169, 0, 0, 0, 0, .inl 4, []),
    (.newarray .int, 1171, 13, 0, 0, 0, .inl 0, []),
    (.putfield 32, 1174, 11, 16, 2, 1, .inl 0, []),
    (.aload_n 0, 1175, 0, 0, 0, 0, .inl 0, []),
    (.bipush 16, 1177, 0, 0, 0, 0, .inl 16, []),
    (.newarray .int, 1179, 13, 0, 0, 0, .inl 0, []),
    (.putfield 35, 1182, 11, 18, 2, 1, .inl 0, []),
    (.aload_n 0, 1183, 0, 0, 0, 0, .inl 0, []),
    (.bipush 16, 1185, 0, 0, 0, 0, .inl 16, []),
    (.newarray .int, 1187, 13, 0, 0, 0, .inl 0, []),
    (.putfield 38, 1190, 11, 19, 2, 1, .inl 0, []),
    (.aload_n 0, 1191, 0, 0, 0, 0, .inl 0, []),
    (.bipush 16, 1193, 0, 0, 0, 0, .inl 16, []),
    (.newarray .int, 1195, 13, 0, 0, 0, .inl 0, []),
    (.putfield 41, 1198, 11, 20, 2, 1, .inl 0, []),
    (.aload_n 0, 1199, 0, 0, 0, 0, .inl 0, []),
    (.bipush 20, 1201, 0, 0, 0, 0, .inl 20, []),
    (.newarray .int, 1203, 13, 0, 0, 0, .inl 0, []),
    (.putfield 44, 1206, 11, 21, 2, 1, .inl 0, []),
    (.aload_n 0, 1207, 0, 0, 0, 0, .inl 0, []),
    (.bipush 20, 1209, 0, 0, 0, 0, .inl 20, []),
    (.newarray .int, 1211, 13, 0, 0, 0, .inl 0, []),
    (.putfield 47, 1214, 11, 22, 2, 1, .inl 0, []),
    (.aload_n 0, 1215, 0, 0, 0, 0, .inl 0, []),
    (.bipush 20, 1217, 0, 0, 0, 0, .inl 20, []),
    (.newarray .int, 1219, 13, 0, 0, 0, .inl 0, []),
    (.putfield 50, 1222, 11, 23, 2, 1, .inl 0, []),
    (.aload_n 0, 1223, 0, 0, 0, 0, .inl 0, []),
    (.bipush 16, 1225, 0, 0, 0, 0, .inl 16, []),
    (.newarray .int, 1227, 13, 0, 0, 0, .inl 0, []),
    (.putfield 53, 1230, 11, 24, 2, 1, .inl 0, []),
    (.aload_n 0, 1231, 0, 0, 0, 0, .inl 0, []),
    (.bipush 16, 1233, 0, 0, 0, 0, .inl 16, []),
    (.newarray .int, 1235, 13, 0, 0, 0, .inl 0, []),
    (.putfield 56, 1238, 11, 25, 2, 1, .inl 0, []),
    (.aload_n 0, 1239, 0, 0, 0, 0, .inl 0, []),
    (.sipush 384, 1242, 0, 0, 0, 0, .inl 384, []),
    (.newarray .int, 1244, 13, 0, 0, 0, .inl 0, []),
    (.putfield 59, 1247, 11, 26, 2, 1, .inl 0, []),
    (.aload_n 0, 1248, 0, 0, 0, 0, .inl 0, []),
    (.sipush 180, 1251, 0, 0, 0, 0, .inl 180, []),
    (.newarray .int, 1253, 13, 0, 0, 0, .inl 0, []),
    (.putfield 62, 1256, 11, 27, 2, 1, .inl 0, []),
    (.aload_n 0, 1257, 0, 0, 0, 0, .inl 0, []),
    (.bipush 12, 1259, 0, 0, 0, 0, .inl 12, []),
    (.newarray .int, 1261, 13, 0, 0, 0, .inl 0, []),
    (.putfield 65, 1264, 11, 28, 2, 1, .inl 0, []),
    (.aload_n 0, 1265, 0, 0, 0, 0, .inl 0, []),
    (.bipush 12, 1267, 0, 0, 0, 0, .inl 12, []),
    (.newarray .int, 1269, 13, 0, 0, 0, .inl 0, []),
    (.putfield 68, 1272, 11, 29, 2, 1, .inl 0, []),
    (.aload_n 0, 1273, 0, 0, 0, 0, .inl 0, []),
    (.bipush 12, 1275, 0, 0, 0, 0, .inl 12, []),
    (.newarray .int, 1277, 13, 0, 0, 0, .inl 0, []),
    (.putfield 71, 1280, 11, 30, 2, 1, .inl 0, []),
    (.aload_n 0, 1281, 0, 0, 0, 0, .inl 0, []),
    (.bipush 12, 1283, 0, 0, 0, 0, .inl 12, []),
    (.newarray .int, 1285, 13, 0, 0, 0, .inl 0, []),
    (.putfield 74, 1288, 11, 31, 2, 1, .inl 0, []),
    (.aload_n 0, 1289, 0, 0, 0, 0, .inl 0, []),
    (.bipush 36, 1291, 0, 0, 0, 0, .inl 36, []),
    (.newarray .int, 1293, 13, 0, 0, 0, .inl 0, []),
    (.putfield 77, 1296, 11, 32, 2, 1, .inl 0, []),
    (.aload_n 0, 1297, 0, 0, 0, 0, .inl 0, []),
    (.sipush 128, 1300, 0, 0, 0, 0, .inl 128, []),
    (.newarray .int, 1302, 13, 0, 0, 0, .inl 0, []),
    (.putfield 80, 1305, 11, 33, 2, 1, .inl 0, []),
    (.aload_n 0, 1306, 0, 0, 0, 0, .inl 0, []),
    (.sipush 128, 1309, 0, 0, 0, 0, .inl 128, []),
    (.newarray .int, 1311, 13, 0, 0, 0, .inl 0, []),
    (.putfield 83, 1314, 11, 34, 2, 1, .inl 0, []),
    (.aload_n 0, 1315, 0, 0, 0, 0, .inl 0, []),
    (.sipush 128, 1318, 0, 0, 0, 0, .inl 128, []),
    (.newarray .int, 1320, 13, 0, 0, 0, .inl 0, []),
    (.putfield 86, 1323, 11, 35, 2, 1, .inl 0, []),
    (.aload_n 0, 1324, 0, 0, 0, 0, .inl 0, []),
    (.iconst (-1), 1325, 0, 0, 0, 0, .inl (-1), []),
    (.putfield 89, 1328, 11, 37, 0, 0, .inl 0, []),
    (.aload_n 0, 1329, 0, 0, 0, 0, .inl 0, []),
    (.bipush 96, 1331, 0, 0, 0, 0, .inl 96, []),
    (.newarray .int, 1333, 13, 0, 0, 0, .inl 0, []),
    (.putfield 92, 1336, 11, 38, 2, 1, .inl 0, []),
    (.aload_n 0, 1337, 0, 0, 0, 0, .inl 0, []),
    (.bipush 96, 1339, 0, 0, 0, 0, .inl 96, []),
    (.newarray .int, 1341, 13, 0, 0, 0, .inl 0, []),
    (.putfield 95, 1344, 11, 39, 2, 1, .inl 0, []),
    (.aload_n 0, 1345, 0, 0, 0, 0, .inl 0, []),
    (.bipush 6, 1347, 0, 0, 0, 0, .inl 6, []),
    (.newarray .long, 1349, 14, 0, 0, 0, .inl 0, []),
    (.putfield 98, 1352, 11, 46, 2, 1, .inl 0, []),
    (.aload_n 0, 1353, 0, 0, 0, 0, .inl 0, []),
    (.bipush 64, 1355, 0, 0, 0, 0, .inl 64, []),
    (.newarray .long, 1357, 14, 0, 0, 0, .inl 0, []),
    (.putfield 102, 1360, 11, 47, 2, 1, .inl 0, []),
    (.aload_n 0, 1361, 0, 0, 0, 0, .inl 0, []),
    (.bipush 12, 1363, 0, 0, 0, 0, .inl 12, []),
    (.newarray .int, 1365, 13, 0, 0, 0, .inl 0, []),
    (.putfield 105, 1368, 11, 52, 2, 1, .inl 0, []),
    (.aload_n 0, 1369, 0, 0, 0, 0, .inl 0, []),
    (.bipush 12, 1371, 0, 0, 0, 0, .inl 12, []),
    (.newarray .int, 1373, 13, 0, 0, 0, .inl 0, []),
    (.putfield 108, 1376, 11, 53, 2, 1, .inl 0, []),
    (.aload_n 0, 1377, 0, 0, 0, 0, .inl 0, []),
    (.bipush 120, 1379, 0, 0, 0, 0, .inl 120, []),
    (.newarray .int, 1381, 13, 0, 0, 0, .inl 0, []),
    (.putfield 111, 1384, 11, 55, 2, 1, .inl 0, []),
    (.aload_n 0, 1385, 0, 0, 0, 0, .inl 0, []),
    (.sipush 13312, 1388, 0, 0, 0, 0, .inl 13312, []),
    (.newarray .int, 1390, 13, 0, 0, 0, .inl 0, []),
    (.putfield 114, 1393, 11, 56, 2, 1, .inl 0, []),
    (.aload_n 0, 1394, 0, 0, 0, 0, .inl 0, []),
    (.bipush 12, 1396, 0, 0, 0, 0, .inl 12, []),
    (.newarray .int, 1398, 13, 0, 0, 0, .inl 0, []),
    (.putfield 117, 1401, 11, 57, 2, 1, .inl 0, []),
    (.aload_n 0, 1402, 0, 0, 0, 0, .inl 0, []),
    (.bipush 12, 1404, 0, 0, 0, 0, .inl 12, []),
    (.newarray .int, 1406, 13, 0, 0, 0, .inl 0, []),
    (.putfield 120, 1409, 11, 58, 2, 1, .inl 0, []),
    (.aload_n 0, 1410, 0, 0, 0, 0, .inl 0, []),
    (.invokevirtual 123, 1413, 188, 1, 2, 11, .inl 0, []),
    (.aload_n 0, 1414, 0, 0, 0, 0, .inl 0, []),
    (.invokevirtual 126, 1417, 190, 1, 2, 11, .inl 0, []),
    (.return_, 1418, 0, 0, 0, 0, .inl 0, [])])]
def gT_X12_init : gs_T := ([], gB_X12_init, [])
set_option maxRecDepth 100000 in
def gB_X12_thrown : List (Nat × List gs_N) := [(0, [(.aload_n 0, 1, 0, 0, 0, 0, .inl 0, []),
    (.getfield 129, 4, 11, 2, 0, 0, .inl 0, []),
    (.ireturn, 5, 0, 0, 0, 0, .inl 0, [])])]
def gT_X12_thrown : gs_T := ([], gB_X12_thrown, [])
set_option maxRecDepth 100000 in
def gB_X12_feed : List (Nat × List gs_N) := [(0, [(.aload_n 0, 1, 0, 0, 0, 0, .inl 0, []),
    (.iconst 0, 2, 0, 0, 0, 0, .inl 0, []),
    (.putfield 129, 5, 11, 2, 0, 0, .inl 0, []),
    (.aload_n 0, 6, 0, 0, 0, 0, .inl 0, []),
    (.getfield 132, 9, 11, 1, 0, 0, .inl 0, []),
    (.bipush 20, 11, 0, 0, 0, 0, .inl 20, []),
    (.iadd, 12, 0, 0, 0, 0, .inl 0, []),
    (.sipush 800, 15, 0, 0, 0, 0, .inl 800, []),
    (.if_icmp .le 5, 18, 20, 0, 0, 0, .inl 0, []),
    (.iconst (-1), 19, 0, 0, 0, 0, .inl (-1), []),
    (.ireturn, 20, 0, 0, 0, 0, .inl 0, [])]),
  (20, [(.iconst 0, 21, 0, 0, 0, 0, .inl 0, []),
    (.istore 6, 23, 6, 0, 0, 0, .inl 0, [])]),
  (23, [(.iload 6, 25, 6, 0, 0, 0, .inl 0, []),
    (.bipush 20, 27, 0, 0, 0, 0, .inl 20, []),
    (.if_icmp .ge 86, 30, 113, 0, 0, 0, .inl 0, []),
    (.iload 6, 32, 6, 0, 0, 0, .inl 0, []),
    (.iconst 4, 33, 0, 0, 0, 0, .inl 4, []),
    (.if_icmp .ge 7, 36, 40, 0, 0, 0, .inl 0, []),
    (.iload_n 1, 37, 1, 0, 0, 0, .inl 0, []),
    (.goto 39, 40, 76, 0, 0, 0, .inl 0, [])]),
  (40, [(.iload 6, 42, 6, 0, 0, 0, .inl 0, []),
    (.bipush 8, 44, 0, 0, 0, 0, .inl 8, []),
    (.if_icmp .ge 7, 47, 51, 0, 0, 0, .inl 0, []),
    (.iload_n 2, 48, 2, 0, 0, 0, .inl 0, []),
    (.goto 28, 51, 76, 0, 0, 0, .inl 0, [])]),
  (51, [(.iload 6, 53, 6, 0, 0, 0, .inl 0, []),
    (.bipush 12, 55, 0, 0, 0, 0, .inl 12, []),
    (.if_icmp .ge 7, 58, 62, 0, 0, 0, .inl 0, []),
    (.iload_n 3, 59, 3, 0, 0, 0, .inl 0, []),
    (.goto 17, 62, 76, 0, 0, 0, .inl 0, [])]),
  (62, [(.iload 6, 64, 6, 0, 0, 0, .inl 0, []),
    (.bipush 16, 66, 0, 0, 0, 0, .inl 16, []),
    (.if_icmp .ge 8, 69, 74, 0, 0, 0, .inl 0, []),
    (.iload 4, 71, 4, 0, 0, 0, .inl 0, []),
    (.goto 5, 74, 76, 0, 0, 0, .inl 0, [])]),
  (74, [(.iload 5, 76, 5, 0, 0, 0, .inl 0, [])]),
  (76, [(.istore 7, 78, 7, 0, 0, 0, .inl 0, []),
    (.aload_n 0, 79, 0, 0, 0, 0, .inl 0, []),
    (.getfield 7, 82, 11, 0, 2, 1, .inl 0, []),
    (.aload_n 0, 83, 0, 0, 0, 0, .inl 0, []),
    (.getfield 132, 86, 11, 1, 0, 0, .inl 0, []),
    (.iload 6, 88, 6, 0, 0, 0, .inl 0, []),
    (.iadd, 89, 0, 0, 0, 0, .inl 0, []),
    (.iload 7, 91, 7, 0, 0, 0, .inl 0, []),
    (.bipush 24, 93, 0, 0, 0, 0, .inl 24, []),
    (.bipush 8, 95, 0, 0, 0, 0, .inl 8, []),
    (.iload 6, 97, 6, 0, 0, 0, .inl 0, []),
    (.iconst 4, 98, 0, 0, 0, 0, .inl 4, []),
    (.irem, 99, 0, 0, 0, 0, .inl 0, []),
    (.imul, 100, 0, 0, 0, 0, .inl 0, []),
    (.isub, 101, 0, 0, 0, 0, .inl 0, []),
    (.ishr, 102, 0, 0, 0, 0, .inl 0, []),
    (.sipush 255, 105, 0, 0, 0, 0, .inl 255, []),
    (.iand, 106, 0, 0, 0, 0, .inl 0, []),
    (.iastore, 107, 0, 0, 0, 0, .inl 0, []),
    (.iinc 6 1, 110, 6, 0, 0, 0, .inl 1, []),
    (.goto (-87), 113, 23, 0, 0, 0, .inl 0, [])]),
  (113, [(.aload_n 0, 114, 0, 0, 0, 0, .inl 0, []),
    (.dup, 115, 0, 0, 0, 0, .inl 0, []),
    (.getfield 132, 118, 11, 1, 0, 0, .inl 0, []),
    (.bipush 20, 120, 0, 0, 0, 0, .inl 20, []),
    (.iadd, 121, 0, 0, 0, 0, .inl 0, []),
    (.putfield 132, 124, 11, 1, 0, 0, .inl 0, []),
    (.aload_n 0, 125, 0, 0, 0, 0, .inl 0, []),
    (.getfield 132, 128, 11, 1, 0, 0, .inl 0, []),
    (.ireturn, 129, 0, 0, 0, 0, .inl 0, [])])]
def gT_X12_feed : gs_T := ([], gB_X12_feed, [(23, [0, 1, 2, 3, 4, 5, 6])])
set_option maxRecDepth 100000 in
def gB_X12_isIn : List (Nat × List gs_N) := [(0, [(.iload_n 0, 1, 0, 0, 0, 0, .inl 0, []),
    (.iload_n 1, 2, 1, 0, 0, 0, .inl 0, []),
    (.if_icmp .lt 12, 5, 14, 0, 0, 0, .inl 0, []),
    (.iload_n 0, 6, 0, 0, 0, 0, .inl 0, []),
    (.iload_n 2, 7, 2, 0, 0, 0, .inl 0, []),
    (.if_icmp .gt 7, 10, 14, 0, 0, 0, .inl 0, []),
    (.iconst 1, 11, 0, 0, 0, 0, .inl 1, []),
    (.goto 4, 14, 15, 0, 0, 0, .inl 0, [])]),
  (14, [(.iconst 0, 15, 0, 0, 0, 0, .inl 0, [])]),
  (15, [(.ireturn, 16, 1, 0, 0, 0, .inl 0, [])])]
def gT_X12_isIn : gs_T := ([], gB_X12_isIn, [])
set_option maxRecDepth 100000 in
def gB_X12_isOf : List (Nat × List gs_N) := [(0, [(.iload_n 0, 1, 0, 0, 0, 0, .inl 0, []),
    (.iload_n 1, 2, 1, 0, 0, 0, .inl 0, []),
    (.ishr, 3, 0, 0, 0, 0, .inl 0, []),
    (.iconst 1, 4, 0, 0, 0, 0, .inl 1, []),
    (.iand, 5, 0, 0, 0, 0, .inl 0, []),
    (.iconst 1, 6, 0, 0, 0, 0, .inl 1, []),
    (.if_icmp .ne 7, 9, 13, 0, 0, 0, .inl 0, []),
    (.iconst 1, 10, 0, 0, 0, 0, .inl 1, []),
    (.goto 4, 13, 14, 0, 0, 0, .inl 0, [])]),
  (13, [(.iconst 0, 14, 0, 0, 0, 0, .inl 0, [])]),
  (14, [(.ireturn, 15, 1, 0, 0, 0, .inl 0, [])])]
def gT_X12_isOf : gs_T := ([], gB_X12_isOf, [])
set_option maxRecDepth 100000 in
def gB_X12_sizeOf : List (Nat × List gs_N) := [(0, [(.iload_n 0, 1, 0, 0, 0, 0, .inl 0, []),
    (.ifCond .ge 8, 4, 9, 0, 0, 0, .inl 0, []),
    (.iload_n 0, 5, 0, 0, 0, 0, .inl 0, []),
    (.ineg, 6, 0, 0, 0, 0, .inl 0, []),
    (.goto 4, 9, 10, 0, 0, 0, .inl 0, [])]),
  (9, [(.iload_n 0, 10, 0, 0, 0, 0, .inl 0, [])]),
  (10, [(.ireturn, 11, 0, 0, 0, 0, .inl 0, [])])]
def gT_X12_sizeOf : gs_T := ([], gB_X12_sizeOf, [])
set_option maxRecDepth 100000 in
def gB_X12_wrong : List (Nat × List gs_N) := [(0, [(.aload_n 0, 1, 0, 0, 0, 0, .inl 0, []),
    (.iload_n 1, 2, 1, 0, 0, 0, .inl 0, []),
    (.putfield 135, 5, 11, 4, 0, 0, .inl 0, []),
    (.aload_n 0, 6, 0, 0, 0, 0, .inl 0, []),
    (.aload_n 0, 7, 0, 0, 0, 0, .inl 0, []),
    (.getfield 138, 10, 11, 10, 0, 0, .inl 0, []),
    (.putfield 16, 13, 11, 5, 0, 0, .inl 0, []),
    (.iconst 0, 14, 0, 0, 0, 0, .inl 0, []),
    (.ireturn, 15, 1, 0, 0, 0, .inl 0, [])])]
def gT_X12_wrong : gs_T := ([], gB_X12_wrong, [])
set_option maxRecDepth 100000 in
def gB_X12_wordAt : List (Nat × List gs_N) := [(0, [(.iconst 0, 1, 0, 0, 0, 0, .inl 0, []),
    (.istore_n 3, 2, 3, 0, 0, 0, .inl 0, []),
    (.iconst 0, 3, 0, 0, 0, 0, .inl 0, []),
    (.istore 4, 5, 4, 0, 0, 0, .inl 0, [])]),
  (5, [(.iload 4, 7, 4, 0, 0, 0, .inl 0, []),
    (.aload_n 0, 8, 0, 0, 0, 0, .inl 0, []),
    (.getfield 13, 11, 11, 3, 2, 1, .inl 0, []),
    (.arraylength, 12, 0, 0, 0, 0, .inl 0, []),
    (.if_icmp .ge 114, 15, 126, 0, 0, 0, .inl 0, []),
    (.iconst 0, 16, 0, 0, 0, 0, .inl 0, []),
    (.istore 5, 18, 5, 0, 0, 0, .inl 0, [])]),
  (18, [(.aload_n 0, 19, 0, 0, 0, 0, .inl 0, []),
    (.getfield 13, 22, 11, 3, 2, 1, .inl 0, []),
    (.iload 4, 24, 4, 0, 0, 0, .inl 0, []),
    (.iload 5, 26, 5, 0, 0, 0, .inl 0, []),
    (.iadd, 27, 0, 0, 0, 0, .inl 0, []),
    (.iaload, 28, 0, 0, 0, 0, .inl 0, []),
    (.bipush 32, 30, 0, 0, 0, 0, .inl 32, []),
    (.if_icmp .eq 9, 33, 39, 0, 0, 0, .inl 0, []),
    (.iinc 5 1, 36, 5, 0, 0, 0, .inl 1, []),
    (.goto (-18), 39, 18, 0, 0, 0, .inl 0, [])]),
  (39, [(.iload 5, 41, 5, 0, 0, 0, .inl 0, []),
    (.iload_n 2, 42, 2, 0, 0, 0, .inl 0, []),
    (.iload_n 1, 43, 1, 0, 0, 0, .inl 0, []),
    (.isub, 44, 0, 0, 0, 0, .inl 0, []),
    (.if_icmp .ne 7, 47, 51, 0, 0, 0, .inl 0, []),
    (.iconst 1, 48, 0, 0, 0, 0, .inl 1, []),
    (.goto 4, 51, 52, 0, 0, 0, .inl 0, [])]),
  (51, [(.iconst 0, 52, 0, 0, 0, 0, .inl 0, [])]),
  (52, [(.istore 6, 54, 6, 0, 0, 0, .inl 0, []),
    (.iconst 0, 55, 0, 0, 0, 0, .inl 0, []),
    (.istore 7, 57, 7, 0, 0, 0, .inl 0, [])]),
  (57, [(.iload 7, 59, 7, 0, 0, 0, .inl 0, []),
    (.iload 5, 61, 5, 0, 0, 0, .inl 0, []),
    (.if_icmp .ge 43, 64, 104, 0, 0, 0, .inl 0, []),
    (.iload 6, 66, 6, 0, 0, 0, .inl 0, []),
    (.ifCond .eq 38, 69, 104, 0, 0, 0, .inl 0, []),
    (.aload_n 0, 70, 0, 0, 0, 0, .inl 0, []),
    (.getfield 13, 73, 11, 3, 2, 1, .inl 0, []),
    (.iload 4, 75, 4, 0, 0, 0, .inl 0, []),
    (.iload 7, 77, 7, 0, 0, 0, .inl 0, []),
    (.iadd, 78, 0, 0, 0, 0, .inl 0, []),
    (.iaload, 79, 0, 0, 0, 0, .inl 0, []),
    (.aload_n 0, 80, 0, 0, 0, 0, .inl 0, []),
    (.getfield 7, 83, 11, 0, 2, 1, .inl 0, []),
    (.iload_n 1, 84, 1, 0, 0, 0, .inl 0, []),
    (.iload 7, 86, 7, 0, 0, 0, .inl 0, []),
    (.iadd, 87, 0, 0, 0, 0, .inl 0, []),
    (.iaload, 88, 0, 0, 0, 0, .inl 0, []),
    (.if_icmp .ne 7, 91, 95, 0, 0, 0, .inl 0, []),
    (.iconst 1, 92, 0, 0, 0, 0, .inl 1, []),
    (.goto 4, 95, 96, 0, 0, 0, .inl 0, [])]),
  (95, [(.iconst 0, 96, 0, 0, 0, 0, .inl 0, [])]),
  (96, [(.istore 6, 98, 6, 0, 0, 0, .inl 0, []),
    (.iinc 7 1, 101, 7, 0, 0, 0, .inl 1, []),
    (.goto (-44), 104, 57, 0, 0, 0, .inl 0, [])]),
  (104, [(.iload 6, 106, 6, 0, 0, 0, .inl 0, []),
    (.ifCond .eq 5, 109, 111, 0, 0, 0, .inl 0, []),
    (.iload_n 3, 110, 3, 0, 0, 0, .inl 0, []),
    (.ireturn, 111, 0, 0, 0, 0, .inl 0, [])]),
  (111, [(.iload 4, 113, 4, 0, 0, 0, .inl 0, []),
    (.iload 5, 115, 5, 0, 0, 0, .inl 0, []),
    (.iconst 1, 116, 0, 0, 0, 0, .inl 1, []),
    (.iadd, 117, 0, 0, 0, 0, .inl 0, []),
    (.iadd, 118, 0, 0, 0, 0, .inl 0, []),
    (.istore 4, 120, 4, 0, 0, 0, .inl 0, []),
    (.iinc 3 1, 123, 3, 0, 0, 0, .inl 1, []),
    (.goto (-118), 126, 5, 0, 0, 0, .inl 0, [])]),
  (126, [(.iconst (-1), 127, 0, 0, 0, 0, .inl (-1), []),
    (.ireturn, 128, 0, 0, 0, 0, .inl 0, [])])]
def gT_X12_wordAt : gs_T := ([], gB_X12_wordAt, [(5, [0, 1, 2, 3, 4]), (18, [0, 1, 2, 3, 4, 5]), (57, [0, 1, 2, 3, 4, 5, 6, 7])])
set_option maxRecDepth 100000 in
def gB_X12_isSmall : List (Nat × List gs_N) := [(0, [(.iload_n 1, 1, 1, 0, 0, 0, .inl 0, []),
    (.aload_n 0, 2, 0, 0, 0, 0, .inl 0, []),
    (.getfield 141, 5, 11, 6, 0, 0, .inl 0, []),
    (.if_icmp .ge 29, 8, 34, 0, 0, 0, .inl 0, []),
    (.aload_n 0, 9, 0, 0, 0, 0, .inl 0, []),
    (.getfield 7, 12, 11, 0, 2, 1, .inl 0, []),
    (.iload_n 1, 13, 1, 0, 0, 0, .inl 0, []),
    (.iaload, 14, 0, 0, 0, 0, .inl 0, []),
    (.bipush 97, 16, 0, 0, 0, 0, .inl 97, []),
    (.if_icmp .lt 18, 19, 34, 0, 0, 0, .inl 0, []),
    (.aload_n 0, 20, 0, 0, 0, 0, .inl 0, []),
    (.getfield 7, 23, 11, 0, 2, 1, .inl 0, []),
    (.iload_n 1, 24, 1, 0, 0, 0, .inl 0, []),
    (.iaload, 25, 0, 0, 0, 0, .inl 0, []),
    (.bipush 122, 27, 0, 0, 0, 0, .inl 122, []),
    (.if_icmp .gt 7, 30, 34, 0, 0, 0, .inl 0, []),
    (.iconst 1, 31, 0, 0, 0, 0, .inl 1, []),
    (.goto 4, 34, 35, 0, 0, 0, .inl 0, [])]),
  (34, [(.iconst 0, 35, 0, 0, 0, 0, .inl 0, [])]),
  (35, [(.ireturn, 36, 1, 0, 0, 0, .inl 0, [])])]
def gT_X12_isSmall : gs_T := ([], gB_X12_isSmall, [])
set_option maxRecDepth 100000 in
def gB_X12_isDigit : List (Nat × List gs_N) := [(0, [(.iload_n 1, 1, 1, 0, 0, 0, .inl 0, []),
    (.aload_n 0, 2, 0, 0, 0, 0, .inl 0, []),
    (.getfield 141, 5, 11, 6, 0, 0, .inl 0, []),
    (.if_icmp .ge 29, 8, 34, 0, 0, 0, .inl 0, []),
    (.aload_n 0, 9, 0, 0, 0, 0, .inl 0, []),
    (.getfield 7, 12, 11, 0, 2, 1, .inl 0, []),
    (.iload_n 1, 13, 1, 0, 0, 0, .inl 0, []),
    (.iaload, 14, 0, 0, 0, 0, .inl 0, []),
    (.bipush 48, 16, 0, 0, 0, 0, .inl 48, []),
    (.if_icmp .lt 18, 19, 34, 0, 0, 0, .inl 0, []),
    (.aload_n 0, 20, 0, 0, 0, 0, .inl 0, []),
    (.getfield 7, 23, 11, 0, 2, 1, .inl 0, []),
    (.iload_n 1, 24, 1, 0, 0, 0, .inl 0, []),
    (.iaload, 25, 0, 0, 0, 0, .inl 0, []),
    (.bipush 57, 27, 0, 0, 0, 0, .inl 57, []),
    (.if_icmp .gt 7, 30, 34, 0, 0, 0, .inl 0, []),
    (.iconst 1, 31, 0, 0, 0, 0, .inl 1, []),
    (.goto 4, 34, 35, 0, 0, 0, .inl 0, [])]),
  (34, [(.iconst 0, 35, 0, 0, 0, 0, .inl 0, [])]),
  (35, [(.ireturn, 36, 1, 0, 0, 0, .inl 0, [])])]
def gT_X12_isDigit : gs_T := ([], gB_X12_isDigit, [])
set_option maxRecDepth 100000 in
def gB_X12_take : List (Nat × List gs_N) := [(0, [(.aload_n 0, 1, 0, 0, 0, 0, .inl 0, []),
    (.getfield 144, 4, 11, 7, 0, 0, .inl 0, []),
    (.aload_n 0, 5, 0, 0, 0, 0, .inl 0, []),
    (.getfield 141, 8, 11, 6, 0, 0, .inl 0, []),
    (.if_icmp .ge 44, 11, 52, 0, 0, 0, .inl 0, []),
    (.aload_n 0, 12, 0, 0, 0, 0, .inl 0, []),
    (.getfield 7, 15, 11, 0, 2, 1, .inl 0, []),
    (.aload_n 0, 16, 0, 0, 0, 0, .inl 0, []),
    (.getfield 144, 19, 11, 7, 0, 0, .inl 0, []),
    (.iaload, 20, 0, 0, 0, 0, .inl 0, []),
    (.bipush 10, 22, 0, 0, 0, 0, .inl 10, []),
    (.if_icmp .eq 17, 25, 39, 0, 0, 0, .inl 0, []),
    (.aload_n 0, 26, 0, 0, 0, 0, .inl 0, []),
    (.getfield 7, 29, 11, 0, 2, 1, .inl 0, []),
    (.aload_n 0, 30, 0, 0, 0, 0, .inl 0, []),
    (.getfield 144, 33, 11, 7, 0, 0, .inl 0, []),
    (.iaload, 34, 0, 0, 0, 0, .inl 0, []),
    (.bipush 32, 36, 0, 0, 0, 0, .inl 32, []),
    (.if_icmp .ne 16, 39, 52, 0, 0, 0, .inl 0, [])]),
  (39, [(.aload_n 0, 40, 0, 0, 0, 0, .inl 0, []),
    (.dup, 41, 0, 0, 0, 0, .inl 0, []),
    (.getfield 144, 44, 11, 7, 0, 0, .inl 0, []),
    (.iconst 1, 45, 0, 0, 0, 0, .inl 1, []),
    (.iadd, 46, 0, 0, 0, 0, .inl 0, []),
    (.putfield 144, 49, 11, 7, 0, 0, .inl 0, []),
    (.goto (-49), 52, 0, 0, 0, 0, .inl 0, [])]),
  (52, [(.aload_n 0, 53, 0, 0, 0, 0, .inl 0, []),
    (.aload_n 0, 54, 0, 0, 0, 0, .inl 0, []),
    (.getfield 144, 57, 11, 7, 0, 0, .inl 0, []),
    (.putfield 138, 60, 11, 10, 0, 0, .inl 0, []),
    (.aload_n 0, 61, 0, 0, 0, 0, .inl 0, []),
    (.getfield 144, 64, 11, 7, 0, 0, .inl 0, []),
    (.aload_n 0, 65, 0, 0, 0, 0, .inl 0, []),
    (.getfield 141, 68, 11, 6, 0, 0, .inl 0, []),
    (.if_icmp .ne 11, 71, 79, 0, 0, 0, .inl 0, []),
    (.aload_n 0, 72, 0, 0, 0, 0, .inl 0, []),
    (.iconst 0, 73, 0, 0, 0, 0, .inl 0, []),
    (.putfield 147, 76, 11, 8, 0, 0, .inl 0, []),
    (.goto 206, 79, 282, 0, 0, 0, .inl 0, [])]),
  (79, [(.aload_n 0, 80, 0, 0, 0, 0, .inl 0, []),
    (.aload_n 0, 81, 0, 0, 0, 0, .inl 0, []),
    (.getfield 144, 84, 11, 7, 0, 0, .inl 0, []),
    (.invokevirtual 150, 87, 180, 2, 0, 11, .inl 0, []),
    (.ifCond .eq 105, 90, 192, 0, 0, 0, .inl 0, [])]),
  (90, [(.aload_n 0, 91, 0, 0, 0, 0, .inl 0, []),
    (.aload_n 0, 92, 0, 0, 0, 0, .inl 0, []),
    (.getfield 144, 95, 11, 7, 0, 0, .inl 0, []),
    (.invokevirtual 150, 98, 180, 2, 0, 11, .inl 0, []),
    (.ifCond .eq 16, 101, 114, 0, 0, 0, .inl 0, []),
    (.aload_n 0, 102, 0, 0, 0, 0, .inl 0, []),
    (.dup, 103, 0, 0, 0, 0, .inl 0, []),
    (.getfield 144, 106, 11, 7, 0, 0, .inl 0, []),
    (.iconst 1, 107, 0, 0, 0, 0, .inl 1, []),
    (.iadd, 108, 0, 0, 0, 0, .inl 0, []),
    (.putfield 144, 111, 11, 7, 0, 0, .inl 0, []),
    (.goto (-21), 114, 90, 0, 0, 0, .inl 0, [])]),
  (114, [(.aload_n 0, 115, 0, 0, 0, 0, .inl 0, []),
    (.aload_n 0, 116, 0, 0, 0, 0, .inl 0, []),
    (.aload_n 0, 117, 0, 0, 0, 0, .inl 0, []),
    (.getfield 138, 120, 11, 10, 0, 0, .inl 0, []),
    (.aload_n 0, 121, 0, 0, 0, 0, .inl 0, []),
    (.getfield 144, 124, 11, 7, 0, 0, .inl 0, []),
    (.invokevirtual 154, 127, 179, 3, 0, 11, .inl 0, []),
    (.putfield 158, 130, 11, 9, 0, 0, .inl 0, []),
    (.aload_n 0, 131, 0, 0, 0, 0, .inl 0, []),
    (.aload_n 0, 132, 0, 0, 0, 0, .inl 0, []),
    (.getfield 158, 135, 11, 9, 0, 0, .inl 0, []),
    (.ifCond .lt 7, 138, 142, 0, 0, 0, .inl 0, []),
    (.iconst 1, 139, 0, 0, 0, 0, .inl 1, []),
    (.goto 23, 142, 162, 0, 0, 0, .inl 0, [])]),
  (142, [(.aload_n 0, 143, 0, 0, 0, 0, .inl 0, []),
    (.getfield 144, 146, 11, 7, 0, 0, .inl 0, []),
    (.aload_n 0, 147, 0, 0, 0, 0, .inl 0, []),
    (.getfield 138, 150, 11, 10, 0, 0, .inl 0, []),
    (.isub, 151, 0, 0, 0, 0, .inl 0, []),
    (.bipush 6, 153, 0, 0, 0, 0, .inl 6, []),
    (.if_icmp .le 8, 156, 161, 0, 0, 0, .inl 0, []),
    (.bipush 6, 158, 0, 0, 0, 0, .inl 6, []),
    (.goto 4, 161, 162, 0, 0, 0, .inl 0, [])]),
  (161, [(.iconst 2, 162, 0, 0, 0, 0, .inl 2, [])]),
  (162, [(.putfield 147, 165, 11, 8, 0, 0, .inl 0, []),
    (.aload_n 0, 166, 0, 0, 0, 0, .inl 0, []),
    (.getfield 147, 169, 11, 8, 0, 0, .inl 0, []),
    (.iconst 2, 170, 0, 0, 0, 0, .inl 2, []),
    (.if_icmp .ne 112, 173, 282, 0, 0, 0, .inl 0, []),
    (.aload_n 0, 174, 0, 0, 0, 0, .inl 0, []),
    (.aload_n 0, 175, 0, 0, 0, 0, .inl 0, []),
    (.aload_n 0, 176, 0, 0, 0, 0, .inl 0, []),
    (.getfield 138, 179, 11, 10, 0, 0, .inl 0, []),
    (.aload_n 0, 180, 0, 0, 0, 0, .inl 0, []),
    (.getfield 144, 183, 11, 7, 0, 0, .inl 0, []),
    (.invokevirtual 161, 186, 184, 3, 0, 11, .inl 0, []),
    (.putfield 158, 189, 11, 9, 0, 0, .inl 0, []),
    (.goto 93, 192, 282, 0, 0, 0, .inl 0, [])]),
  (192, [(.aload_n 0, 193, 0, 0, 0, 0, .inl 0, []),
    (.aload_n 0, 194, 0, 0, 0, 0, .inl 0, []),
    (.getfield 144, 197, 11, 7, 0, 0, .inl 0, []),
    (.invokevirtual 164, 200, 181, 2, 0, 11, .inl 0, []),
    (.ifCond .eq 78, 203, 278, 0, 0, 0, .inl 0, []),
    (.aload_n 0, 204, 0, 0, 0, 0, .inl 0, []),
    (.iconst 3, 205, 0, 0, 0, 0, .inl 3, []),
    (.putfield 147, 208, 11, 8, 0, 0, .inl 0, []),
    (.aload_n 0, 209, 0, 0, 0, 0, .inl 0, []),
    (.iconst 0, 210, 0, 0, 0, 0, .inl 0, []),
    (.putfield 158, 213, 11, 9, 0, 0, .inl 0, [])]),
  (213, [(.aload_n 0, 214, 0, 0, 0, 0, .inl 0, []),
    (.aload_n 0, 215, 0, 0, 0, 0, .inl 0, []),
    (.getfield 144, 218, 11, 7, 0, 0, .inl 0, []),
    (.invokevirtual 164, 221, 181, 2, 0, 11, .inl 0, []),
    (.ifCond .eq 61, 224, 282, 0, 0, 0, .inl 0, []),
    (.aload_n 0, 225, 0, 0, 0, 0, .inl 0, []),
    (.aload_n 0, 226, 0, 0, 0, 0, .inl 0, []),
    (.getfield 158, 229, 11, 9, 0, 0, .inl 0, []),
    (.sipush 9999, 232, 0, 0, 0, 0, .inl 9999, []),
    (.if_icmp .le 10, 235, 242, 0, 0, 0, .inl 0, []),
    (.aload_n 0, 236, 0, 0, 0, 0, .inl 0, []),
    (.getfield 158, 239, 11, 9, 0, 0, .inl 0, []),
    (.goto 23, 242, 262, 0, 0, 0, .inl 0, [])]),
  (242, [(.bipush 10, 244, 0, 0, 0, 0, .inl 10, []),
    (.aload_n 0, 245, 0, 0, 0, 0, .inl 0, []),
    (.getfield 158, 248, 11, 9, 0, 0, .inl 0, []),
    (.imul, 249, 0, 0, 0, 0, .inl 0, []),
    (.aload_n 0, 250, 0, 0, 0, 0, .inl 0, []),
    (.getfield 7, 253, 11, 0, 2, 1, .inl 0, []),
    (.aload_n 0, 254, 0, 0, 0, 0, .inl 0, []),
    (.getfield 144, 257, 11, 7, 0, 0, .inl 0, []),
    (.iaload, 258, 0, 0, 0, 0, .inl 0, []),
    (.iadd, 259, 0, 0, 0, 0, .inl 0, []),
    (.bipush 48, 261, 0, 0, 0, 0, .inl 48, []),
    (.isub, 262, 0, 0, 0, 0, .inl 0, [])]),
  (262, [(.putfield 158, 265, 11, 9, 0, 0, .inl 0, []),
    (.aload_n 0, 266, 0, 0, 0, 0, .inl 0, []),
    (.dup, 267, 0, 0, 0, 0, .inl 0, []),
    (.getfield 144, 270, 11, 7, 0, 0, .inl 0, []),
    (.iconst 1, 271, 0, 0, 0, 0, .inl 1, []),
    (.iadd, 272, 0, 0, 0, 0, .inl 0, []),
    (.putfield 144, 275, 11, 7, 0, 0, .inl 0, []),
    (.goto (-62), 278, 213, 0, 0, 0, .inl 0, [])]),
  (278, [(.aload_n 0, 279, 0, 0, 0, 0, .inl 0, []),
    (.invokevirtual 167, 282, 183, 1, 2, 11, .inl 0, [])]),
  (282, [(.return_, 283, 0, 0, 0, 0, .inl 0, [])])]
def gT_X12_take : gs_T := ([], gB_X12_take, [(0, [0]), (90, [0]), (213, [0])])
set_option maxRecDepth 100000 in
def gB_X12_takeSign : List (Nat × List gs_N) := [(0, [(.aload_n 0, 1, 0, 0, 0, 0, .inl 0, []),
    (.aload_n 0, 2, 0, 0, 0, 0, .inl 0, []),
    (.getfield 7, 5, 11, 0, 2, 1, .inl 0, []),
    (.aload_n 0, 6, 0, 0, 0, 0, .inl 0, []),
    (.getfield 144, 9, 11, 7, 0, 0, .inl 0, []),
    (.iaload, 10, 0, 0, 0, 0, .inl 0, []),
    (.putfield 158, 13, 11, 9, 0, 0, .inl 0, []),
    (.aload_n 0, 14, 0, 0, 0, 0, .inl 0, []),
    (.dup, 15, 0, 0, 0, 0, .inl 0, []),
    (.getfield 144, 18, 11, 7, 0, 0, .inl 0, []),
    (.iconst 1, 19, 0, 0, 0, 0, .inl 1, []),
    (.iadd, 20, 0, 0, 0, 0, .inl 0, []),
    (.putfield 144, 23, 11, 7, 0, 0, .inl 0, []),
    (.aload_n 0, 24, 0, 0, 0, 0, .inl 0, []),
    (.getfield 158, 27, 11, 9, 0, 0, .inl 0, []),
    (.bipush 60, 29, 0, 0, 0, 0, .inl 60, []),
    (.if_icmp .eq 21, 32, 50, 0, 0, 0, .inl 0, []),
    (.aload_n 0, 33, 0, 0, 0, 0, .inl 0, []),
    (.getfield 158, 36, 11, 9, 0, 0, .inl 0, []),
    (.bipush 62, 38, 0, 0, 0, 0, .inl 62, []),
    (.if_icmp .eq 12, 41, 50, 0, 0, 0, .inl 0, []),
    (.aload_n 0, 42, 0, 0, 0, 0, .inl 0, []),
    (.getfield 158, 45, 11, 9, 0, 0, .inl 0, []),
    (.bipush 61, 47, 0, 0, 0, 0, .inl 61, []),
    (.if_icmp .ne 151, 50, 198, 0, 0, 0, .inl 0, [])]),
  (50, [(.aload_n 0, 51, 0, 0, 0, 0, .inl 0, []),
    (.getfield 144, 54, 11, 7, 0, 0, .inl 0, []),
    (.aload_n 0, 55, 0, 0, 0, 0, .inl 0, []),
    (.getfield 141, 58, 11, 6, 0, 0, .inl 0, []),
    (.if_icmp .ge 15, 61, 73, 0, 0, 0, .inl 0, []),
    (.aload_n 0, 62, 0, 0, 0, 0, .inl 0, []),
    (.getfield 7, 65, 11, 0, 2, 1, .inl 0, []),
    (.aload_n 0, 66, 0, 0, 0, 0, .inl 0, []),
    (.getfield 144, 69, 11, 7, 0, 0, .inl 0, []),
    (.iaload, 70, 0, 0, 0, 0, .inl 0, []),
    (.goto 4, 73, 74, 0, 0, 0, .inl 0, [])]),
  (73, [(.iconst 0, 74, 0, 0, 0, 0, .inl 0, [])]),
  (74, [(.istore_n 1, 75, 1, 0, 0, 0, .inl 0, []),
    (.aload_n 0, 76, 0, 0, 0, 0, .inl 0, []),
    (.getfield 158, 79, 11, 9, 0, 0, .inl 0, []),
    (.bipush 61, 81, 0, 0, 0, 0, .inl 61, []),
    (.if_icmp .eq 13, 84, 94, 0, 0, 0, .inl 0, []),
    (.iload_n 1, 85, 1, 0, 0, 0, .inl 0, []),
    (.bipush 61, 87, 0, 0, 0, 0, .inl 61, []),
    (.if_icmp .ne 7, 90, 94, 0, 0, 0, .inl 0, []),
    (.iconst 1, 91, 0, 0, 0, 0, .inl 1, []),
    (.goto 4, 94, 95, 0, 0, 0, .inl 0, [])]),
  (94, [(.iconst 0, 95, 0, 0, 0, 0, .inl 0, [])]),
  (95, [(.istore_n 2, 96, 2, 0, 0, 0, .inl 0, []),
    (.aload_n 0, 97, 0, 0, 0, 0, .inl 0, []),
    (.getfield 158, 100, 11, 9, 0, 0, .inl 0, []),
    (.bipush 60, 102, 0, 0, 0, 0, .inl 60, []),
    (.if_icmp .ne 13, 105, 115, 0, 0, 0, .inl 0, []),
    (.iload_n 1, 106, 1, 0, 0, 0, .inl 0, []),
    (.bipush 62, 108, 0, 0, 0, 0, .inl 62, []),
    (.if_icmp .ne 7, 111, 115, 0, 0, 0, .inl 0, []),
    (.iconst 1, 112, 0, 0, 0, 0, .inl 1, []),
    (.goto 4, 115, 116, 0, 0, 0, .inl 0, [])]),
  (115, [(.iconst 0, 116, 0, 0, 0, 0, .inl 0, [])]),
  (116, [(.istore_n 3, 117, 3, 0, 0, 0, .inl 0, []),
    (.iload_n 2, 118, 2, 0, 0, 0, .inl 0, []),
    (.ifCond .ne 7, 121, 125, 0, 0, 0, .inl 0, []),
    (.iload_n 3, 122, 3, 0, 0, 0, .inl 0, []),
    (.ifCond .eq 13, 125, 135, 0, 0, 0, .inl 0, [])]),
  (125, [(.aload_n 0, 126, 0, 0, 0, 0, .inl 0, []),
    (.dup, 127, 0, 0, 0, 0, .inl 0, []),
    (.getfield 144, 130, 11, 7, 0, 0, .inl 0, []),
    (.iconst 1, 131, 0, 0, 0, 0, .inl 1, []),
    (.iadd, 132, 0, 0, 0, 0, .inl 0, []),
    (.putfield 144, 135, 11, 7, 0, 0, .inl 0, [])]),
  (135, [(.aload_n 0, 136, 0, 0, 0, 0, .inl 0, []),
    (.iconst 5, 137, 0, 0, 0, 0, .inl 5, []),
    (.putfield 147, 140, 11, 8, 0, 0, .inl 0, []),
    (.aload_n 0, 141, 0, 0, 0, 0, .inl 0, []),
    (.aload_n 0, 142, 0, 0, 0, 0, .inl 0, []),
    (.getfield 158, 145, 11, 9, 0, 0, .inl 0, []),
    (.bipush 61, 147, 0, 0, 0, 0, .inl 61, []),
    (.if_icmp .ne 7, 150, 154, 0, 0, 0, .inl 0, []),
    (.iconst 2, 151, 0, 0, 0, 0, .inl 2, []),
    (.goto 41, 154, 192, 0, 0, 0, .inl 0, [])]),
  (154, [(.aload_n 0, 155, 0, 0, 0, 0, .inl 0, []),
    (.getfield 158, 158, 11, 9, 0, 0, .inl 0, []),
    (.bipush 60, 160, 0, 0, 0, 0, .inl 60, []),
    (.if_icmp .ne 23, 163, 183, 0, 0, 0, .inl 0, []),
    (.iload_n 2, 164, 2, 0, 0, 0, .inl 0, []),
    (.ifCond .eq 7, 167, 171, 0, 0, 0, .inl 0, []),
    (.iconst 1, 168, 0, 0, 0, 0, .inl 1, []),
    (.goto 24, 171, 192, 0, 0, 0, .inl 0, [])]),
  (171, [(.iload_n 3, 172, 3, 0, 0, 0, .inl 0, []),
    (.ifCond .eq 7, 175, 179, 0, 0, 0, .inl 0, []),
    (.iconst 3, 176, 0, 0, 0, 0, .inl 3, []),
    (.goto 16, 179, 192, 0, 0, 0, .inl 0, [])]),
  (179, [(.iconst 0, 180, 0, 0, 0, 0, .inl 0, []),
    (.goto 12, 183, 192, 0, 0, 0, .inl 0, [])]),
  (183, [(.iload_n 2, 184, 2, 0, 0, 0, .inl 0, []),
    (.ifCond .eq 7, 187, 191, 0, 0, 0, .inl 0, []),
    (.iconst 4, 188, 0, 0, 0, 0, .inl 4, []),
    (.goto 4, 191, 192, 0, 0, 0, .inl 0, [])]),
  (191, [(.iconst 5, 192, 0, 0, 0, 0, .inl 5, [])]),
  (192, [(.putfield 158, 195, 11, 9, 0, 0, .inl 0, []),
    (.goto 86, 198, 281, 0, 0, 0, .inl 0, [])]),
  (198, [(.aload_n 0, 199, 0, 0, 0, 0, .inl 0, []),
    (.getfield 158, 202, 11, 9, 0, 0, .inl 0, []),
    (.bipush 59, 204, 0, 0, 0, 0, .inl 59, []),
    (.if_icmp .eq 57, 207, 261, 0, 0, 0, .inl 0, []),
    (.aload_n 0, 208, 0, 0, 0, 0, .inl 0, []),
    (.getfield 158, 211, 11, 9, 0, 0, .inl 0, []),
    (.bipush 40, 213, 0, 0, 0, 0, .inl 40, []),
    (.if_icmp .eq 48, 216, 261, 0, 0, 0, .inl 0, []),
    (.aload_n 0, 217, 0, 0, 0, 0, .inl 0, []),
    (.getfield 158, 220, 11, 9, 0, 0, .inl 0, []),
    (.bipush 41, 222, 0, 0, 0, 0, .inl 41, []),
    (.if_icmp .eq 39, 225, 261, 0, 0, 0, .inl 0, []),
    (.aload_n 0, 226, 0, 0, 0, 0, .inl 0, []),
    (.getfield 158, 229, 11, 9, 0, 0, .inl 0, []),
    (.bipush 43, 231, 0, 0, 0, 0, .inl 43, []),
    (.if_icmp .eq 30, 234, 261, 0, 0, 0, .inl 0, []),
    (.aload_n 0, 235, 0, 0, 0, 0, .inl 0, []),
    (.getfield 158, 238, 11, 9, 0, 0, .inl 0, []),
    (.bipush 45, 240, 0, 0, 0, 0, .inl 45, []),
    (.if_icmp .eq 21, 243, 261, 0, 0, 0, .inl 0, []),
    (.aload_n 0, 244, 0, 0, 0, 0, .inl 0, []),
    (.getfield 158, 247, 11, 9, 0, 0, .inl 0, []),
    (.bipush 42, 249, 0, 0, 0, 0, .inl 42, []),
    (.if_icmp .eq 12, 252, 261, 0, 0, 0, .inl 0, []),
    (.aload_n 0, 253, 0, 0, 0, 0, .inl 0, []),
    (.getfield 158, 256, 11, 9, 0, 0, .inl 0, []),
    (.bipush 47, 258, 0, 0, 0, 0, .inl 47, []),
    (.if_icmp .ne 7, 261, 265, 0, 0, 0, .inl 0, [])]),
  (261, [(.iconst 1, 262, 0, 0, 0, 0, .inl 1, []),
    (.goto 4, 265, 266, 0, 0, 0, .inl 0, [])]),
  (265, [(.iconst 0, 266, 0, 0, 0, 0, .inl 0, [])]),
  (266, [(.istore_n 1, 267, 1, 0, 0, 0, .inl 0, []),
    (.aload_n 0, 268, 0, 0, 0, 0, .inl 0, []),
    (.iload_n 1, 269, 1, 0, 0, 0, .inl 0, []),
    (.ifCond .eq 7, 272, 276, 0, 0, 0, .inl 0, []),
    (.iconst 4, 273, 0, 0, 0, 0, .inl 4, []),
    (.goto 5, 276, 278, 0, 0, 0, .inl 0, [])]),
  (276, [(.bipush 6, 278, 0, 0, 0, 0, .inl 6, [])]),
  (278, [(.putfield 147, 281, 11, 8, 0, 0, .inl 0, [])]),
  (281, [(.return_, 282, 0, 0, 0, 0, .inl 0, [])])]
def gT_X12_takeSign : gs_T := ([], gB_X12_takeSign, [(50, [0]), (116, [0, 2]), (135, [0, 2, 3]), (261, [0])])
set_option maxRecDepth 100000 in
def gB_X12_packed : List (Nat × List gs_N) := [(0, [(.iconst 0, 1, 0, 0, 0, 0, .inl 0, []),
    (.istore_n 3, 2, 3, 0, 0, 0, .inl 0, []),
    (.iload_n 1, 3, 1, 0, 0, 0, .inl 0, []),
    (.istore 4, 5, 4, 0, 0, 0, .inl 0, [])]),
  (5, [(.iload 4, 7, 4, 0, 0, 0, .inl 0, []),
    (.iload_n 1, 8, 1, 0, 0, 0, .inl 0, []),
    (.bipush 6, 10, 0, 0, 0, 0, .inl 6, []),
    (.iadd, 11, 0, 0, 0, 0, .inl 0, []),
    (.if_icmp .ge 34, 14, 45, 0, 0, 0, .inl 0, []),
    (.iload_n 3, 15, 3, 0, 0, 0, .inl 0, []),
    (.iconst 5, 16, 0, 0, 0, 0, .inl 5, []),
    (.ishl, 17, 0, 0, 0, 0, .inl 0, []),
    (.iload 4, 19, 4, 0, 0, 0, .inl 0, []),
    (.iload_n 2, 20, 2, 0, 0, 0, .inl 0, []),
    (.if_icmp .ge 16, 23, 36, 0, 0, 0, .inl 0, []),
    (.aload_n 0, 24, 0, 0, 0, 0, .inl 0, []),
    (.getfield 7, 27, 11, 0, 2, 1, .inl 0, []),
    (.iload 4, 29, 4, 0, 0, 0, .inl 0, []),
    (.iaload, 30, 0, 0, 0, 0, .inl 0, []),
    (.bipush 96, 32, 0, 0, 0, 0, .inl 96, []),
    (.isub, 33, 0, 0, 0, 0, .inl 0, []),
    (.goto 4, 36, 37, 0, 0, 0, .inl 0, [])]),
  (36, [(.iconst 0, 37, 0, 0, 0, 0, .inl 0, [])]),
  (37, [(.ior, 38, 0, 0, 0, 0, .inl 0, []),
    (.istore_n 3, 39, 3, 0, 0, 0, .inl 0, []),
    (.iinc 4 1, 42, 4, 0, 0, 0, .inl 1, []),
    (.goto (-37), 45, 5, 0, 0, 0, .inl 0, [])]),
  (45, [(.iload_n 3, 46, 3, 0, 0, 0, .inl 0, []),
    (.ireturn, 47, 0, 0, 0, 0, .inl 0, [])])]
def gT_X12_packed : gs_T := ([], gB_X12_packed, [(5, [0, 1, 2, 3, 4])])
set_option maxRecDepth 100000 in
def gB_X12_isKey : List (Nat × List gs_N) := [(0, [(.aload_n 0, 1, 0, 0, 0, 0, .inl 0, []),
    (.getfield 147, 4, 11, 8, 0, 0, .inl 0, []),
    (.iconst 1, 5, 0, 0, 0, 0, .inl 1, []),
    (.if_icmp .ne 15, 8, 20, 0, 0, 0, .inl 0, []),
    (.aload_n 0, 9, 0, 0, 0, 0, .inl 0, []),
    (.getfield 158, 12, 11, 9, 0, 0, .inl 0, []),
    (.iload_n 1, 13, 1, 0, 0, 0, .inl 0, []),
    (.if_icmp .ne 7, 16, 20, 0, 0, 0, .inl 0, []),
    (.iconst 1, 17, 0, 0, 0, 0, .inl 1, []),
    (.goto 4, 20, 21, 0, 0, 0, .inl 0, [])]),
  (20, [(.iconst 0, 21, 0, 0, 0, 0, .inl 0, [])]),
  (21, [(.ireturn, 22, 1, 0, 0, 0, .inl 0, [])])]
def gT_X12_isKey : gs_T := ([], gB_X12_isKey, [])
set_option maxRecDepth 100000 in
def gB_X12_isSign : List (Nat × List gs_N) := [(0, [(.aload_n 0, 1, 0, 0, 0, 0, .inl 0, []),
    (.getfield 147, 4, 11, 8, 0, 0, .inl 0, []),
    (.iconst 4, 5, 0, 0, 0, 0, .inl 4, []),
    (.if_icmp .ne 15, 8, 20, 0, 0, 0, .inl 0, []),
    (.aload_n 0, 9, 0, 0, 0, 0, .inl 0, []),
    (.getfield 158, 12, 11, 9, 0, 0, .inl 0, []),
    (.iload_n 1, 13, 1, 0, 0, 0, .inl 0, []),
    (.if_icmp .ne 7, 16, 20, 0, 0, 0, .inl 0, []),
    (.iconst 1, 17, 0, 0, 0, 0, .inl 1, []),
    (.goto 4, 20, 21, 0, 0, 0, .inl 0, [])]),
  (20, [(.iconst 0, 21, 0, 0, 0, 0, .inl 0, [])]),
  (21, [(.ireturn, 22, 1, 0, 0, 0, .inl 0, [])])]
def gT_X12_isSign : gs_T := ([], gB_X12_isSign, [])
set_option maxRecDepth 100000 in
def gB_X12_number : List (Nat × List gs_N) := [(0, [(.aload_n 0, 1, 0, 0, 0, 0, .inl 0, []),
    (.getfield 147, 4, 11, 8, 0, 0, .inl 0, []),
    (.iconst 3, 5, 0, 0, 0, 0, .inl 3, []),
    (.if_icmp .eq 9, 8, 14, 0, 0, 0, .inl 0, []),
    (.aload_n 0, 9, 0, 0, 0, 0, .inl 0, []),
    (.iconst 1, 10, 0, 0, 0, 0, .inl 1, []),
    (.invokevirtual 170, 13, 178, 2, 0, 11, .inl 0, []),
    (.ireturn, 14, 1, 0, 0, 0, .inl 0, [])]),
  (14, [(.aload_n 0, 15, 0, 0, 0, 0, .inl 0, []),
    (.getfield 158, 18, 11, 9, 0, 0, .inl 0, []),
    (.iload_n 1, 19, 1, 0, 0, 0, .inl 0, []),
    (.iload_n 2, 20, 2, 0, 0, 0, .inl 0, []),
    (.invokestatic 173, 23, 175, 3, 0, 1, .inl 0, []),
    (.ifCond .ne 9, 26, 32, 0, 0, 0, .inl 0, []),
    (.aload_n 0, 27, 0, 0, 0, 0, .inl 0, []),
    (.iconst 2, 28, 0, 0, 0, 0, .inl 2, []),
    (.invokevirtual 170, 31, 178, 2, 0, 11, .inl 0, []),
    (.ireturn, 32, 1, 0, 0, 0, .inl 0, [])]),
  (32, [(.aload_n 0, 33, 0, 0, 0, 0, .inl 0, []),
    (.aload_n 0, 34, 0, 0, 0, 0, .inl 0, []),
    (.getfield 158, 37, 11, 9, 0, 0, .inl 0, []),
    (.putfield 177, 40, 11, 11, 0, 0, .inl 0, []),
    (.aload_n 0, 41, 0, 0, 0, 0, .inl 0, []),
    (.invokevirtual 180, 44, 182, 1, 2, 11, .inl 0, []),
    (.iconst 1, 45, 0, 0, 0, 0, .inl 1, []),
    (.ireturn, 46, 1, 0, 0, 0, .inl 0, [])])]
def gT_X12_number : gs_T := ([], gB_X12_number, [])
end
section
set_option maxRecDepth 100000 in
def gB_X12_plain : List (Nat × List gs_N) := [(0, [(.iconst 0, 1, 0, 0, 0, 0, .inl 0, []),
    (.istore_n 1, 2, 1, 0, 0, 0, .inl 0, [])]),
  (2, [(.iload_n 1, 3, 1, 0, 0, 0, .inl 0, []),
    (.bipush 9, 5, 0, 0, 0, 0, .inl 9, []),
    (.if_icmp .ge 16, 8, 21, 0, 0, 0, .inl 0, []),
    (.aload_n 0, 9, 0, 0, 0, 0, .inl 0, []),
    (.getfield 23, 12, 11, 13, 2, 1, .inl 0, []),
    (.iload_n 1, 13, 1, 0, 0, 0, .inl 0, []),
    (.iconst 0, 14, 0, 0, 0, 0, .inl 0, []),
    (.iastore, 15, 0, 0, 0, 0, .inl 0, []),
    (.iinc 1 1, 18, 1, 0, 0, 0, .inl 1, []),
    (.goto (-16), 21, 2, 0, 0, 0, .inl 0, [])]),
  (21, [(.aload_n 0, 22, 0, 0, 0, 0, .inl 0, []),
    (.getfield 32, 25, 11, 16, 2, 1, .inl 0, []),
    (.iconst 0, 26, 0, 0, 0, 0, .inl 0, []),
    (.iconst 0, 27, 0, 0, 0, 0, .inl 0, []),
    (.iastore, 28, 0, 0, 0, 0, .inl 0, []),
    (.aload_n 0, 29, 0, 0, 0, 0, .inl 0, []),
    (.getfield 32, 32, 11, 16, 2, 1, .inl 0, []),
    (.iconst 1, 33, 0, 0, 0, 0, .inl 1, []),
    (.iconst 5, 34, 0, 0, 0, 0, .inl 5, []),
    (.iastore, 35, 0, 0, 0, 0, .inl 0, []),
    (.aload_n 0, 36, 0, 0, 0, 0, .inl 0, []),
    (.getfield 32, 39, 11, 16, 2, 1, .inl 0, []),
    (.iconst 2, 40, 0, 0, 0, 0, .inl 2, []),
    (.bipush 20, 42, 0, 0, 0, 0, .inl 20, []),
    (.iastore, 43, 0, 0, 0, 0, .inl 0, []),
    (.aload_n 0, 44, 0, 0, 0, 0, .inl 0, []),
    (.getfield 32, 47, 11, 16, 2, 1, .inl 0, []),
    (.iconst 3, 48, 0, 0, 0, 0, .inl 3, []),
    (.iconst 0, 49, 0, 0, 0, 0, .inl 0, []),
    (.iastore, 50, 0, 0, 0, 0, .inl 0, []),
    (.aload_n 0, 51, 0, 0, 0, 0, .inl 0, []),
    (.iconst 0, 52, 0, 0, 0, 0, .inl 0, []),
    (.putfield 183, 55, 11, 17, 0, 0, .inl 0, []),
    (.aload_n 0, 56, 0, 0, 0, 0, .inl 0, []),
    (.iconst 0, 57, 0, 0, 0, 0, .inl 0, []),
    (.putfield 186, 60, 11, 43, 0, 0, .inl 0, []),
    (.return_, 61, 0, 0, 0, 0, .inl 0, [])])]
def gT_X12_plain : gs_T := ([], gB_X12_plain, [(2, [0, 1])])
set_option maxRecDepth 100000 in
def gB_X12_copies : List (Nat × List gs_N) := [(0, [(.iconst 0, 1, 0, 0, 0, 0, .inl 0, []),
    (.istore_n 2, 2, 2, 0, 0, 0, .inl 0, [])]),
  (2, [(.iload_n 2, 3, 2, 0, 0, 0, .inl 0, []),
    (.iload_n 1, 4, 1, 0, 0, 0, .inl 0, []),
    (.if_icmp .ge 17, 7, 21, 0, 0, 0, .inl 0, []),
    (.aload_n 0, 8, 0, 0, 0, 0, .inl 0, []),
    (.iload_n 2, 9, 2, 0, 0, 0, .inl 0, []),
    (.aload_n 0, 10, 0, 0, 0, 0, .inl 0, []),
    (.iload_n 1, 11, 1, 0, 0, 0, .inl 0, []),
    (.iload_n 2, 12, 2, 0, 0, 0, .inl 0, []),
    (.iadd, 13, 0, 0, 0, 0, .inl 0, []),
    (.iaload, 14, 0, 0, 0, 0, .inl 0, []),
    (.iastore, 15, 0, 0, 0, 0, .inl 0, []),
    (.iinc 2 1, 18, 2, 0, 0, 0, .inl 1, []),
    (.goto (-16), 21, 2, 0, 0, 0, .inl 0, [])]),
  (21, [(.return_, 22, 0, 0, 0, 0, .inl 0, [])])]
def gT_X12_copies : gs_T := ([], gB_X12_copies, [(2, [0, 1, 2])])
set_option maxRecDepth 100000 in
def gB_X12_keep : List (Nat × List gs_N) := [(0, [(.iconst 0, 1, 0, 0, 0, 0, .inl 0, []),
    (.istore_n 1, 2, 1, 0, 0, 0, .inl 0, [])]),
  (2, [(.iload_n 1, 3, 1, 0, 0, 0, .inl 0, []),
    (.bipush 9, 5, 0, 0, 0, 0, .inl 9, []),
    (.if_icmp .ge 21, 8, 26, 0, 0, 0, .inl 0, []),
    (.aload_n 0, 9, 0, 0, 0, 0, .inl 0, []),
    (.getfield 20, 12, 11, 12, 2, 1, .inl 0, []),
    (.iload_n 1, 13, 1, 0, 0, 0, .inl 0, []),
    (.aload_n 0, 14, 0, 0, 0, 0, .inl 0, []),
    (.getfield 23, 17, 11, 13, 2, 1, .inl 0, []),
    (.iload_n 1, 18, 1, 0, 0, 0, .inl 0, []),
    (.iaload, 19, 0, 0, 0, 0, .inl 0, []),
    (.iastore, 20, 0, 0, 0, 0, .inl 0, []),
    (.iinc 1 1, 23, 1, 0, 0, 0, .inl 1, []),
    (.goto (-21), 26, 2, 0, 0, 0, .inl 0, [])]),
  (26, [(.iconst 0, 27, 0, 0, 0, 0, .inl 0, []),
    (.istore_n 1, 28, 1, 0, 0, 0, .inl 0, [])]),
  (28, [(.iload_n 1, 29, 1, 0, 0, 0, .inl 0, []),
    (.iconst 4, 30, 0, 0, 0, 0, .inl 4, []),
    (.if_icmp .ge 21, 33, 51, 0, 0, 0, .inl 0, []),
    (.aload_n 0, 34, 0, 0, 0, 0, .inl 0, []),
    (.getfield 29, 37, 11, 15, 2, 1, .inl 0, []),
    (.iload_n 1, 38, 1, 0, 0, 0, .inl 0, []),
    (.aload_n 0, 39, 0, 0, 0, 0, .inl 0, []),
    (.getfield 32, 42, 11, 16, 2, 1, .inl 0, []),
    (.iload_n 1, 43, 1, 0, 0, 0, .inl 0, []),
    (.iaload, 44, 0, 0, 0, 0, .inl 0, []),
    (.iastore, 45, 0, 0, 0, 0, .inl 0, []),
    (.iinc 1 1, 48, 1, 0, 0, 0, .inl 1, []),
    (.goto (-20), 51, 28, 0, 0, 0, .inl 0, [])]),
  (51, [(.aload_n 0, 52, 0, 0, 0, 0, .inl 0, []),
    (.getfield 35, 55, 11, 18, 2, 1, .inl 0, []),
    (.bipush 8, 57, 0, 0, 0, 0, .inl 8, []),
    (.invokestatic 189, 60, 189, 2, 2, 1, .inl 0, []),
    (.aload_n 0, 61, 0, 0, 0, 0, .inl 0, []),
    (.getfield 38, 64, 11, 19, 2, 1, .inl 0, []),
    (.bipush 8, 66, 0, 0, 0, 0, .inl 8, []),
    (.invokestatic 189, 69, 189, 2, 2, 1, .inl 0, []),
    (.aload_n 0, 70, 0, 0, 0, 0, .inl 0, []),
    (.getfield 41, 73, 11, 20, 2, 1, .inl 0, []),
    (.bipush 8, 75, 0, 0, 0, 0, .inl 8, []),
    (.invokestatic 189, 78, 189, 2, 2, 1, .inl 0, []),
    (.aload_n 0, 79, 0, 0, 0, 0, .inl 0, []),
    (.getfield 44, 82, 11, 21, 2, 1, .inl 0, []),
    (.bipush 10, 84, 0, 0, 0, 0, .inl 10, []),
    (.invokestatic 189, 87, 189, 2, 2, 1, .inl 0, []),
    (.aload_n 0, 88, 0, 0, 0, 0, .inl 0, []),
    (.getfield 47, 91, 11, 22, 2, 1, .inl 0, []),
    (.bipush 10, 93, 0, 0, 0, 0, .inl 10, []),
    (.invokestatic 189, 96, 189, 2, 2, 1, .inl 0, []),
    (.aload_n 0, 97, 0, 0, 0, 0, .inl 0, []),
    (.getfield 50, 100, 11, 23, 2, 1, .inl 0, []),
    (.bipush 10, 102, 0, 0, 0, 0, .inl 10, []),
    (.invokestatic 189, 105, 189, 2, 2, 1, .inl 0, []),
    (.aload_n 0, 106, 0, 0, 0, 0, .inl 0, []),
    (.getfield 53, 109, 11, 24, 2, 1, .inl 0, []),
    (.bipush 8, 111, 0, 0, 0, 0, .inl 8, []),
    (.invokestatic 189, 114, 189, 2, 2, 1, .inl 0, []),
    (.aload_n 0, 115, 0, 0, 0, 0, .inl 0, []),
    (.getfield 56, 118, 11, 25, 2, 1, .inl 0, []),
    (.bipush 8, 120, 0, 0, 0, 0, .inl 8, []),
    (.invokestatic 189, 123, 189, 2, 2, 1, .inl 0, []),
    (.aload_n 0, 124, 0, 0, 0, 0, .inl 0, []),
    (.getfield 59, 127, 11, 26, 2, 1, .inl 0, []),
    (.sipush 192, 130, 0, 0, 0, 0, .inl 192, []),
    (.invokestatic 189, 133, 189, 2, 2, 1, .inl 0, []),
    (.aload_n 0, 134, 0, 0, 0, 0, .inl 0, []),
    (.getfield 62, 137, 11, 27, 2, 1, .inl 0, []),
    (.bipush 90, 139, 0, 0, 0, 0, .inl 90, []),
    (.invokestatic 189, 142, 189, 2, 2, 1, .inl 0, []),
    (.aload_n 0, 143, 0, 0, 0, 0, .inl 0, []),
    (.getfield 65, 146, 11, 28, 2, 1, .inl 0, []),
    (.bipush 6, 148, 0, 0, 0, 0, .inl 6, []),
    (.invokestatic 189, 151, 189, 2, 2, 1, .inl 0, []),
    (.aload_n 0, 152, 0, 0, 0, 0, .inl 0, []),
    (.getfield 68, 155, 11, 29, 2, 1, .inl 0, []),
    (.bipush 6, 157, 0, 0, 0, 0, .inl 6, []),
    (.invokestatic 189, 160, 189, 2, 2, 1, .inl 0, []),
    (.aload_n 0, 161, 0, 0, 0, 0, .inl 0, []),
    (.getfield 71, 164, 11, 30, 2, 1, .inl 0, []),
    (.bipush 6, 166, 0, 0, 0, 0, .inl 6, []),
    (.invokestatic 189, 169, 189, 2, 2, 1, .inl 0, []),
    (.aload_n 0, 170, 0, 0, 0, 0, .inl 0, []),
    (.getfield 74, 173, 11, 31, 2, 1, .inl 0, []),
    (.bipush 6, 175, 0, 0, 0, 0, .inl 6, []),
    (.invokestatic 189, 178, 189, 2, 2, 1, .inl 0, []),
    (.aload_n 0, 179, 0, 0, 0, 0, .inl 0, []),
    (.getfield 77, 182, 11, 32, 2, 1, .inl 0, []),
    (.bipush 18, 184, 0, 0, 0, 0, .inl 18, []),
    (.invokestatic 189, 187, 189, 2, 2, 1, .inl 0, []),
    (.aload_n 0, 188, 0, 0, 0, 0, .inl 0, []),
    (.getfield 80, 191, 11, 33, 2, 1, .inl 0, []),
    (.bipush 64, 193, 0, 0, 0, 0, .inl 64, []),
    (.invokestatic 189, 196, 189, 2, 2, 1, .inl 0, []),
    (.aload_n 0, 197, 0, 0, 0, 0, .inl 0, []),
    (.getfield 83, 200, 11, 34, 2, 1, .inl 0, []),
    (.bipush 64, 202, 0, 0, 0, 0, .inl 64, []),
    (.invokestatic 189, 205, 189, 2, 2, 1, .inl 0, []),
    (.aload_n 0, 206, 0, 0, 0, 0, .inl 0, []),
    (.getfield 86, 209, 11, 35, 2, 1, .inl 0, []),
    (.bipush 64, 211, 0, 0, 0, 0, .inl 64, []),
    (.invokestatic 189, 214, 189, 2, 2, 1, .inl 0, []),
    (.aload_n 0, 215, 0, 0, 0, 0, .inl 0, []),
    (.iconst 0, 216, 0, 0, 0, 0, .inl 0, []),
    (.putfield 193, 219, 11, 36, 0, 0, .inl 0, []),
    (.aload_n 0, 220, 0, 0, 0, 0, .inl 0, []),
    (.iconst (-1), 221, 0, 0, 0, 0, .inl (-1), []),
    (.putfield 89, 224, 11, 37, 0, 0, .inl 0, []),
    (.return_, 225, 0, 0, 0, 0, .inl 0, [])])]
def gT_X12_keep : gs_T := ([], gB_X12_keep, [(2, [0, 1]), (28, [0, 1])])
set_option maxRecDepth 100000 in
def gB_X12_find : List (Nat × List gs_N) := [(0, [(.iconst 0, 1, 0, 0, 0, 0, .inl 0, []),
    (.istore 5, 3, 5, 0, 0, 0, .inl 0, [])]),
  (3, [(.iload 5, 5, 5, 0, 0, 0, .inl 0, []),
    (.iload_n 3, 6, 3, 0, 0, 0, .inl 0, []),
    (.if_icmp .ge 23, 9, 29, 0, 0, 0, .inl 0, []),
    (.aload_n 1, 10, 1, 0, 0, 0, .inl 0, []),
    (.iload_n 2, 11, 2, 0, 0, 0, .inl 0, []),
    (.iload 5, 13, 5, 0, 0, 0, .inl 0, []),
    (.iadd, 14, 0, 0, 0, 0, .inl 0, []),
    (.iaload, 15, 0, 0, 0, 0, .inl 0, []),
    (.iload 4, 17, 4, 0, 0, 0, .inl 0, []),
    (.if_icmp .ne 6, 20, 23, 0, 0, 0, .inl 0, []),
    (.iload 5, 22, 5, 0, 0, 0, .inl 0, []),
    (.ireturn, 23, 0, 0, 0, 0, .inl 0, [])]),
  (23, [(.iinc 5 1, 26, 5, 0, 0, 0, .inl 1, []),
    (.goto (-23), 29, 3, 0, 0, 0, .inl 0, [])]),
  (29, [(.iconst (-1), 30, 0, 0, 0, 0, .inl (-1), []),
    (.ireturn, 31, 0, 0, 0, 0, .inl 0, [])])]
def gT_X12_find : gs_T := ([], gB_X12_find, [(3, [1, 2, 3, 4, 5])])
set_option maxRecDepth 100000 in
def gB_X12_newName : List (Nat × List gs_N) := [(0, [(.aload_n 0, 1, 0, 0, 0, 0, .inl 0, []),
    (.getfield 147, 4, 11, 8, 0, 0, .inl 0, []),
    (.iconst 2, 5, 0, 0, 0, 0, .inl 2, []),
    (.if_icmp .eq 9, 8, 14, 0, 0, 0, .inl 0, []),
    (.aload_n 0, 9, 0, 0, 0, 0, .inl 0, []),
    (.iconst 1, 10, 0, 0, 0, 0, .inl 1, []),
    (.invokevirtual 170, 13, 178, 2, 0, 11, .inl 0, []),
    (.ireturn, 14, 1, 0, 0, 0, .inl 0, [])]),
  (14, [(.aload_n 0, 15, 0, 0, 0, 0, .inl 0, []),
    (.aload_n 1, 16, 1, 0, 0, 0, .inl 0, []),
    (.iload_n 2, 17, 2, 0, 0, 0, .inl 0, []),
    (.iload_n 3, 18, 3, 0, 0, 0, .inl 0, []),
    (.aload_n 0, 19, 0, 0, 0, 0, .inl 0, []),
    (.getfield 158, 22, 11, 9, 0, 0, .inl 0, []),
    (.invokevirtual 196, 25, 191, 5, 0, 11, .inl 0, []),
    (.ifCond .lt 9, 28, 34, 0, 0, 0, .inl 0, []),
    (.aload_n 0, 29, 0, 0, 0, 0, .inl 0, []),
    (.iconst 3, 30, 0, 0, 0, 0, .inl 3, []),
    (.invokevirtual 170, 33, 178, 2, 0, 11, .inl 0, []),
    (.ireturn, 34, 1, 0, 0, 0, .inl 0, [])]),
  (34, [(.aload_n 1, 35, 1, 0, 0, 0, .inl 0, []),
    (.iload_n 2, 36, 2, 0, 0, 0, .inl 0, []),
    (.iload_n 3, 37, 3, 0, 0, 0, .inl 0, []),
    (.iadd, 38, 0, 0, 0, 0, .inl 0, []),
    (.aload_n 0, 39, 0, 0, 0, 0, .inl 0, []),
    (.getfield 158, 42, 11, 9, 0, 0, .inl 0, []),
    (.iastore, 43, 0, 0, 0, 0, .inl 0, []),
    (.aload_n 0, 44, 0, 0, 0, 0, .inl 0, []),
    (.invokevirtual 180, 47, 182, 1, 2, 11, .inl 0, []),
    (.iconst 1, 48, 0, 0, 0, 0, .inl 1, []),
    (.ireturn, 49, 1, 0, 0, 0, .inl 0, [])])]
def gT_X12_newName : gs_T := ([], gB_X12_newName, [])
set_option maxRecDepth 100000 in
def gB_X12_oldName : List (Nat × List gs_N) := [(0, [(.aload_n 0, 1, 0, 0, 0, 0, .inl 0, []),
    (.getfield 147, 4, 11, 8, 0, 0, .inl 0, []),
    (.iconst 2, 5, 0, 0, 0, 0, .inl 2, []),
    (.if_icmp .eq 9, 8, 14, 0, 0, 0, .inl 0, []),
    (.aload_n 0, 9, 0, 0, 0, 0, .inl 0, []),
    (.iconst 1, 10, 0, 0, 0, 0, .inl 1, []),
    (.invokevirtual 170, 13, 178, 2, 0, 11, .inl 0, []),
    (.ireturn, 14, 1, 0, 0, 0, .inl 0, [])]),
  (14, [(.aload_n 0, 15, 0, 0, 0, 0, .inl 0, []),
    (.aload_n 0, 16, 0, 0, 0, 0, .inl 0, []),
    (.aload_n 1, 17, 1, 0, 0, 0, .inl 0, []),
    (.iload_n 2, 18, 2, 0, 0, 0, .inl 0, []),
    (.iload_n 3, 19, 3, 0, 0, 0, .inl 0, []),
    (.aload_n 0, 20, 0, 0, 0, 0, .inl 0, []),
    (.getfield 158, 23, 11, 9, 0, 0, .inl 0, []),
    (.invokevirtual 196, 26, 191, 5, 0, 11, .inl 0, []),
    (.putfield 177, 29, 11, 11, 0, 0, .inl 0, []),
    (.aload_n 0, 30, 0, 0, 0, 0, .inl 0, []),
    (.getfield 177, 33, 11, 11, 0, 0, .inl 0, []),
    (.ifCond .ge 9, 36, 42, 0, 0, 0, .inl 0, []),
    (.aload_n 0, 37, 0, 0, 0, 0, .inl 0, []),
    (.iconst 4, 38, 0, 0, 0, 0, .inl 4, []),
    (.invokevirtual 170, 41, 178, 2, 0, 11, .inl 0, []),
    (.ireturn, 42, 1, 0, 0, 0, .inl 0, [])]),
  (42, [(.aload_n 0, 43, 0, 0, 0, 0, .inl 0, []),
    (.invokevirtual 180, 46, 182, 1, 2, 11, .inl 0, []),
    (.iconst 1, 47, 0, 0, 0, 0, .inl 1, []),
    (.ireturn, 48, 1, 0, 0, 0, .inl 0, [])])]
def gT_X12_oldName : gs_T := ([], gB_X12_oldName, [])
set_option maxRecDepth 100000 in
def gB_X12_reignLine : List (Nat × List gs_N) := [(0, [(.bipush 8, 2, 0, 0, 0, 0, .inl 8, []),
    (.aload_n 0, 3, 0, 0, 0, 0, .inl 0, []),
    (.getfield 23, 6, 11, 13, 2, 1, .inl 0, []),
    (.iconst 0, 7, 0, 0, 0, 0, .inl 0, []),
    (.iaload, 8, 0, 0, 0, 0, .inl 0, []),
    (.iadd, 9, 0, 0, 0, 0, .inl 0, []),
    (.istore_n 1, 10, 1, 0, 0, 0, .inl 0, []),
    (.aload_n 0, 11, 0, 0, 0, 0, .inl 0, []),
    (.aload_n 0, 12, 0, 0, 0, 0, .inl 0, []),
    (.getfield 35, 15, 11, 18, 2, 1, .inl 0, []),
    (.bipush 8, 17, 0, 0, 0, 0, .inl 8, []),
    (.aload_n 0, 18, 0, 0, 0, 0, .inl 0, []),
    (.getfield 23, 21, 11, 13, 2, 1, .inl 0, []),
    (.iconst 0, 22, 0, 0, 0, 0, .inl 0, []),
    (.iaload, 23, 0, 0, 0, 0, .inl 0, []),
    (.invokevirtual 200, 26, 192, 4, 0, 11, .inl 0, []),
    (.ifCond .eq 14, 29, 40, 0, 0, 0, .inl 0, []),
    (.aload_n 0, 30, 0, 0, 0, 0, .inl 0, []),
    (.iconst 0, 31, 0, 0, 0, 0, .inl 0, []),
    (.sipush 1900, 34, 0, 0, 0, 0, .inl 1900, []),
    (.invokevirtual 204, 37, 187, 3, 0, 11, .inl 0, []),
    (.ifCond .ne 5, 40, 42, 0, 0, 0, .inl 0, [])]),
  (40, [(.iconst 0, 41, 0, 0, 0, 0, .inl 0, []),
    (.ireturn, 42, 1, 0, 0, 0, .inl 0, [])]),
  (42, [(.aload_n 0, 43, 0, 0, 0, 0, .inl 0, []),
    (.getfield 38, 46, 11, 19, 2, 1, .inl 0, []),
    (.iload_n 1, 47, 1, 0, 0, 0, .inl 0, []),
    (.aload_n 0, 48, 0, 0, 0, 0, .inl 0, []),
    (.getfield 177, 51, 11, 11, 0, 0, .inl 0, []),
    (.iastore, 52, 0, 0, 0, 0, .inl 0, []),
    (.aload_n 0, 53, 0, 0, 0, 0, .inl 0, []),
    (.iconst 1, 54, 0, 0, 0, 0, .inl 1, []),
    (.bipush 60, 56, 0, 0, 0, 0, .inl 60, []),
    (.invokevirtual 204, 59, 187, 3, 0, 11, .inl 0, []),
    (.ifCond .ne 5, 62, 64, 0, 0, 0, .inl 0, []),
    (.iconst 0, 63, 0, 0, 0, 0, .inl 0, []),
    (.ireturn, 64, 1, 0, 0, 0, .inl 0, [])]),
  (64, [(.aload_n 0, 65, 0, 0, 0, 0, .inl 0, []),
    (.getfield 41, 68, 11, 20, 2, 1, .inl 0, []),
    (.iload_n 1, 69, 1, 0, 0, 0, .inl 0, []),
    (.aload_n 0, 70, 0, 0, 0, 0, .inl 0, []),
    (.getfield 177, 73, 11, 11, 0, 0, .inl 0, []),
    (.iastore, 74, 0, 0, 0, 0, .inl 0, []),
    (.iconst 1, 75, 0, 0, 0, 0, .inl 1, []),
    (.ireturn, 76, 1, 0, 0, 0, .inl 0, [])])]
def gT_X12_reignLine : gs_T := ([], gB_X12_reignLine, [])
set_option maxRecDepth 100000 in
def gB_X12_gateLine : List (Nat × List gs_N) := [(0, [(.bipush 10, 2, 0, 0, 0, 0, .inl 10, []),
    (.aload_n 0, 3, 0, 0, 0, 0, .inl 0, []),
    (.getfield 23, 6, 11, 13, 2, 1, .inl 0, []),
    (.iconst 1, 7, 0, 0, 0, 0, .inl 1, []),
    (.iaload, 8, 0, 0, 0, 0, .inl 0, []),
    (.iadd, 9, 0, 0, 0, 0, .inl 0, []),
    (.istore_n 1, 10, 1, 0, 0, 0, .inl 0, []),
    (.aload_n 0, 11, 0, 0, 0, 0, .inl 0, []),
    (.aload_n 0, 12, 0, 0, 0, 0, .inl 0, []),
    (.getfield 44, 15, 11, 21, 2, 1, .inl 0, []),
    (.bipush 10, 17, 0, 0, 0, 0, .inl 10, []),
    (.aload_n 0, 18, 0, 0, 0, 0, .inl 0, []),
    (.getfield 23, 21, 11, 13, 2, 1, .inl 0, []),
    (.iconst 1, 22, 0, 0, 0, 0, .inl 1, []),
    (.iaload, 23, 0, 0, 0, 0, .inl 0, []),
    (.invokevirtual 200, 26, 192, 4, 0, 11, .inl 0, []),
    (.ifCond .eq 13, 29, 39, 0, 0, 0, .inl 0, []),
    (.aload_n 0, 30, 0, 0, 0, 0, .inl 0, []),
    (.iconst 0, 31, 0, 0, 0, 0, .inl 0, []),
    (.bipush 119, 33, 0, 0, 0, 0, .inl 119, []),
    (.invokevirtual 204, 36, 187, 3, 0, 11, .inl 0, []),
    (.ifCond .ne 5, 39, 41, 0, 0, 0, .inl 0, [])]),
  (39, [(.iconst 0, 40, 0, 0, 0, 0, .inl 0, []),
    (.ireturn, 41, 1, 0, 0, 0, .inl 0, [])]),
  (41, [(.aload_n 0, 42, 0, 0, 0, 0, .inl 0, []),
    (.getfield 47, 45, 11, 22, 2, 1, .inl 0, []),
    (.iload_n 1, 46, 1, 0, 0, 0, .inl 0, []),
    (.aload_n 0, 47, 0, 0, 0, 0, .inl 0, []),
    (.getfield 177, 50, 11, 11, 0, 0, .inl 0, []),
    (.iastore, 51, 0, 0, 0, 0, .inl 0, []),
    (.aload_n 0, 52, 0, 0, 0, 0, .inl 0, []),
    (.iconst 0, 53, 0, 0, 0, 0, .inl 0, []),
    (.bipush 59, 55, 0, 0, 0, 0, .inl 59, []),
    (.invokevirtual 204, 58, 187, 3, 0, 11, .inl 0, []),
    (.ifCond .ne 5, 61, 63, 0, 0, 0, .inl 0, []),
    (.iconst 0, 62, 0, 0, 0, 0, .inl 0, []),
    (.ireturn, 63, 1, 0, 0, 0, .inl 0, [])]),
  (63, [(.aload_n 0, 64, 0, 0, 0, 0, .inl 0, []),
    (.getfield 50, 67, 11, 23, 2, 1, .inl 0, []),
    (.iload_n 1, 68, 1, 0, 0, 0, .inl 0, []),
    (.aload_n 0, 69, 0, 0, 0, 0, .inl 0, []),
    (.getfield 177, 72, 11, 11, 0, 0, .inl 0, []),
    (.iastore, 73, 0, 0, 0, 0, .inl 0, []),
    (.iconst 1, 74, 0, 0, 0, 0, .inl 1, []),
    (.ireturn, 75, 1, 0, 0, 0, .inl 0, [])])]
def gT_X12_gateLine : gs_T := ([], gB_X12_gateLine, [])
set_option maxRecDepth 100000 in
def gB_X12_bookLine : List (Nat × List gs_N) := [(0, [(.bipush 8, 2, 0, 0, 0, 0, .inl 8, []),
    (.aload_n 0, 3, 0, 0, 0, 0, .inl 0, []),
    (.getfield 23, 6, 11, 13, 2, 1, .inl 0, []),
    (.iconst 2, 7, 0, 0, 0, 0, .inl 2, []),
    (.iaload, 8, 0, 0, 0, 0, .inl 0, []),
    (.iadd, 9, 0, 0, 0, 0, .inl 0, []),
    (.istore_n 1, 10, 1, 0, 0, 0, .inl 0, []),
    (.aload_n 0, 11, 0, 0, 0, 0, .inl 0, []),
    (.aload_n 0, 12, 0, 0, 0, 0, .inl 0, []),
    (.getfield 53, 15, 11, 24, 2, 1, .inl 0, []),
    (.bipush 8, 17, 0, 0, 0, 0, .inl 8, []),
    (.aload_n 0, 18, 0, 0, 0, 0, .inl 0, []),
    (.getfield 23, 21, 11, 13, 2, 1, .inl 0, []),
    (.iconst 2, 22, 0, 0, 0, 0, .inl 2, []),
    (.iaload, 23, 0, 0, 0, 0, .inl 0, []),
    (.invokevirtual 200, 26, 192, 4, 0, 11, .inl 0, []),
    (.ifCond .ne 5, 29, 31, 0, 0, 0, .inl 0, []),
    (.iconst 0, 30, 0, 0, 0, 0, .inl 0, []),
    (.ireturn, 31, 1, 0, 0, 0, .inl 0, [])]),
  (31, [(.aload_n 0, 32, 0, 0, 0, 0, .inl 0, []),
    (.getfield 56, 35, 11, 25, 2, 1, .inl 0, []),
    (.iload_n 1, 36, 1, 0, 0, 0, .inl 0, []),
    (.iconst (-1), 37, 0, 0, 0, 0, .inl (-1), []),
    (.iastore, 38, 0, 0, 0, 0, .inl 0, []),
    (.aload_n 0, 39, 0, 0, 0, 0, .inl 0, []),
    (.bipush 12, 41, 0, 0, 0, 0, .inl 12, []),
    (.invokevirtual 208, 44, 185, 2, 0, 11, .inl 0, []),
    (.ifCond .ne 5, 47, 49, 0, 0, 0, .inl 0, []),
    (.iconst 1, 48, 0, 0, 0, 0, .inl 1, []),
    (.ireturn, 49, 1, 0, 0, 0, .inl 0, [])]),
  (49, [(.aload_n 0, 50, 0, 0, 0, 0, .inl 0, []),
    (.invokevirtual 180, 53, 182, 1, 2, 11, .inl 0, []),
    (.aload_n 0, 54, 0, 0, 0, 0, .inl 0, []),
    (.aload_n 0, 55, 0, 0, 0, 0, .inl 0, []),
    (.getfield 53, 58, 11, 24, 2, 1, .inl 0, []),
    (.bipush 8, 60, 0, 0, 0, 0, .inl 8, []),
    (.aload_n 0, 61, 0, 0, 0, 0, .inl 0, []),
    (.getfield 23, 64, 11, 13, 2, 1, .inl 0, []),
    (.iconst 2, 65, 0, 0, 0, 0, .inl 2, []),
    (.iaload, 66, 0, 0, 0, 0, .inl 0, []),
    (.invokevirtual 211, 69, 193, 4, 0, 11, .inl 0, []),
    (.ifCond .ne 5, 72, 74, 0, 0, 0, .inl 0, []),
    (.iconst 0, 73, 0, 0, 0, 0, .inl 0, []),
    (.ireturn, 74, 1, 0, 0, 0, .inl 0, [])]),
  (74, [(.aload_n 0, 75, 0, 0, 0, 0, .inl 0, []),
    (.getfield 56, 78, 11, 25, 2, 1, .inl 0, []),
    (.iload_n 1, 79, 1, 0, 0, 0, .inl 0, []),
    (.aload_n 0, 80, 0, 0, 0, 0, .inl 0, []),
    (.getfield 177, 83, 11, 11, 0, 0, .inl 0, []),
    (.iastore, 84, 0, 0, 0, 0, .inl 0, []),
    (.iconst 1, 85, 0, 0, 0, 0, .inl 1, []),
    (.ireturn, 86, 1, 0, 0, 0, .inl 0, [])])]
def gT_X12_bookLine : gs_T := ([], gB_X12_bookLine, [])
set_option maxRecDepth 100000 in
def gB_X12_newGuest : List (Nat × List gs_N) := [(0, [(.sipush 192, 3, 0, 0, 0, 0, .inl 192, []),
    (.bipush 16, 5, 0, 0, 0, 0, .inl 16, []),
    (.aload_n 0, 6, 0, 0, 0, 0, .inl 0, []),
    (.getfield 23, 9, 11, 13, 2, 1, .inl 0, []),
    (.iconst 3, 10, 0, 0, 0, 0, .inl 3, []),
    (.iaload, 11, 0, 0, 0, 0, .inl 0, []),
    (.imul, 12, 0, 0, 0, 0, .inl 0, []),
    (.iadd, 13, 0, 0, 0, 0, .inl 0, []),
    (.ireturn, 14, 0, 0, 0, 0, .inl 0, [])])]
def gT_X12_newGuest : gs_T := ([], gB_X12_newGuest, [])
set_option maxRecDepth 100000 in
def gB_X12_plainGuest : List (Nat × List gs_N) := [(0, [(.iconst 0, 1, 0, 0, 0, 0, .inl 0, []),
    (.istore_n 2, 2, 2, 0, 0, 0, .inl 0, [])]),
  (2, [(.iload_n 2, 3, 2, 0, 0, 0, .inl 0, []),
    (.bipush 16, 5, 0, 0, 0, 0, .inl 16, []),
    (.if_icmp .ge 18, 8, 23, 0, 0, 0, .inl 0, []),
    (.aload_n 0, 9, 0, 0, 0, 0, .inl 0, []),
    (.getfield 59, 12, 11, 26, 2, 1, .inl 0, []),
    (.iload_n 1, 13, 1, 0, 0, 0, .inl 0, []),
    (.iload_n 2, 14, 2, 0, 0, 0, .inl 0, []),
    (.iadd, 15, 0, 0, 0, 0, .inl 0, []),
    (.iconst 0, 16, 0, 0, 0, 0, .inl 0, []),
    (.iastore, 17, 0, 0, 0, 0, .inl 0, []),
    (.iinc 2 1, 20, 2, 0, 0, 0, .inl 1, []),
    (.goto (-18), 23, 2, 0, 0, 0, .inl 0, [])]),
  (23, [(.aload_n 0, 24, 0, 0, 0, 0, .inl 0, []),
    (.getfield 59, 27, 11, 26, 2, 1, .inl 0, []),
    (.iload_n 1, 28, 1, 0, 0, 0, .inl 0, []),
    (.iconst (-1), 29, 0, 0, 0, 0, .inl (-1), []),
    (.iastore, 30, 0, 0, 0, 0, .inl 0, []),
    (.aload_n 0, 31, 0, 0, 0, 0, .inl 0, []),
    (.getfield 59, 34, 11, 26, 2, 1, .inl 0, []),
    (.iload_n 1, 35, 1, 0, 0, 0, .inl 0, []),
    (.iconst 4, 36, 0, 0, 0, 0, .inl 4, []),
    (.iadd, 37, 0, 0, 0, 0, .inl 0, []),
    (.iconst (-1), 38, 0, 0, 0, 0, .inl (-1), []),
    (.iastore, 39, 0, 0, 0, 0, .inl 0, []),
    (.aload_n 0, 40, 0, 0, 0, 0, .inl 0, []),
    (.getfield 59, 43, 11, 26, 2, 1, .inl 0, []),
    (.iload_n 1, 44, 1, 0, 0, 0, .inl 0, []),
    (.bipush 11, 46, 0, 0, 0, 0, .inl 11, []),
    (.iadd, 47, 0, 0, 0, 0, .inl 0, []),
    (.bipush 9, 49, 0, 0, 0, 0, .inl 9, []),
    (.iastore, 50, 0, 0, 0, 0, .inl 0, []),
    (.aload_n 0, 51, 0, 0, 0, 0, .inl 0, []),
    (.getfield 59, 54, 11, 26, 2, 1, .inl 0, []),
    (.iload_n 1, 55, 1, 0, 0, 0, .inl 0, []),
    (.bipush 12, 57, 0, 0, 0, 0, .inl 12, []),
    (.iadd, 58, 0, 0, 0, 0, .inl 0, []),
    (.iconst (-1), 59, 0, 0, 0, 0, .inl (-1), []),
    (.iastore, 60, 0, 0, 0, 0, .inl 0, []),
    (.return_, 61, 0, 0, 0, 0, .inl 0, [])])]
def gT_X12_plainGuest : gs_T := ([], gB_X12_plainGuest, [(2, [0, 1, 2])])
set_option maxRecDepth 100000 in
def gB_X12_guestLine : List (Nat × List gs_N) := [(0, [(.aload_n 0, 1, 0, 0, 0, 0, .inl 0, []),
    (.invokevirtual 214, 4, 197, 1, 0, 11, .inl 0, []),
    (.istore_n 2, 5, 2, 0, 0, 0, .inl 0, []),
    (.aload_n 0, 6, 0, 0, 0, 0, .inl 0, []),
    (.iload_n 2, 7, 2, 0, 0, 0, .inl 0, []),
    (.invokevirtual 218, 10, 198, 2, 2, 11, .inl 0, []),
    (.iload_n 1, 11, 1, 0, 0, 0, .inl 0, []),
    (.ifCond .eq 60, 14, 71, 0, 0, 0, .inl 0, []),
    (.aload_n 0, 15, 0, 0, 0, 0, .inl 0, []),
    (.iconst 0, 16, 0, 0, 0, 0, .inl 0, []),
    (.sipush 1999, 19, 0, 0, 0, 0, .inl 1999, []),
    (.invokevirtual 204, 22, 187, 3, 0, 11, .inl 0, []),
    (.ifCond .ne 5, 25, 27, 0, 0, 0, .inl 0, []),
    (.iconst 0, 26, 0, 0, 0, 0, .inl 0, []),
    (.ireturn, 27, 1, 0, 0, 0, .inl 0, [])]),
  (27, [(.aload_n 0, 28, 0, 0, 0, 0, .inl 0, []),
    (.getfield 59, 31, 11, 26, 2, 1, .inl 0, []),
    (.iload_n 2, 32, 2, 0, 0, 0, .inl 0, []),
    (.iconst 1, 33, 0, 0, 0, 0, .inl 1, []),
    (.iadd, 34, 0, 0, 0, 0, .inl 0, []),
    (.aload_n 0, 35, 0, 0, 0, 0, .inl 0, []),
    (.getfield 177, 38, 11, 11, 0, 0, .inl 0, []),
    (.iastore, 39, 0, 0, 0, 0, .inl 0, []),
    (.aload_n 0, 40, 0, 0, 0, 0, .inl 0, []),
    (.aload_n 0, 41, 0, 0, 0, 0, .inl 0, []),
    (.getfield 177, 44, 11, 11, 0, 0, .inl 0, []),
    (.sipush 1999, 47, 0, 0, 0, 0, .inl 1999, []),
    (.invokevirtual 204, 50, 187, 3, 0, 11, .inl 0, []),
    (.ifCond .ne 5, 53, 55, 0, 0, 0, .inl 0, []),
    (.iconst 0, 54, 0, 0, 0, 0, .inl 0, []),
    (.ireturn, 55, 1, 0, 0, 0, .inl 0, [])]),
  (55, [(.aload_n 0, 56, 0, 0, 0, 0, .inl 0, []),
    (.getfield 59, 59, 11, 26, 2, 1, .inl 0, []),
    (.iload_n 2, 60, 2, 0, 0, 0, .inl 0, []),
    (.bipush 13, 62, 0, 0, 0, 0, .inl 13, []),
    (.iadd, 63, 0, 0, 0, 0, .inl 0, []),
    (.aload_n 0, 64, 0, 0, 0, 0, .inl 0, []),
    (.getfield 177, 67, 11, 11, 0, 0, .inl 0, []),
    (.iastore, 68, 0, 0, 0, 0, .inl 0, []),
    (.goto 144, 71, 212, 0, 0, 0, .inl 0, [])]),
  (71, [(.aload_n 0, 72, 0, 0, 0, 0, .inl 0, []),
    (.aload_n 0, 73, 0, 0, 0, 0, .inl 0, []),
    (.getfield 35, 76, 11, 18, 2, 1, .inl 0, []),
    (.bipush 8, 78, 0, 0, 0, 0, .inl 8, []),
    (.aload_n 0, 79, 0, 0, 0, 0, .inl 0, []),
    (.getfield 23, 82, 11, 13, 2, 1, .inl 0, []),
    (.iconst 0, 83, 0, 0, 0, 0, .inl 0, []),
    (.iaload, 84, 0, 0, 0, 0, .inl 0, []),
    (.invokevirtual 211, 87, 193, 4, 0, 11, .inl 0, []),
    (.ifCond .ne 5, 90, 92, 0, 0, 0, .inl 0, []),
    (.iconst 0, 91, 0, 0, 0, 0, .inl 0, []),
    (.ireturn, 92, 1, 0, 0, 0, .inl 0, [])]),
  (92, [(.aload_n 0, 93, 0, 0, 0, 0, .inl 0, []),
    (.getfield 177, 96, 11, 11, 0, 0, .inl 0, []),
    (.istore_n 3, 97, 3, 0, 0, 0, .inl 0, []),
    (.aload_n 0, 98, 0, 0, 0, 0, .inl 0, []),
    (.getfield 59, 101, 11, 26, 2, 1, .inl 0, []),
    (.iload_n 2, 102, 2, 0, 0, 0, .inl 0, []),
    (.iload_n 3, 103, 3, 0, 0, 0, .inl 0, []),
    (.iastore, 104, 0, 0, 0, 0, .inl 0, []),
    (.aload_n 0, 105, 0, 0, 0, 0, .inl 0, []),
    (.iconst 1, 106, 0, 0, 0, 0, .inl 1, []),
    (.aload_n 0, 107, 0, 0, 0, 0, .inl 0, []),
    (.getfield 41, 110, 11, 20, 2, 1, .inl 0, []),
    (.bipush 8, 112, 0, 0, 0, 0, .inl 8, []),
    (.iload_n 3, 113, 3, 0, 0, 0, .inl 0, []),
    (.iadd, 114, 0, 0, 0, 0, .inl 0, []),
    (.iaload, 115, 0, 0, 0, 0, .inl 0, []),
    (.invokevirtual 204, 118, 187, 3, 0, 11, .inl 0, []),
    (.ifCond .ne 5, 121, 123, 0, 0, 0, .inl 0, []),
    (.iconst 0, 122, 0, 0, 0, 0, .inl 0, []),
    (.ireturn, 123, 1, 0, 0, 0, .inl 0, [])]),
  (123, [(.aload_n 0, 124, 0, 0, 0, 0, .inl 0, []),
    (.getfield 59, 127, 11, 26, 2, 1, .inl 0, []),
    (.iload_n 2, 128, 2, 0, 0, 0, .inl 0, []),
    (.iconst 1, 129, 0, 0, 0, 0, .inl 1, []),
    (.iadd, 130, 0, 0, 0, 0, .inl 0, []),
    (.aload_n 0, 131, 0, 0, 0, 0, .inl 0, []),
    (.getfield 38, 134, 11, 19, 2, 1, .inl 0, []),
    (.bipush 8, 136, 0, 0, 0, 0, .inl 8, []),
    (.iload_n 3, 137, 3, 0, 0, 0, .inl 0, []),
    (.iadd, 138, 0, 0, 0, 0, .inl 0, []),
    (.iaload, 139, 0, 0, 0, 0, .inl 0, []),
    (.aload_n 0, 140, 0, 0, 0, 0, .inl 0, []),
    (.getfield 177, 143, 11, 11, 0, 0, .inl 0, []),
    (.iadd, 144, 0, 0, 0, 0, .inl 0, []),
    (.iconst 1, 145, 0, 0, 0, 0, .inl 1, []),
    (.isub, 146, 0, 0, 0, 0, .inl 0, []),
    (.iastore, 147, 0, 0, 0, 0, .inl 0, []),
    (.aload_n 0, 148, 0, 0, 0, 0, .inl 0, []),
    (.getfield 59, 151, 11, 26, 2, 1, .inl 0, []),
    (.iload_n 2, 152, 2, 0, 0, 0, .inl 0, []),
    (.bipush 13, 154, 0, 0, 0, 0, .inl 13, []),
    (.iadd, 155, 0, 0, 0, 0, .inl 0, []),
    (.aload_n 0, 156, 0, 0, 0, 0, .inl 0, []),
    (.getfield 59, 159, 11, 26, 2, 1, .inl 0, []),
    (.iload_n 2, 160, 2, 0, 0, 0, .inl 0, []),
    (.iconst 1, 161, 0, 0, 0, 0, .inl 1, []),
    (.iadd, 162, 0, 0, 0, 0, .inl 0, []),
    (.iaload, 163, 0, 0, 0, 0, .inl 0, []),
    (.iastore, 164, 0, 0, 0, 0, .inl 0, []),
    (.aload_n 0, 165, 0, 0, 0, 0, .inl 0, []),
    (.iconst 1, 166, 0, 0, 0, 0, .inl 1, []),
    (.bipush 12, 168, 0, 0, 0, 0, .inl 12, []),
    (.invokevirtual 204, 171, 187, 3, 0, 11, .inl 0, []),
    (.ifCond .ne 5, 174, 176, 0, 0, 0, .inl 0, []),
    (.iconst 0, 175, 0, 0, 0, 0, .inl 0, []),
    (.ireturn, 176, 1, 0, 0, 0, .inl 0, [])]),
  (176, [(.aload_n 0, 177, 0, 0, 0, 0, .inl 0, []),
    (.getfield 59, 180, 11, 26, 2, 1, .inl 0, []),
    (.iload_n 2, 181, 2, 0, 0, 0, .inl 0, []),
    (.iconst 2, 182, 0, 0, 0, 0, .inl 2, []),
    (.iadd, 183, 0, 0, 0, 0, .inl 0, []),
    (.aload_n 0, 184, 0, 0, 0, 0, .inl 0, []),
    (.getfield 177, 187, 11, 11, 0, 0, .inl 0, []),
    (.iastore, 188, 0, 0, 0, 0, .inl 0, []),
    (.aload_n 0, 189, 0, 0, 0, 0, .inl 0, []),
    (.iconst 0, 190, 0, 0, 0, 0, .inl 0, []),
    (.bipush 59, 192, 0, 0, 0, 0, .inl 59, []),
    (.invokevirtual 204, 195, 187, 3, 0, 11, .inl 0, []),
    (.ifCond .ne 5, 198, 200, 0, 0, 0, .inl 0, []),
    (.iconst 0, 199, 0, 0, 0, 0, .inl 0, []),
    (.ireturn, 200, 1, 0, 0, 0, .inl 0, [])]),
  (200, [(.aload_n 0, 201, 0, 0, 0, 0, .inl 0, []),
    (.getfield 59, 204, 11, 26, 2, 1, .inl 0, []),
    (.iload_n 2, 205, 2, 0, 0, 0, .inl 0, []),
    (.iconst 3, 206, 0, 0, 0, 0, .inl 3, []),
    (.iadd, 207, 0, 0, 0, 0, .inl 0, []),
    (.aload_n 0, 208, 0, 0, 0, 0, .inl 0, []),
    (.getfield 177, 211, 11, 11, 0, 0, .inl 0, []),
    (.iastore, 212, 0, 0, 0, 0, .inl 0, [])]),
  (212, [(.iconst 0, 213, 0, 0, 0, 0, .inl 0, []),
    (.istore_n 3, 214, 3, 0, 0, 0, .inl 0, []),
    (.aload_n 0, 215, 0, 0, 0, 0, .inl 0, []),
    (.invokevirtual 222, 218, 200, 1, 0, 11, .inl 0, []),
    (.istore 4, 220, 4, 0, 0, 0, .inl 0, [])]),
  (220, [(.iload 4, 222, 4, 0, 0, 0, .inl 0, []),
    (.ifCond .lt 50, 225, 272, 0, 0, 0, .inl 0, []),
    (.iload_n 3, 226, 3, 0, 0, 0, .inl 0, []),
    (.iload 4, 228, 4, 0, 0, 0, .inl 0, []),
    (.invokestatic 225, 231, 176, 2, 0, 1, .inl 0, []),
    (.ifCond .eq 9, 234, 240, 0, 0, 0, .inl 0, []),
    (.aload_n 0, 235, 0, 0, 0, 0, .inl 0, []),
    (.iconst 3, 236, 0, 0, 0, 0, .inl 3, []),
    (.invokevirtual 170, 239, 178, 2, 0, 11, .inl 0, []),
    (.ireturn, 240, 1, 0, 0, 0, .inl 0, [])]),
  (240, [(.iload_n 3, 241, 3, 0, 0, 0, .inl 0, []),
    (.iconst 1, 242, 0, 0, 0, 0, .inl 1, []),
    (.iload 4, 244, 4, 0, 0, 0, .inl 0, []),
    (.ishl, 245, 0, 0, 0, 0, .inl 0, []),
    (.ior, 246, 0, 0, 0, 0, .inl 0, []),
    (.istore_n 3, 247, 3, 0, 0, 0, .inl 0, []),
    (.aload_n 0, 248, 0, 0, 0, 0, .inl 0, []),
    (.invokevirtual 180, 251, 182, 1, 2, 11, .inl 0, []),
    (.aload_n 0, 252, 0, 0, 0, 0, .inl 0, []),
    (.iload_n 2, 253, 2, 0, 0, 0, .inl 0, []),
    (.iload 4, 255, 4, 0, 0, 0, .inl 0, []),
    (.invokevirtual 228, 258, 201, 3, 0, 11, .inl 0, []),
    (.ifCond .ne 5, 261, 263, 0, 0, 0, .inl 0, []),
    (.iconst 0, 262, 0, 0, 0, 0, .inl 0, []),
    (.ireturn, 263, 1, 0, 0, 0, .inl 0, [])]),
  (263, [(.aload_n 0, 264, 0, 0, 0, 0, .inl 0, []),
    (.invokevirtual 222, 267, 200, 1, 0, 11, .inl 0, []),
    (.istore 4, 269, 4, 0, 0, 0, .inl 0, []),
    (.goto (-49), 272, 220, 0, 0, 0, .inl 0, [])]),
  (272, [(.iconst 1, 273, 0, 0, 0, 0, .inl 1, []),
    (.ireturn, 274, 1, 0, 0, 0, .inl 0, [])])]
def gT_X12_guestLine : gs_T := ([], gB_X12_guestLine, [(220, [0, 2, 3, 4])])
set_option maxRecDepth 100000 in
def gB_X12_guestWord : List (Nat × List gs_N) := [(0, [(.aload_n 0, 1, 0, 0, 0, 0, .inl 0, []),
    (.getfield 147, 4, 11, 8, 0, 0, .inl 0, []),
    (.iconst 1, 5, 0, 0, 0, 0, .inl 1, []),
    (.if_icmp .eq 7, 8, 12, 0, 0, 0, .inl 0, []),
    (.iconst (-1), 9, 0, 0, 0, 0, .inl (-1), []),
    (.goto 54, 12, 63, 0, 0, 0, .inl 0, [])]),
  (12, [(.aload_n 0, 13, 0, 0, 0, 0, .inl 0, []),
    (.getfield 158, 16, 11, 9, 0, 0, .inl 0, []),
    (.bipush 13, 18, 0, 0, 0, 0, .inl 13, []),
    (.bipush 15, 20, 0, 0, 0, 0, .inl 15, []),
    (.invokestatic 173, 23, 175, 3, 0, 1, .inl 0, []),
    (.ifCond .eq 13, 26, 36, 0, 0, 0, .inl 0, []),
    (.aload_n 0, 27, 0, 0, 0, 0, .inl 0, []),
    (.getfield 158, 30, 11, 9, 0, 0, .inl 0, []),
    (.bipush 13, 32, 0, 0, 0, 0, .inl 13, []),
    (.isub, 33, 0, 0, 0, 0, .inl 0, []),
    (.goto 30, 36, 63, 0, 0, 0, .inl 0, [])]),
  (36, [(.aload_n 0, 37, 0, 0, 0, 0, .inl 0, []),
    (.getfield 158, 40, 11, 9, 0, 0, .inl 0, []),
    (.bipush 26, 42, 0, 0, 0, 0, .inl 26, []),
    (.bipush 29, 44, 0, 0, 0, 0, .inl 29, []),
    (.invokestatic 173, 47, 175, 3, 0, 1, .inl 0, []),
    (.ifCond .eq 15, 50, 62, 0, 0, 0, .inl 0, []),
    (.aload_n 0, 51, 0, 0, 0, 0, .inl 0, []),
    (.getfield 158, 54, 11, 9, 0, 0, .inl 0, []),
    (.bipush 26, 56, 0, 0, 0, 0, .inl 26, []),
    (.isub, 57, 0, 0, 0, 0, .inl 0, []),
    (.iconst 3, 58, 0, 0, 0, 0, .inl 3, []),
    (.iadd, 59, 0, 0, 0, 0, .inl 0, []),
    (.goto 4, 62, 63, 0, 0, 0, .inl 0, [])]),
  (62, [(.iconst (-1), 63, 0, 0, 0, 0, .inl (-1), [])]),
  (63, [(.ireturn, 64, 0, 0, 0, 0, .inl 0, [])])]
def gT_X12_guestWord : gs_T := ([], gB_X12_guestWord, [])
set_option maxRecDepth 100000 in
def gB_X12_guestHas : List (Nat × List gs_N) := [(0, [(.iload_n 2, 1, 2, 0, 0, 0, .inl 0, []),
    (.tableswitch 130 0 5 #[39, 75, 81, 93, 106, 118], 40, 131, 39, 0, 0, .inl 0, [(0, 40), (1, 76), (2, 82), (3, 94), (4, 107), (5, 119)])]),
  (40, [(.aload_n 0, 41, 0, 0, 0, 0, .inl 0, []),
    (.aload_n 0, 42, 0, 0, 0, 0, .inl 0, []),
    (.getfield 53, 45, 11, 24, 2, 1, .inl 0, []),
    (.bipush 8, 47, 0, 0, 0, 0, .inl 8, []),
    (.aload_n 0, 48, 0, 0, 0, 0, .inl 0, []),
    (.getfield 23, 51, 11, 13, 2, 1, .inl 0, []),
    (.iconst 2, 52, 0, 0, 0, 0, .inl 2, []),
    (.iaload, 53, 0, 0, 0, 0, .inl 0, []),
    (.invokevirtual 211, 56, 193, 4, 0, 11, .inl 0, []),
    (.ifCond .ne 5, 59, 61, 0, 0, 0, .inl 0, []),
    (.iconst 0, 60, 0, 0, 0, 0, .inl 0, []),
    (.ireturn, 61, 1, 0, 0, 0, .inl 0, [])]),
  (61, [(.aload_n 0, 62, 0, 0, 0, 0, .inl 0, []),
    (.getfield 59, 65, 11, 26, 2, 1, .inl 0, []),
    (.iload_n 1, 66, 1, 0, 0, 0, .inl 0, []),
    (.bipush 12, 68, 0, 0, 0, 0, .inl 12, []),
    (.iadd, 69, 0, 0, 0, 0, .inl 0, []),
    (.aload_n 0, 70, 0, 0, 0, 0, .inl 0, []),
    (.getfield 177, 73, 11, 11, 0, 0, .inl 0, []),
    (.iastore, 74, 0, 0, 0, 0, .inl 0, []),
    (.iconst 1, 75, 0, 0, 0, 0, .inl 1, []),
    (.ireturn, 76, 1, 0, 0, 0, .inl 0, [])]),
  (76, [(.aload_n 0, 77, 0, 0, 0, 0, .inl 0, []),
    (.iload_n 1, 78, 1, 0, 0, 0, .inl 0, []),
    (.invokevirtual 231, 81, 204, 2, 0, 11, .inl 0, []),
    (.ireturn, 82, 1, 0, 0, 0, .inl 0, [])]),
  (82, [(.aload_n 0, 83, 0, 0, 0, 0, .inl 0, []),
    (.iload_n 1, 84, 1, 0, 0, 0, .inl 0, []),
    (.bipush 11, 86, 0, 0, 0, 0, .inl 11, []),
    (.iadd, 87, 0, 0, 0, 0, .inl 0, []),
    (.iconst 1, 88, 0, 0, 0, 0, .inl 1, []),
    (.bipush 9, 90, 0, 0, 0, 0, .inl 9, []),
    (.invokevirtual 234, 93, 202, 4, 0, 11, .inl 0, []),
    (.ireturn, 94, 1, 0, 0, 0, .inl 0, [])]),
  (94, [(.aload_n 0, 95, 0, 0, 0, 0, .inl 0, []),
    (.iload_n 1, 96, 1, 0, 0, 0, .inl 0, []),
    (.bipush 7, 98, 0, 0, 0, 0, .inl 7, []),
    (.iadd, 99, 0, 0, 0, 0, .inl 0, []),
    (.iconst 1, 100, 0, 0, 0, 0, .inl 1, []),
    (.sipush 999, 103, 0, 0, 0, 0, .inl 999, []),
    (.invokevirtual 234, 106, 202, 4, 0, 11, .inl 0, []),
    (.ireturn, 107, 1, 0, 0, 0, .inl 0, [])]),
  (107, [(.aload_n 0, 108, 0, 0, 0, 0, .inl 0, []),
    (.iload_n 1, 109, 1, 0, 0, 0, .inl 0, []),
    (.bipush 8, 111, 0, 0, 0, 0, .inl 8, []),
    (.iadd, 112, 0, 0, 0, 0, .inl 0, []),
    (.iconst 0, 113, 0, 0, 0, 0, .inl 0, []),
    (.bipush 20, 115, 0, 0, 0, 0, .inl 20, []),
    (.invokevirtual 234, 118, 202, 4, 0, 11, .inl 0, []),
    (.ireturn, 119, 1, 0, 0, 0, .inl 0, [])]),
  (119, [(.aload_n 0, 120, 0, 0, 0, 0, .inl 0, []),
    (.iload_n 1, 121, 1, 0, 0, 0, .inl 0, []),
    (.bipush 9, 123, 0, 0, 0, 0, .inl 9, []),
    (.iadd, 124, 0, 0, 0, 0, .inl 0, []),
    (.iconst 0, 125, 0, 0, 0, 0, .inl 0, []),
    (.bipush 99, 127, 0, 0, 0, 0, .inl 99, []),
    (.invokevirtual 234, 130, 202, 4, 0, 11, .inl 0, []),
    (.ireturn, 131, 1, 0, 0, 0, .inl 0, [])]),
  (131, [(.aload_n 0, 132, 0, 0, 0, 0, .inl 0, []),
    (.getfield 59, 135, 11, 26, 2, 1, .inl 0, []),
    (.iload_n 1, 136, 1, 0, 0, 0, .inl 0, []),
    (.bipush 10, 138, 0, 0, 0, 0, .inl 10, []),
    (.iadd, 139, 0, 0, 0, 0, .inl 0, []),
    (.iconst 1, 140, 0, 0, 0, 0, .inl 1, []),
    (.iastore, 141, 0, 0, 0, 0, .inl 0, []),
    (.iconst 1, 142, 0, 0, 0, 0, .inl 1, []),
    (.ireturn, 143, 1, 0, 0, 0, .inl 0, [])])]
def gT_X12_guestHas : gs_T := ([], gB_X12_guestHas, [])
set_option maxRecDepth 100000 in
def gB_X12_kept : List (Nat × List gs_N) := [(0, [(.aload_n 0, 1, 0, 0, 0, 0, .inl 0, []),
    (.iload_n 2, 2, 2, 0, 0, 0, .inl 0, []),
    (.iload_n 3, 3, 3, 0, 0, 0, .inl 0, []),
    (.invokevirtual 204, 6, 187, 3, 0, 11, .inl 0, []),
    (.ifCond .ne 5, 9, 11, 0, 0, 0, .inl 0, []),
    (.iconst 0, 10, 0, 0, 0, 0, .inl 0, []),
    (.ireturn, 11, 1, 0, 0, 0, .inl 0, [])]),
  (11, [(.aload_n 0, 12, 0, 0, 0, 0, .inl 0, []),
    (.getfield 59, 15, 11, 26, 2, 1, .inl 0, []),
    (.iload_n 1, 16, 1, 0, 0, 0, .inl 0, []),
    (.aload_n 0, 17, 0, 0, 0, 0, .inl 0, []),
    (.getfield 177, 20, 11, 11, 0, 0, .inl 0, []),
    (.iastore, 21, 0, 0, 0, 0, .inl 0, []),
    (.iconst 1, 22, 0, 0, 0, 0, .inl 1, []),
    (.ireturn, 23, 1, 0, 0, 0, .inl 0, [])])]
def gT_X12_kept : gs_T := ([], gB_X12_kept, [])
set_option maxRecDepth 100000 in
def gB_X12_isSide : List (Nat × List gs_N) := [(0, [(.aload_n 0, 1, 0, 0, 0, 0, .inl 0, []),
    (.getfield 147, 4, 11, 8, 0, 0, .inl 0, []),
    (.iconst 1, 5, 0, 0, 0, 0, .inl 1, []),
    (.if_icmp .ne 25, 8, 30, 0, 0, 0, .inl 0, []),
    (.aload_n 0, 9, 0, 0, 0, 0, .inl 0, []),
    (.getfield 158, 12, 11, 9, 0, 0, .inl 0, []),
    (.bipush 19, 14, 0, 0, 0, 0, .inl 19, []),
    (.if_icmp .lt 16, 17, 30, 0, 0, 0, .inl 0, []),
    (.aload_n 0, 18, 0, 0, 0, 0, .inl 0, []),
    (.getfield 158, 21, 11, 9, 0, 0, .inl 0, []),
    (.bipush 22, 23, 0, 0, 0, 0, .inl 22, []),
    (.if_icmp .gt 7, 26, 30, 0, 0, 0, .inl 0, []),
    (.iconst 1, 27, 0, 0, 0, 0, .inl 1, []),
    (.goto 4, 30, 31, 0, 0, 0, .inl 0, [])]),
  (30, [(.iconst 0, 31, 0, 0, 0, 0, .inl 0, [])]),
  (31, [(.ireturn, 32, 1, 0, 0, 0, .inl 0, [])])]
def gT_X12_isSide : gs_T := ([], gB_X12_isSide, [])
set_option maxRecDepth 100000 in
def gB_X12_nearRead : List (Nat × List gs_N) := [(0, [(.aload_n 0, 1, 0, 0, 0, 0, .inl 0, []),
    (.aload_n 0, 2, 0, 0, 0, 0, .inl 0, []),
    (.getfield 44, 5, 11, 21, 2, 1, .inl 0, []),
    (.bipush 10, 7, 0, 0, 0, 0, .inl 10, []),
    (.aload_n 0, 8, 0, 0, 0, 0, .inl 0, []),
    (.getfield 23, 11, 11, 13, 2, 1, .inl 0, []),
    (.iconst 1, 12, 0, 0, 0, 0, .inl 1, []),
    (.iaload, 13, 0, 0, 0, 0, .inl 0, []),
    (.invokevirtual 211, 16, 193, 4, 0, 11, .inl 0, []),
    (.ifCond .ne 5, 19, 21, 0, 0, 0, .inl 0, []),
    (.iconst 0, 20, 0, 0, 0, 0, .inl 0, []),
    (.ireturn, 21, 1, 0, 0, 0, .inl 0, [])]),
  (21, [(.aload_n 0, 22, 0, 0, 0, 0, .inl 0, []),
    (.getfield 59, 25, 11, 26, 2, 1, .inl 0, []),
    (.iload_n 1, 26, 1, 0, 0, 0, .inl 0, []),
    (.iconst 4, 27, 0, 0, 0, 0, .inl 4, []),
    (.iadd, 28, 0, 0, 0, 0, .inl 0, []),
    (.aload_n 0, 29, 0, 0, 0, 0, .inl 0, []),
    (.getfield 177, 32, 11, 11, 0, 0, .inl 0, []),
    (.iastore, 33, 0, 0, 0, 0, .inl 0, []),
    (.aload_n 0, 34, 0, 0, 0, 0, .inl 0, []),
    (.iload_n 1, 35, 1, 0, 0, 0, .inl 0, []),
    (.iconst 5, 36, 0, 0, 0, 0, .inl 5, []),
    (.iadd, 37, 0, 0, 0, 0, .inl 0, []),
    (.iconst 1, 38, 0, 0, 0, 0, .inl 1, []),
    (.bipush 20, 40, 0, 0, 0, 0, .inl 20, []),
    (.invokevirtual 234, 43, 202, 4, 0, 11, .inl 0, []),
    (.ifCond .ne 5, 46, 48, 0, 0, 0, .inl 0, []),
    (.iconst 0, 47, 0, 0, 0, 0, .inl 0, []),
    (.ireturn, 48, 1, 0, 0, 0, .inl 0, [])]),
  (48, [(.aload_n 0, 49, 0, 0, 0, 0, .inl 0, []),
    (.invokevirtual 237, 52, 203, 1, 0, 11, .inl 0, []),
    (.ifCond .ne 9, 55, 61, 0, 0, 0, .inl 0, []),
    (.aload_n 0, 56, 0, 0, 0, 0, .inl 0, []),
    (.iconst 1, 57, 0, 0, 0, 0, .inl 1, []),
    (.invokevirtual 170, 60, 178, 2, 0, 11, .inl 0, []),
    (.ireturn, 61, 1, 0, 0, 0, .inl 0, [])]),
  (61, [(.aload_n 0, 62, 0, 0, 0, 0, .inl 0, []),
    (.getfield 158, 65, 11, 9, 0, 0, .inl 0, []),
    (.bipush 19, 67, 0, 0, 0, 0, .inl 19, []),
    (.isub, 68, 0, 0, 0, 0, .inl 0, []),
    (.istore_n 2, 69, 2, 0, 0, 0, .inl 0, []),
    (.aload_n 0, 70, 0, 0, 0, 0, .inl 0, []),
    (.getfield 59, 73, 11, 26, 2, 1, .inl 0, []),
    (.iload_n 1, 74, 1, 0, 0, 0, .inl 0, []),
    (.bipush 6, 76, 0, 0, 0, 0, .inl 6, []),
    (.iadd, 77, 0, 0, 0, 0, .inl 0, []),
    (.iconst 1, 78, 0, 0, 0, 0, .inl 1, []),
    (.iload_n 2, 79, 2, 0, 0, 0, .inl 0, []),
    (.ishl, 80, 0, 0, 0, 0, .inl 0, []),
    (.iastore, 81, 0, 0, 0, 0, .inl 0, []),
    (.aload_n 0, 82, 0, 0, 0, 0, .inl 0, []),
    (.invokevirtual 180, 85, 182, 1, 2, 11, .inl 0, []),
    (.aload_n 0, 86, 0, 0, 0, 0, .inl 0, []),
    (.invokevirtual 237, 89, 203, 1, 0, 11, .inl 0, []),
    (.ifCond .ne 5, 92, 94, 0, 0, 0, .inl 0, []),
    (.iconst 1, 93, 0, 0, 0, 0, .inl 1, []),
    (.ireturn, 94, 1, 0, 0, 0, .inl 0, [])]),
  (94, [(.aload_n 0, 95, 0, 0, 0, 0, .inl 0, []),
    (.getfield 158, 98, 11, 9, 0, 0, .inl 0, []),
    (.bipush 19, 100, 0, 0, 0, 0, .inl 19, []),
    (.isub, 101, 0, 0, 0, 0, .inl 0, []),
    (.iconst 2, 102, 0, 0, 0, 0, .inl 2, []),
    (.idiv, 103, 0, 0, 0, 0, .inl 0, []),
    (.iload_n 2, 104, 2, 0, 0, 0, .inl 0, []),
    (.iconst 2, 105, 0, 0, 0, 0, .inl 2, []),
    (.idiv, 106, 0, 0, 0, 0, .inl 0, []),
    (.if_icmp .ne 9, 109, 115, 0, 0, 0, .inl 0, []),
    (.aload_n 0, 110, 0, 0, 0, 0, .inl 0, []),
    (.iconst 3, 111, 0, 0, 0, 0, .inl 3, []),
    (.invokevirtual 170, 114, 178, 2, 0, 11, .inl 0, []),
    (.ireturn, 115, 1, 0, 0, 0, .inl 0, [])]),
  (115, [(.aload_n 0, 116, 0, 0, 0, 0, .inl 0, []),
    (.getfield 59, 119, 11, 26, 2, 1, .inl 0, []),
    (.iload_n 1, 120, 1, 0, 0, 0, .inl 0, []),
    (.bipush 6, 122, 0, 0, 0, 0, .inl 6, []),
    (.iadd, 123, 0, 0, 0, 0, .inl 0, []),
    (.dup2, 124, 0, 0, 0, 0, .inl 0, []),
    (.iaload, 125, 0, 0, 0, 0, .inl 0, []),
    (.iconst 1, 126, 0, 0, 0, 0, .inl 1, []),
    (.aload_n 0, 127, 0, 0, 0, 0, .inl 0, []),
    (.getfield 158, 130, 11, 9, 0, 0, .inl 0, []),
    (.bipush 19, 132, 0, 0, 0, 0, .inl 19, []),
    (.isub, 133, 0, 0, 0, 0, .inl 0, []),
    (.ishl, 134, 0, 0, 0, 0, .inl 0, []),
    (.ior, 135, 0, 0, 0, 0, .inl 0, []),
    (.iastore, 136, 0, 0, 0, 0, .inl 0, []),
    (.aload_n 0, 137, 0, 0, 0, 0, .inl 0, []),
    (.invokevirtual 180, 140, 182, 1, 2, 11, .inl 0, []),
    (.iconst 1, 141, 0, 0, 0, 0, .inl 1, []),
    (.ireturn, 142, 1, 0, 0, 0, .inl 0, [])])]
def gT_X12_nearRead : gs_T := ([], gB_X12_nearRead, [])
set_option maxRecDepth 100000 in
def gB_X12_cloudLine : List (Nat × List gs_N) := [(0, [(.bipush 90, 2, 0, 0, 0, 0, .inl 90, []),
    (.bipush 9, 4, 0, 0, 0, 0, .inl 9, []),
    (.aload_n 0, 5, 0, 0, 0, 0, .inl 0, []),
    (.getfield 23, 8, 11, 13, 2, 1, .inl 0, []),
    (.iconst 5, 9, 0, 0, 0, 0, .inl 5, []),
    (.iaload, 10, 0, 0, 0, 0, .inl 0, []),
    (.imul, 11, 0, 0, 0, 0, .inl 0, []),
    (.iadd, 12, 0, 0, 0, 0, .inl 0, []),
    (.istore_n 1, 13, 1, 0, 0, 0, .inl 0, []),
    (.iconst 0, 14, 0, 0, 0, 0, .inl 0, []),
    (.istore_n 2, 15, 2, 0, 0, 0, .inl 0, [])]),
  (15, [(.iload_n 2, 16, 2, 0, 0, 0, .inl 0, []),
    (.bipush 9, 18, 0, 0, 0, 0, .inl 9, []),
    (.if_icmp .ge 18, 21, 36, 0, 0, 0, .inl 0, []),
    (.aload_n 0, 22, 0, 0, 0, 0, .inl 0, []),
    (.getfield 62, 25, 11, 27, 2, 1, .inl 0, []),
    (.iload_n 1, 26, 1, 0, 0, 0, .inl 0, []),
    (.iload_n 2, 27, 2, 0, 0, 0, .inl 0, []),
    (.iadd, 28, 0, 0, 0, 0, .inl 0, []),
    (.iconst 0, 29, 0, 0, 0, 0, .inl 0, []),
    (.iastore, 30, 0, 0, 0, 0, .inl 0, []),
    (.iinc 2 1, 33, 2, 0, 0, 0, .inl 1, []),
    (.goto (-18), 36, 15, 0, 0, 0, .inl 0, [])]),
  (36, [(.aload_n 0, 37, 0, 0, 0, 0, .inl 0, []),
    (.getfield 62, 40, 11, 27, 2, 1, .inl 0, []),
    (.iload_n 1, 41, 1, 0, 0, 0, .inl 0, []),
    (.bipush 6, 43, 0, 0, 0, 0, .inl 6, []),
    (.iadd, 44, 0, 0, 0, 0, .inl 0, []),
    (.bipush 10, 46, 0, 0, 0, 0, .inl 10, []),
    (.iastore, 47, 0, 0, 0, 0, .inl 0, []),
    (.aload_n 0, 48, 0, 0, 0, 0, .inl 0, []),
    (.iconst 0, 49, 0, 0, 0, 0, .inl 0, []),
    (.bipush 119, 51, 0, 0, 0, 0, .inl 119, []),
    (.invokevirtual 204, 54, 187, 3, 0, 11, .inl 0, []),
    (.ifCond .ne 5, 57, 59, 0, 0, 0, .inl 0, []),
    (.iconst 0, 58, 0, 0, 0, 0, .inl 0, []),
    (.ireturn, 59, 1, 0, 0, 0, .inl 0, [])]),
  (59, [(.aload_n 0, 60, 0, 0, 0, 0, .inl 0, []),
    (.getfield 62, 63, 11, 27, 2, 1, .inl 0, []),
    (.iload_n 1, 64, 1, 0, 0, 0, .inl 0, []),
    (.aload_n 0, 65, 0, 0, 0, 0, .inl 0, []),
    (.getfield 177, 68, 11, 11, 0, 0, .inl 0, []),
    (.iastore, 69, 0, 0, 0, 0, .inl 0, []),
    (.aload_n 0, 70, 0, 0, 0, 0, .inl 0, []),
    (.iconst 0, 71, 0, 0, 0, 0, .inl 0, []),
    (.bipush 59, 73, 0, 0, 0, 0, .inl 59, []),
    (.invokevirtual 204, 76, 187, 3, 0, 11, .inl 0, []),
    (.ifCond .ne 5, 79, 81, 0, 0, 0, .inl 0, []),
    (.iconst 0, 80, 0, 0, 0, 0, .inl 0, []),
    (.ireturn, 81, 1, 0, 0, 0, .inl 0, [])]),
  (81, [(.aload_n 0, 82, 0, 0, 0, 0, .inl 0, []),
    (.getfield 62, 85, 11, 27, 2, 1, .inl 0, []),
    (.iload_n 1, 86, 1, 0, 0, 0, .inl 0, []),
    (.iconst 1, 87, 0, 0, 0, 0, .inl 1, []),
    (.iadd, 88, 0, 0, 0, 0, .inl 0, []),
    (.aload_n 0, 89, 0, 0, 0, 0, .inl 0, []),
    (.getfield 177, 92, 11, 11, 0, 0, .inl 0, []),
    (.iastore, 93, 0, 0, 0, 0, .inl 0, []),
    (.iconst 2, 94, 0, 0, 0, 0, .inl 2, []),
    (.istore_n 2, 95, 2, 0, 0, 0, .inl 0, [])]),
  (95, [(.iload_n 2, 96, 2, 0, 0, 0, .inl 0, []),
    (.bipush 6, 98, 0, 0, 0, 0, .inl 6, []),
    (.if_icmp .ge 116, 101, 214, 0, 0, 0, .inl 0, []),
    (.aload_n 0, 102, 0, 0, 0, 0, .inl 0, []),
    (.bipush 16, 104, 0, 0, 0, 0, .inl 16, []),
    (.invokevirtual 208, 107, 185, 2, 0, 11, .inl 0, []),
    (.ifCond .ne 9, 110, 116, 0, 0, 0, .inl 0, []),
    (.aload_n 0, 111, 0, 0, 0, 0, .inl 0, []),
    (.iconst 1, 112, 0, 0, 0, 0, .inl 1, []),
    (.invokevirtual 170, 115, 178, 2, 0, 11, .inl 0, []),
    (.ireturn, 116, 1, 0, 0, 0, .inl 0, [])]),
  (116, [(.aload_n 0, 117, 0, 0, 0, 0, .inl 0, []),
    (.invokevirtual 180, 120, 182, 1, 2, 11, .inl 0, []),
    (.aload_n 0, 121, 0, 0, 0, 0, .inl 0, []),
    (.iload_n 2, 122, 2, 0, 0, 0, .inl 0, []),
    (.iconst 2, 123, 0, 0, 0, 0, .inl 2, []),
    (.if_icmp .ne 7, 126, 130, 0, 0, 0, .inl 0, []),
    (.iconst 0, 127, 0, 0, 0, 0, .inl 0, []),
    (.goto 13, 130, 140, 0, 0, 0, .inl 0, [])]),
  (130, [(.aload_n 0, 131, 0, 0, 0, 0, .inl 0, []),
    (.getfield 62, 134, 11, 27, 2, 1, .inl 0, []),
    (.iload_n 1, 135, 1, 0, 0, 0, .inl 0, []),
    (.iconst 2, 136, 0, 0, 0, 0, .inl 2, []),
    (.iadd, 137, 0, 0, 0, 0, .inl 0, []),
    (.iaload, 138, 0, 0, 0, 0, .inl 0, []),
    (.iconst 1, 139, 0, 0, 0, 0, .inl 1, []),
    (.iadd, 140, 0, 0, 0, 0, .inl 0, [])]),
  (140, [(.sipush 2999, 143, 0, 0, 0, 0, .inl 2999, []),
    (.invokevirtual 204, 146, 187, 3, 0, 11, .inl 0, []),
    (.ifCond .ne 5, 149, 151, 0, 0, 0, .inl 0, []),
    (.iconst 0, 150, 0, 0, 0, 0, .inl 0, []),
    (.ireturn, 151, 1, 0, 0, 0, .inl 0, [])]),
  (151, [(.aload_n 0, 152, 0, 0, 0, 0, .inl 0, []),
    (.getfield 62, 155, 11, 27, 2, 1, .inl 0, []),
    (.iload_n 1, 156, 1, 0, 0, 0, .inl 0, []),
    (.iload_n 2, 157, 2, 0, 0, 0, .inl 0, []),
    (.iadd, 158, 0, 0, 0, 0, .inl 0, []),
    (.aload_n 0, 159, 0, 0, 0, 0, .inl 0, []),
    (.getfield 177, 162, 11, 11, 0, 0, .inl 0, []),
    (.iastore, 163, 0, 0, 0, 0, .inl 0, []),
    (.aload_n 0, 164, 0, 0, 0, 0, .inl 0, []),
    (.iload_n 2, 165, 2, 0, 0, 0, .inl 0, []),
    (.iconst 2, 166, 0, 0, 0, 0, .inl 2, []),
    (.if_icmp .ne 7, 169, 173, 0, 0, 0, .inl 0, []),
    (.iconst 1, 170, 0, 0, 0, 0, .inl 1, []),
    (.goto 13, 173, 183, 0, 0, 0, .inl 0, [])]),
  (173, [(.aload_n 0, 174, 0, 0, 0, 0, .inl 0, []),
    (.getfield 62, 177, 11, 27, 2, 1, .inl 0, []),
    (.iload_n 1, 178, 1, 0, 0, 0, .inl 0, []),
    (.iconst 3, 179, 0, 0, 0, 0, .inl 3, []),
    (.iadd, 180, 0, 0, 0, 0, .inl 0, []),
    (.iaload, 181, 0, 0, 0, 0, .inl 0, []),
    (.iconst 1, 182, 0, 0, 0, 0, .inl 1, []),
    (.iadd, 183, 0, 0, 0, 0, .inl 0, [])]),
  (183, [(.sipush 9999, 186, 0, 0, 0, 0, .inl 9999, []),
    (.invokevirtual 204, 189, 187, 3, 0, 11, .inl 0, []),
    (.ifCond .ne 5, 192, 194, 0, 0, 0, .inl 0, []),
    (.iconst 0, 193, 0, 0, 0, 0, .inl 0, []),
    (.ireturn, 194, 1, 0, 0, 0, .inl 0, [])]),
  (194, [(.aload_n 0, 195, 0, 0, 0, 0, .inl 0, []),
    (.getfield 62, 198, 11, 27, 2, 1, .inl 0, []),
    (.iload_n 1, 199, 1, 0, 0, 0, .inl 0, []),
    (.iload_n 2, 200, 2, 0, 0, 0, .inl 0, []),
    (.iadd, 201, 0, 0, 0, 0, .inl 0, []),
    (.iconst 1, 202, 0, 0, 0, 0, .inl 1, []),
    (.iadd, 203, 0, 0, 0, 0, .inl 0, []),
    (.aload_n 0, 204, 0, 0, 0, 0, .inl 0, []),
    (.getfield 177, 207, 11, 11, 0, 0, .inl 0, []),
    (.iastore, 208, 0, 0, 0, 0, .inl 0, []),
    (.iinc 2 2, 211, 2, 0, 0, 0, .inl 2, []),
    (.goto (-116), 214, 95, 0, 0, 0, .inl 0, [])]),
  (214, [(.iconst 0, 215, 0, 0, 0, 0, .inl 0, []),
    (.istore_n 2, 216, 2, 0, 0, 0, .inl 0, []),
    (.iconst 0, 217, 0, 0, 0, 0, .inl 0, []),
    (.istore_n 3, 218, 3, 0, 0, 0, .inl 0, [])]),
  (218, [(.aload_n 0, 219, 0, 0, 0, 0, .inl 0, []),
    (.bipush 17, 221, 0, 0, 0, 0, .inl 17, []),
    (.invokevirtual 208, 224, 185, 2, 0, 11, .inl 0, []),
    (.ifCond .ne 12, 227, 236, 0, 0, 0, .inl 0, []),
    (.aload_n 0, 228, 0, 0, 0, 0, .inl 0, []),
    (.bipush 18, 230, 0, 0, 0, 0, .inl 18, []),
    (.invokevirtual 208, 233, 185, 2, 0, 11, .inl 0, []),
    (.ifCond .eq 150, 236, 383, 0, 0, 0, .inl 0, [])]),
  (236, [(.aload_n 0, 237, 0, 0, 0, 0, .inl 0, []),
    (.bipush 17, 239, 0, 0, 0, 0, .inl 17, []),
    (.invokevirtual 208, 242, 185, 2, 0, 11, .inl 0, []),
    (.istore 4, 244, 4, 0, 0, 0, .inl 0, []),
    (.iload 4, 246, 4, 0, 0, 0, .inl 0, []),
    (.ifCond .eq 10, 249, 256, 0, 0, 0, .inl 0, []),
    (.iload_n 2, 250, 2, 0, 0, 0, .inl 0, []),
    (.ifCond .eq 16, 253, 266, 0, 0, 0, .inl 0, []),
    (.goto 7, 256, 260, 0, 0, 0, .inl 0, [])]),
  (256, [(.iload_n 3, 257, 3, 0, 0, 0, .inl 0, []),
    (.ifCond .eq 9, 260, 266, 0, 0, 0, .inl 0, [])]),
  (260, [(.aload_n 0, 261, 0, 0, 0, 0, .inl 0, []),
    (.iconst 3, 262, 0, 0, 0, 0, .inl 3, []),
    (.invokevirtual 170, 265, 178, 2, 0, 11, .inl 0, []),
    (.ireturn, 266, 1, 0, 0, 0, .inl 0, [])]),
  (266, [(.iload_n 2, 267, 2, 0, 0, 0, .inl 0, []),
    (.ifCond .ne 8, 270, 275, 0, 0, 0, .inl 0, []),
    (.iload 4, 272, 4, 0, 0, 0, .inl 0, []),
    (.ifCond .eq 7, 275, 279, 0, 0, 0, .inl 0, [])]),
  (275, [(.iconst 1, 276, 0, 0, 0, 0, .inl 1, []),
    (.goto 4, 279, 280, 0, 0, 0, .inl 0, [])]),
  (279, [(.iconst 0, 280, 0, 0, 0, 0, .inl 0, [])]),
  (280, [(.istore_n 2, 281, 2, 0, 0, 0, .inl 0, []),
    (.iload_n 3, 282, 3, 0, 0, 0, .inl 0, []),
    (.ifCond .ne 8, 285, 290, 0, 0, 0, .inl 0, []),
    (.iload 4, 287, 4, 0, 0, 0, .inl 0, []),
    (.ifCond .ne 7, 290, 294, 0, 0, 0, .inl 0, [])]),
  (290, [(.iconst 1, 291, 0, 0, 0, 0, .inl 1, []),
    (.goto 4, 294, 295, 0, 0, 0, .inl 0, [])]),
  (294, [(.iconst 0, 295, 0, 0, 0, 0, .inl 0, [])]),
  (295, [(.istore_n 3, 296, 3, 0, 0, 0, .inl 0, []),
    (.aload_n 0, 297, 0, 0, 0, 0, .inl 0, []),
    (.invokevirtual 180, 300, 182, 1, 2, 11, .inl 0, []),
    (.aload_n 0, 301, 0, 0, 0, 0, .inl 0, []),
    (.iconst 1, 302, 0, 0, 0, 0, .inl 1, []),
    (.iload 4, 304, 4, 0, 0, 0, .inl 0, []),
    (.ifCond .eq 8, 307, 312, 0, 0, 0, .inl 0, []),
    (.bipush 10, 309, 0, 0, 0, 0, .inl 10, []),
    (.goto 6, 312, 315, 0, 0, 0, .inl 0, [])]),
  (312, [(.sipush 9999, 315, 0, 0, 0, 0, .inl 9999, [])]),
  (315, [(.invokevirtual 204, 318, 187, 3, 0, 11, .inl 0, []),
    (.ifCond .ne 5, 321, 323, 0, 0, 0, .inl 0, []),
    (.iconst 0, 322, 0, 0, 0, 0, .inl 0, []),
    (.ireturn, 323, 1, 0, 0, 0, .inl 0, [])]),
  (323, [(.aload_n 0, 324, 0, 0, 0, 0, .inl 0, []),
    (.getfield 62, 327, 11, 27, 2, 1, .inl 0, []),
    (.iload_n 1, 328, 1, 0, 0, 0, .inl 0, []),
    (.iload 4, 330, 4, 0, 0, 0, .inl 0, []),
    (.ifCond .eq 8, 333, 338, 0, 0, 0, .inl 0, []),
    (.bipush 6, 335, 0, 0, 0, 0, .inl 6, []),
    (.goto 5, 338, 340, 0, 0, 0, .inl 0, [])]),
  (338, [(.bipush 7, 340, 0, 0, 0, 0, .inl 7, [])]),
  (340, [(.iadd, 341, 0, 0, 0, 0, .inl 0, []),
    (.aload_n 0, 342, 0, 0, 0, 0, .inl 0, []),
    (.getfield 177, 345, 11, 11, 0, 0, .inl 0, []),
    (.iastore, 346, 0, 0, 0, 0, .inl 0, []),
    (.iload 4, 348, 4, 0, 0, 0, .inl 0, []),
    (.ifCond .eq 6, 351, 354, 0, 0, 0, .inl 0, []),
    (.goto (-133), 354, 218, 0, 0, 0, .inl 0, [])]),
  (354, [(.aload_n 0, 355, 0, 0, 0, 0, .inl 0, []),
    (.iconst 1, 356, 0, 0, 0, 0, .inl 1, []),
    (.sipush 9999, 359, 0, 0, 0, 0, .inl 9999, []),
    (.invokevirtual 204, 362, 187, 3, 0, 11, .inl 0, []),
    (.ifCond .ne 5, 365, 367, 0, 0, 0, .inl 0, []),
    (.iconst 0, 366, 0, 0, 0, 0, .inl 0, []),
    (.ireturn, 367, 1, 0, 0, 0, .inl 0, [])]),
  (367, [(.aload_n 0, 368, 0, 0, 0, 0, .inl 0, []),
    (.getfield 62, 371, 11, 27, 2, 1, .inl 0, []),
    (.iload_n 1, 372, 1, 0, 0, 0, .inl 0, []),
    (.bipush 8, 374, 0, 0, 0, 0, .inl 8, []),
    (.iadd, 375, 0, 0, 0, 0, .inl 0, []),
    (.aload_n 0, 376, 0, 0, 0, 0, .inl 0, []),
    (.getfield 177, 379, 11, 11, 0, 0, .inl 0, []),
    (.iastore, 380, 0, 0, 0, 0, .inl 0, []),
    (.goto (-162), 383, 218, 0, 0, 0, .inl 0, [])]),
  (383, [(.iconst 1, 384, 0, 0, 0, 0, .inl 1, []),
    (.ireturn, 385, 1, 0, 0, 0, .inl 0, [])])]
def gT_X12_cloudLine : gs_T := ([], gB_X12_cloudLine, [(15, [0, 1, 2]), (95, [0, 1, 2]), (140, [0, 1, 2]), (218, [0, 1, 2, 3]), (236, [0, 1, 2, 3]), (260, [0]), (266, [0, 1, 2, 3, 4]), (275, [0, 1, 3, 4]), (290, [0, 1, 2, 4]), (295, [0, 1, 2, 4]), (340, [0, 1, 2, 3, 4])])
set_option maxRecDepth 100000 in
def gB_X12_sortLine : List (Nat × List gs_N) := [(0, [(.bipush 6, 2, 0, 0, 0, 0, .inl 6, []),
    (.aload_n 0, 3, 0, 0, 0, 0, .inl 0, []),
    (.getfield 23, 6, 11, 13, 2, 1, .inl 0, []),
    (.bipush 6, 8, 0, 0, 0, 0, .inl 6, []),
    (.iaload, 9, 0, 0, 0, 0, .inl 0, []),
    (.iadd, 10, 0, 0, 0, 0, .inl 0, []),
    (.istore_n 1, 11, 1, 0, 0, 0, .inl 0, []),
    (.aload_n 0, 12, 0, 0, 0, 0, .inl 0, []),
    (.aload_n 0, 13, 0, 0, 0, 0, .inl 0, []),
    (.getfield 65, 16, 11, 28, 2, 1, .inl 0, []),
    (.bipush 6, 18, 0, 0, 0, 0, .inl 6, []),
    (.aload_n 0, 19, 0, 0, 0, 0, .inl 0, []),
    (.getfield 23, 22, 11, 13, 2, 1, .inl 0, []),
    (.bipush 6, 24, 0, 0, 0, 0, .inl 6, []),
    (.iaload, 25, 0, 0, 0, 0, .inl 0, []),
    (.invokevirtual 200, 28, 192, 4, 0, 11, .inl 0, []),
    (.ifCond .eq 13, 31, 41, 0, 0, 0, .inl 0, []),
    (.aload_n 0, 32, 0, 0, 0, 0, .inl 0, []),
    (.iconst 1, 33, 0, 0, 0, 0, .inl 1, []),
    (.bipush 99, 35, 0, 0, 0, 0, .inl 99, []),
    (.invokevirtual 204, 38, 187, 3, 0, 11, .inl 0, []),
    (.ifCond .ne 5, 41, 43, 0, 0, 0, .inl 0, [])]),
  (41, [(.iconst 0, 42, 0, 0, 0, 0, .inl 0, []),
    (.ireturn, 43, 1, 0, 0, 0, .inl 0, [])]),
  (43, [(.aload_n 0, 44, 0, 0, 0, 0, .inl 0, []),
    (.getfield 68, 47, 11, 29, 2, 1, .inl 0, []),
    (.iload_n 1, 48, 1, 0, 0, 0, .inl 0, []),
    (.aload_n 0, 49, 0, 0, 0, 0, .inl 0, []),
    (.getfield 177, 52, 11, 11, 0, 0, .inl 0, []),
    (.iastore, 53, 0, 0, 0, 0, .inl 0, []),
    (.aload_n 0, 54, 0, 0, 0, 0, .inl 0, []),
    (.getfield 71, 57, 11, 30, 2, 1, .inl 0, []),
    (.iload_n 1, 58, 1, 0, 0, 0, .inl 0, []),
    (.aload_n 0, 59, 0, 0, 0, 0, .inl 0, []),
    (.getfield 23, 62, 11, 13, 2, 1, .inl 0, []),
    (.bipush 8, 64, 0, 0, 0, 0, .inl 8, []),
    (.iaload, 65, 0, 0, 0, 0, .inl 0, []),
    (.iastore, 66, 0, 0, 0, 0, .inl 0, []),
    (.aload_n 0, 67, 0, 0, 0, 0, .inl 0, []),
    (.invokevirtual 241, 70, 221, 1, 0, 11, .inl 0, []),
    (.ifCond .ne 5, 73, 75, 0, 0, 0, .inl 0, []),
    (.iconst 0, 74, 0, 0, 0, 0, .inl 0, []),
    (.ireturn, 75, 1, 0, 0, 0, .inl 0, [])]),
  (75, [(.aload_n 0, 76, 0, 0, 0, 0, .inl 0, []),
    (.getfield 74, 79, 11, 31, 2, 1, .inl 0, []),
    (.iload_n 1, 80, 1, 0, 0, 0, .inl 0, []),
    (.aload_n 0, 81, 0, 0, 0, 0, .inl 0, []),
    (.getfield 23, 84, 11, 13, 2, 1, .inl 0, []),
    (.bipush 8, 86, 0, 0, 0, 0, .inl 8, []),
    (.iaload, 87, 0, 0, 0, 0, .inl 0, []),
    (.iastore, 88, 0, 0, 0, 0, .inl 0, []),
    (.iconst 1, 89, 0, 0, 0, 0, .inl 1, []),
    (.ireturn, 90, 1, 0, 0, 0, .inl 0, [])])]
def gT_X12_sortLine : gs_T := ([], gB_X12_sortLine, [])
set_option maxRecDepth 100000 in
def gB_X12_watchLine : List (Nat × List gs_N) := [(0, [(.bipush 18, 2, 0, 0, 0, 0, .inl 18, []),
    (.iconst 3, 3, 0, 0, 0, 0, .inl 3, []),
    (.aload_n 0, 4, 0, 0, 0, 0, .inl 0, []),
    (.getfield 23, 7, 11, 13, 2, 1, .inl 0, []),
    (.bipush 7, 9, 0, 0, 0, 0, .inl 7, []),
    (.iaload, 10, 0, 0, 0, 0, .inl 0, []),
    (.imul, 11, 0, 0, 0, 0, .inl 0, []),
    (.iadd, 12, 0, 0, 0, 0, .inl 0, []),
    (.istore_n 1, 13, 1, 0, 0, 0, .inl 0, []),
    (.aload_n 0, 14, 0, 0, 0, 0, .inl 0, []),
    (.iconst 0, 15, 0, 0, 0, 0, .inl 0, []),
    (.sipush 1999, 18, 0, 0, 0, 0, .inl 1999, []),
    (.invokevirtual 204, 21, 187, 3, 0, 11, .inl 0, []),
    (.ifCond .ne 5, 24, 26, 0, 0, 0, .inl 0, []),
    (.iconst 0, 25, 0, 0, 0, 0, .inl 0, []),
    (.ireturn, 26, 1, 0, 0, 0, .inl 0, [])]),
  (26, [(.aload_n 0, 27, 0, 0, 0, 0, .inl 0, []),
    (.getfield 77, 30, 11, 32, 2, 1, .inl 0, []),
    (.iload_n 1, 31, 1, 0, 0, 0, .inl 0, []),
    (.aload_n 0, 32, 0, 0, 0, 0, .inl 0, []),
    (.getfield 177, 35, 11, 11, 0, 0, .inl 0, []),
    (.iastore, 36, 0, 0, 0, 0, .inl 0, []),
    (.aload_n 0, 37, 0, 0, 0, 0, .inl 0, []),
    (.aload_n 0, 38, 0, 0, 0, 0, .inl 0, []),
    (.getfield 177, 41, 11, 11, 0, 0, .inl 0, []),
    (.sipush 1999, 44, 0, 0, 0, 0, .inl 1999, []),
    (.invokevirtual 204, 47, 187, 3, 0, 11, .inl 0, []),
    (.ifCond .ne 5, 50, 52, 0, 0, 0, .inl 0, []),
    (.iconst 0, 51, 0, 0, 0, 0, .inl 0, []),
    (.ireturn, 52, 1, 0, 0, 0, .inl 0, [])]),
  (52, [(.aload_n 0, 53, 0, 0, 0, 0, .inl 0, []),
    (.getfield 77, 56, 11, 32, 2, 1, .inl 0, []),
    (.iload_n 1, 57, 1, 0, 0, 0, .inl 0, []),
    (.iconst 1, 58, 0, 0, 0, 0, .inl 1, []),
    (.iadd, 59, 0, 0, 0, 0, .inl 0, []),
    (.aload_n 0, 60, 0, 0, 0, 0, .inl 0, []),
    (.getfield 177, 63, 11, 11, 0, 0, .inl 0, []),
    (.iastore, 64, 0, 0, 0, 0, .inl 0, []),
    (.aload_n 0, 65, 0, 0, 0, 0, .inl 0, []),
    (.iconst 1, 66, 0, 0, 0, 0, .inl 1, []),
    (.bipush 10, 68, 0, 0, 0, 0, .inl 10, []),
    (.invokevirtual 204, 71, 187, 3, 0, 11, .inl 0, []),
    (.ifCond .ne 5, 74, 76, 0, 0, 0, .inl 0, []),
    (.iconst 0, 75, 0, 0, 0, 0, .inl 0, []),
    (.ireturn, 76, 1, 0, 0, 0, .inl 0, [])]),
  (76, [(.aload_n 0, 77, 0, 0, 0, 0, .inl 0, []),
    (.getfield 77, 80, 11, 32, 2, 1, .inl 0, []),
    (.iload_n 1, 81, 1, 0, 0, 0, .inl 0, []),
    (.iconst 2, 82, 0, 0, 0, 0, .inl 2, []),
    (.iadd, 83, 0, 0, 0, 0, .inl 0, []),
    (.aload_n 0, 84, 0, 0, 0, 0, .inl 0, []),
    (.getfield 177, 87, 11, 11, 0, 0, .inl 0, []),
    (.iastore, 88, 0, 0, 0, 0, .inl 0, []),
    (.iconst 1, 89, 0, 0, 0, 0, .inl 1, []),
    (.ireturn, 90, 1, 0, 0, 0, .inl 0, [])])]
def gT_X12_watchLine : gs_T := ([], gB_X12_watchLine, [])
set_option maxRecDepth 100000 in
def gB_X12_ruleLine : List (Nat × List gs_N) := [(0, [(.aload_n 0, 1, 0, 0, 0, 0, .inl 0, []),
    (.iconst 0, 2, 0, 0, 0, 0, .inl 0, []),
    (.iload_n 1, 3, 1, 0, 0, 0, .inl 0, []),
    (.ifCond .ne 8, 6, 11, 0, 0, 0, .inl 0, []),
    (.bipush 59, 8, 0, 0, 0, 0, .inl 59, []),
    (.goto 16, 11, 24, 0, 0, 0, .inl 0, [])]),
  (11, [(.iload_n 1, 12, 1, 0, 0, 0, .inl 0, []),
    (.iconst 2, 13, 0, 0, 0, 0, .inl 2, []),
    (.if_icmp .ne 9, 16, 22, 0, 0, 0, .inl 0, []),
    (.sipush 999, 19, 0, 0, 0, 0, .inl 999, []),
    (.goto 5, 22, 24, 0, 0, 0, .inl 0, [])]),
  (22, [(.bipush 99, 24, 0, 0, 0, 0, .inl 99, [])]),
  (24, [(.invokevirtual 204, 27, 187, 3, 0, 11, .inl 0, []),
    (.ifCond .ne 5, 30, 32, 0, 0, 0, .inl 0, []),
    (.iconst 0, 31, 0, 0, 0, 0, .inl 0, []),
    (.ireturn, 32, 1, 0, 0, 0, .inl 0, [])]),
  (32, [(.aload_n 0, 33, 0, 0, 0, 0, .inl 0, []),
    (.getfield 32, 36, 11, 16, 2, 1, .inl 0, []),
    (.iload_n 1, 37, 1, 0, 0, 0, .inl 0, []),
    (.aload_n 0, 38, 0, 0, 0, 0, .inl 0, []),
    (.getfield 177, 41, 11, 11, 0, 0, .inl 0, []),
    (.iastore, 42, 0, 0, 0, 0, .inl 0, []),
    (.iconst 1, 43, 0, 0, 0, 0, .inl 1, []),
    (.ireturn, 44, 1, 0, 0, 0, .inl 0, [])])]
def gT_X12_ruleLine : gs_T := ([], gB_X12_ruleLine, [])
set_option maxRecDepth 100000 in
def gB_X12_lineRead : List (Nat × List gs_N) := [(0, [(.aload_n 0, 1, 0, 0, 0, 0, .inl 0, []),
    (.getfield 147, 4, 11, 8, 0, 0, .inl 0, []),
    (.iconst 1, 5, 0, 0, 0, 0, .inl 1, []),
    (.if_icmp .ne 12, 8, 17, 0, 0, 0, .inl 0, []),
    (.aload_n 0, 9, 0, 0, 0, 0, .inl 0, []),
    (.getfield 158, 12, 11, 9, 0, 0, .inl 0, []),
    (.bipush 11, 14, 0, 0, 0, 0, .inl 11, []),
    (.if_icmp .le 9, 17, 23, 0, 0, 0, .inl 0, [])]),
  (17, [(.aload_n 0, 18, 0, 0, 0, 0, .inl 0, []),
    (.iconst 1, 19, 0, 0, 0, 0, .inl 1, []),
    (.invokevirtual 170, 22, 178, 2, 0, 11, .inl 0, []),
    (.ireturn, 23, 1, 0, 0, 0, .inl 0, [])]),
  (23, [(.aload_n 0, 24, 0, 0, 0, 0, .inl 0, []),
    (.getfield 158, 27, 11, 9, 0, 0, .inl 0, []),
    (.istore_n 1, 28, 1, 0, 0, 0, .inl 0, []),
    (.iload_n 1, 29, 1, 0, 0, 0, .inl 0, []),
    (.iconst 4, 30, 0, 0, 0, 0, .inl 4, []),
    (.if_icmp .ne 7, 33, 37, 0, 0, 0, .inl 0, []),
    (.iconst 3, 34, 0, 0, 0, 0, .inl 3, []),
    (.goto 4, 37, 38, 0, 0, 0, .inl 0, [])]),
  (37, [(.iload_n 1, 38, 1, 0, 0, 0, .inl 0, [])]),
  (38, [(.istore_n 2, 39, 2, 0, 0, 0, .inl 0, []),
    (.iload_n 1, 40, 1, 0, 0, 0, .inl 0, []),
    (.bipush 8, 42, 0, 0, 0, 0, .inl 8, []),
    (.if_icmp .ge 24, 45, 66, 0, 0, 0, .inl 0, []),
    (.aload_n 0, 46, 0, 0, 0, 0, .inl 0, []),
    (.getfield 23, 49, 11, 13, 2, 1, .inl 0, []),
    (.iload_n 2, 50, 2, 0, 0, 0, .inl 0, []),
    (.iaload, 51, 0, 0, 0, 0, .inl 0, []),
    (.aload_n 0, 52, 0, 0, 0, 0, .inl 0, []),
    (.getfield 26, 55, 11, 14, 2, 1, .inl 0, []),
    (.iload_n 2, 56, 2, 0, 0, 0, .inl 0, []),
    (.iaload, 57, 0, 0, 0, 0, .inl 0, []),
    (.if_icmp .ne 9, 60, 66, 0, 0, 0, .inl 0, []),
    (.aload_n 0, 61, 0, 0, 0, 0, .inl 0, []),
    (.iconst 2, 62, 0, 0, 0, 0, .inl 2, []),
    (.invokevirtual 170, 65, 178, 2, 0, 11, .inl 0, []),
    (.ireturn, 66, 1, 0, 0, 0, .inl 0, [])]),
  (66, [(.iload_n 1, 67, 1, 0, 0, 0, .inl 0, []),
    (.bipush 8, 69, 0, 0, 0, 0, .inl 8, []),
    (.if_icmp .lt 32, 72, 101, 0, 0, 0, .inl 0, []),
    (.aload_n 0, 73, 0, 0, 0, 0, .inl 0, []),
    (.getfield 183, 76, 11, 17, 0, 0, .inl 0, []),
    (.iload_n 1, 77, 1, 0, 0, 0, .inl 0, []),
    (.invokestatic 225, 80, 176, 2, 0, 1, .inl 0, []),
    (.ifCond .eq 9, 83, 89, 0, 0, 0, .inl 0, []),
    (.aload_n 0, 84, 0, 0, 0, 0, .inl 0, []),
    (.iconst 3, 85, 0, 0, 0, 0, .inl 3, []),
    (.invokevirtual 170, 88, 178, 2, 0, 11, .inl 0, []),
    (.ireturn, 89, 1, 0, 0, 0, .inl 0, [])]),
  (89, [(.aload_n 0, 90, 0, 0, 0, 0, .inl 0, []),
    (.dup, 91, 0, 0, 0, 0, .inl 0, []),
    (.getfield 183, 94, 11, 17, 0, 0, .inl 0, []),
    (.iconst 1, 95, 0, 0, 0, 0, .inl 1, []),
    (.iload_n 1, 96, 1, 0, 0, 0, .inl 0, []),
    (.ishl, 97, 0, 0, 0, 0, .inl 0, []),
    (.ior, 98, 0, 0, 0, 0, .inl 0, []),
    (.putfield 183, 101, 11, 17, 0, 0, .inl 0, [])]),
  (101, [(.aload_n 0, 102, 0, 0, 0, 0, .inl 0, []),
    (.invokevirtual 180, 105, 182, 1, 2, 11, .inl 0, []),
    (.iload_n 1, 106, 1, 0, 0, 0, .inl 0, []),
    (.tableswitch 112 0 7 #[46, 54, 62, 70, 79, 88, 96, 104], 152, 218, 46, 0, 0, .inl 0, [(0, 152), (1, 160), (2, 168), (3, 176), (4, 185), (5, 194), (6, 202), (7, 210)])]),
  (152, [(.aload_n 0, 153, 0, 0, 0, 0, .inl 0, []),
    (.invokevirtual 244, 156, 194, 1, 0, 11, .inl 0, []),
    (.istore_n 3, 157, 3, 0, 0, 0, .inl 0, []),
    (.goto 70, 160, 227, 0, 0, 0, .inl 0, [])]),
  (160, [(.aload_n 0, 161, 0, 0, 0, 0, .inl 0, []),
    (.invokevirtual 247, 164, 195, 1, 0, 11, .inl 0, []),
    (.istore_n 3, 165, 3, 0, 0, 0, .inl 0, []),
    (.goto 62, 168, 227, 0, 0, 0, .inl 0, [])]),
  (168, [(.aload_n 0, 169, 0, 0, 0, 0, .inl 0, []),
    (.invokevirtual 250, 172, 196, 1, 0, 11, .inl 0, []),
    (.istore_n 3, 173, 3, 0, 0, 0, .inl 0, []),
    (.goto 54, 176, 227, 0, 0, 0, .inl 0, [])]),
  (176, [(.aload_n 0, 177, 0, 0, 0, 0, .inl 0, []),
    (.iconst 0, 178, 0, 0, 0, 0, .inl 0, []),
    (.invokevirtual 253, 181, 199, 2, 0, 11, .inl 0, []),
    (.istore_n 3, 182, 3, 0, 0, 0, .inl 0, []),
    (.goto 45, 185, 227, 0, 0, 0, .inl 0, [])]),
  (185, [(.aload_n 0, 186, 0, 0, 0, 0, .inl 0, []),
    (.iconst 1, 187, 0, 0, 0, 0, .inl 1, []),
    (.invokevirtual 253, 190, 199, 2, 0, 11, .inl 0, []),
    (.istore_n 3, 191, 3, 0, 0, 0, .inl 0, []),
    (.goto 36, 194, 227, 0, 0, 0, .inl 0, [])]),
  (194, [(.aload_n 0, 195, 0, 0, 0, 0, .inl 0, []),
    (.invokevirtual 257, 198, 205, 1, 0, 11, .inl 0, []),
    (.istore_n 3, 199, 3, 0, 0, 0, .inl 0, []),
    (.goto 28, 202, 227, 0, 0, 0, .inl 0, [])]),
  (202, [(.aload_n 0, 203, 0, 0, 0, 0, .inl 0, []),
    (.invokevirtual 260, 206, 206, 1, 0, 11, .inl 0, []),
    (.istore_n 3, 207, 3, 0, 0, 0, .inl 0, []),
    (.goto 20, 210, 227, 0, 0, 0, .inl 0, [])]),
  (210, [(.aload_n 0, 211, 0, 0, 0, 0, .inl 0, []),
    (.invokevirtual 263, 214, 207, 1, 0, 11, .inl 0, []),
    (.istore_n 3, 215, 3, 0, 0, 0, .inl 0, []),
    (.goto 12, 218, 227, 0, 0, 0, .inl 0, [])]),
  (218, [(.aload_n 0, 219, 0, 0, 0, 0, .inl 0, []),
    (.iload_n 1, 220, 1, 0, 0, 0, .inl 0, []),
    (.bipush 8, 222, 0, 0, 0, 0, .inl 8, []),
    (.isub, 223, 0, 0, 0, 0, .inl 0, []),
    (.invokevirtual 266, 226, 208, 2, 0, 11, .inl 0, []),
    (.istore_n 3, 227, 3, 0, 0, 0, .inl 0, [])]),
  (227, [(.iload_n 3, 228, 3, 0, 0, 0, .inl 0, []),
    (.ifCond .ne 5, 231, 233, 0, 0, 0, .inl 0, []),
    (.iconst 0, 232, 0, 0, 0, 0, .inl 0, []),
    (.ireturn, 233, 1, 0, 0, 0, .inl 0, [])]),
  (233, [(.iload_n 1, 234, 1, 0, 0, 0, .inl 0, []),
    (.bipush 8, 236, 0, 0, 0, 0, .inl 8, []),
    (.if_icmp .ge 13, 239, 249, 0, 0, 0, .inl 0, []),
    (.aload_n 0, 240, 0, 0, 0, 0, .inl 0, []),
    (.getfield 23, 243, 11, 13, 2, 1, .inl 0, []),
    (.iload_n 2, 244, 2, 0, 0, 0, .inl 0, []),
    (.dup2, 245, 0, 0, 0, 0, .inl 0, []),
    (.iaload, 246, 0, 0, 0, 0, .inl 0, []),
    (.iconst 1, 247, 0, 0, 0, 0, .inl 1, []),
    (.iadd, 248, 0, 0, 0, 0, .inl 0, []),
    (.iastore, 249, 0, 0, 0, 0, .inl 0, [])]),
  (249, [(.aload_n 0, 250, 0, 0, 0, 0, .inl 0, []),
    (.bipush 59, 252, 0, 0, 0, 0, .inl 59, []),
    (.invokevirtual 269, 255, 186, 2, 0, 11, .inl 0, []),
    (.ifCond .ne 9, 258, 264, 0, 0, 0, .inl 0, []),
    (.aload_n 0, 259, 0, 0, 0, 0, .inl 0, []),
    (.iconst 1, 260, 0, 0, 0, 0, .inl 1, []),
    (.invokevirtual 170, 263, 178, 2, 0, 11, .inl 0, []),
    (.ireturn, 264, 1, 0, 0, 0, .inl 0, [])]),
  (264, [(.aload_n 0, 265, 0, 0, 0, 0, .inl 0, []),
    (.invokevirtual 180, 268, 182, 1, 2, 11, .inl 0, []),
    (.iconst 1, 269, 0, 0, 0, 0, .inl 1, []),
    (.ireturn, 270, 1, 0, 0, 0, .inl 0, [])])]
def gT_X12_lineRead : gs_T := ([], gB_X12_lineRead, [(66, [0, 1, 2]), (227, [0, 1, 2, 3])])
set_option maxRecDepth 100000 in
def gB_X12_text : List (Nat × List gs_N) := [(0, [(.aload_n 0, 1, 0, 0, 0, 0, .inl 0, []),
    (.iconst 0, 2, 0, 0, 0, 0, .inl 0, []),
    (.putfield 129, 5, 11, 2, 0, 0, .inl 0, []),
    (.iload_n 1, 6, 1, 0, 0, 0, .inl 0, []),
    (.ifCond .lt 11, 9, 17, 0, 0, 0, .inl 0, []),
    (.iload_n 1, 10, 1, 0, 0, 0, .inl 0, []),
    (.aload_n 0, 11, 0, 0, 0, 0, .inl 0, []),
    (.getfield 132, 14, 11, 1, 0, 0, .inl 0, []),
    (.if_icmp .le 6, 17, 20, 0, 0, 0, .inl 0, [])]),
  (17, [(.bipush (-2), 19, 0, 0, 0, 0, .inl (-2), []),
    (.ireturn, 20, 0, 0, 0, 0, .inl 0, [])]),
  (20, [(.aload_n 0, 21, 0, 0, 0, 0, .inl 0, []),
    (.iload_n 1, 22, 1, 0, 0, 0, .inl 0, []),
    (.putfield 141, 25, 11, 6, 0, 0, .inl 0, []),
    (.aload_n 0, 26, 0, 0, 0, 0, .inl 0, []),
    (.iconst 0, 27, 0, 0, 0, 0, .inl 0, []),
    (.putfield 132, 30, 11, 1, 0, 0, .inl 0, []),
    (.aload_n 0, 31, 0, 0, 0, 0, .inl 0, []),
    (.iconst 0, 32, 0, 0, 0, 0, .inl 0, []),
    (.putfield 135, 35, 11, 4, 0, 0, .inl 0, []),
    (.aload_n 0, 36, 0, 0, 0, 0, .inl 0, []),
    (.iconst (-1), 37, 0, 0, 0, 0, .inl (-1), []),
    (.putfield 16, 40, 11, 5, 0, 0, .inl 0, []),
    (.aload_n 0, 41, 0, 0, 0, 0, .inl 0, []),
    (.iconst 0, 42, 0, 0, 0, 0, .inl 0, []),
    (.putfield 144, 45, 11, 7, 0, 0, .inl 0, []),
    (.aload_n 0, 46, 0, 0, 0, 0, .inl 0, []),
    (.invokevirtual 123, 49, 188, 1, 2, 11, .inl 0, []),
    (.aload_n 0, 50, 0, 0, 0, 0, .inl 0, []),
    (.invokevirtual 180, 53, 182, 1, 2, 11, .inl 0, []),
    (.iconst 0, 54, 0, 0, 0, 0, .inl 0, []),
    (.istore_n 2, 55, 2, 0, 0, 0, .inl 0, [])]),
  (55, [(.aload_n 0, 56, 0, 0, 0, 0, .inl 0, []),
    (.getfield 147, 59, 11, 8, 0, 0, .inl 0, []),
    (.ifCond .eq 18, 62, 77, 0, 0, 0, .inl 0, []),
    (.aload_n 0, 63, 0, 0, 0, 0, .inl 0, []),
    (.invokevirtual 272, 66, 209, 1, 0, 11, .inl 0, []),
    (.ifCond .ne 5, 69, 71, 0, 0, 0, .inl 0, []),
    (.iconst (-1), 70, 0, 0, 0, 0, .inl (-1), []),
    (.ireturn, 71, 0, 0, 0, 0, .inl 0, [])]),
  (71, [(.iinc 2 1, 74, 2, 0, 0, 0, .inl 1, []),
    (.goto (-19), 77, 55, 0, 0, 0, .inl 0, [])]),
  (77, [(.aload_n 0, 78, 0, 0, 0, 0, .inl 0, []),
    (.invokevirtual 126, 81, 190, 1, 2, 11, .inl 0, []),
    (.iload_n 2, 82, 2, 0, 0, 0, .inl 0, []),
    (.ireturn, 83, 0, 0, 0, 0, .inl 0, [])])]
def gT_X12_text : gs_T := ([], gB_X12_text, [(55, [0, 2])])
set_option maxRecDepth 100000 in
def gB_X12_fault : List (Nat × List gs_N) := [(0, [(.aload_n 0, 1, 0, 0, 0, 0, .inl 0, []),
    (.iconst 0, 2, 0, 0, 0, 0, .inl 0, []),
    (.putfield 129, 5, 11, 2, 0, 0, .inl 0, []),
    (.iload_n 1, 6, 1, 0, 0, 0, .inl 0, []),
    (.ifCond .ne 10, 9, 16, 0, 0, 0, .inl 0, []),
    (.aload_n 0, 10, 0, 0, 0, 0, .inl 0, []),
    (.getfield 135, 13, 11, 4, 0, 0, .inl 0, []),
    (.goto 16, 16, 29, 0, 0, 0, .inl 0, [])]),
  (16, [(.iload_n 1, 17, 1, 0, 0, 0, .inl 0, []),
    (.iconst 1, 18, 0, 0, 0, 0, .inl 1, []),
    (.if_icmp .ne 10, 21, 28, 0, 0, 0, .inl 0, []),
    (.aload_n 0, 22, 0, 0, 0, 0, .inl 0, []),
    (.getfield 16, 25, 11, 5, 0, 0, .inl 0, []),
    (.goto 4, 28, 29, 0, 0, 0, .inl 0, [])]),
  (28, [(.iconst (-1), 29, 0, 0, 0, 0, .inl (-1), [])]),
  (29, [(.ireturn, 30, 0, 0, 0, 0, .inl 0, [])])]
def gT_X12_fault : gs_T := ([], gB_X12_fault, [])
set_option maxRecDepth 100000 in
def gB_X12_named : List (Nat × List gs_N) := [(0, [(.aload_n 0, 1, 0, 0, 0, 0, .inl 0, []),
    (.iconst 0, 2, 0, 0, 0, 0, .inl 0, []),
    (.putfield 129, 5, 11, 2, 0, 0, .inl 0, []),
    (.iload_n 1, 6, 1, 0, 0, 0, .inl 0, []),
    (.tableswitch 99 0 3 #[30, 47, 64, 82], 36, 105, 30, 0, 0, .inl 0, [(0, 36), (1, 53), (2, 70), (3, 88)])]),
  (36, [(.aload_n 0, 37, 0, 0, 0, 0, .inl 0, []),
    (.aload_n 0, 38, 0, 0, 0, 0, .inl 0, []),
    (.getfield 35, 41, 11, 18, 2, 1, .inl 0, []),
    (.iconst 0, 42, 0, 0, 0, 0, .inl 0, []),
    (.aload_n 0, 43, 0, 0, 0, 0, .inl 0, []),
    (.getfield 20, 46, 11, 12, 2, 1, .inl 0, []),
    (.iconst 0, 47, 0, 0, 0, 0, .inl 0, []),
    (.iaload, 48, 0, 0, 0, 0, .inl 0, []),
    (.iload_n 2, 49, 2, 0, 0, 0, .inl 0, []),
    (.invokevirtual 196, 52, 191, 5, 0, 11, .inl 0, []),
    (.ireturn, 53, 0, 0, 0, 0, .inl 0, [])]),
  (53, [(.aload_n 0, 54, 0, 0, 0, 0, .inl 0, []),
    (.aload_n 0, 55, 0, 0, 0, 0, .inl 0, []),
    (.getfield 44, 58, 11, 21, 2, 1, .inl 0, []),
    (.iconst 0, 59, 0, 0, 0, 0, .inl 0, []),
    (.aload_n 0, 60, 0, 0, 0, 0, .inl 0, []),
    (.getfield 20, 63, 11, 12, 2, 1, .inl 0, []),
    (.iconst 1, 64, 0, 0, 0, 0, .inl 1, []),
    (.iaload, 65, 0, 0, 0, 0, .inl 0, []),
    (.iload_n 2, 66, 2, 0, 0, 0, .inl 0, []),
    (.invokevirtual 196, 69, 191, 5, 0, 11, .inl 0, []),
    (.ireturn, 70, 0, 0, 0, 0, .inl 0, [])]),
  (70, [(.aload_n 0, 71, 0, 0, 0, 0, .inl 0, []),
    (.aload_n 0, 72, 0, 0, 0, 0, .inl 0, []),
    (.getfield 65, 75, 11, 28, 2, 1, .inl 0, []),
    (.iconst 0, 76, 0, 0, 0, 0, .inl 0, []),
    (.aload_n 0, 77, 0, 0, 0, 0, .inl 0, []),
    (.getfield 20, 80, 11, 12, 2, 1, .inl 0, []),
    (.bipush 6, 82, 0, 0, 0, 0, .inl 6, []),
    (.iaload, 83, 0, 0, 0, 0, .inl 0, []),
    (.iload_n 2, 84, 2, 0, 0, 0, .inl 0, []),
    (.invokevirtual 196, 87, 191, 5, 0, 11, .inl 0, []),
    (.ireturn, 88, 0, 0, 0, 0, .inl 0, [])]),
  (88, [(.aload_n 0, 89, 0, 0, 0, 0, .inl 0, []),
    (.aload_n 0, 90, 0, 0, 0, 0, .inl 0, []),
    (.getfield 53, 93, 11, 24, 2, 1, .inl 0, []),
    (.iconst 0, 94, 0, 0, 0, 0, .inl 0, []),
    (.aload_n 0, 95, 0, 0, 0, 0, .inl 0, []),
    (.getfield 20, 98, 11, 12, 2, 1, .inl 0, []),
    (.iconst 2, 99, 0, 0, 0, 0, .inl 2, []),
    (.iaload, 100, 0, 0, 0, 0, .inl 0, []),
    (.iload_n 2, 101, 2, 0, 0, 0, .inl 0, []),
    (.invokevirtual 196, 104, 191, 5, 0, 11, .inl 0, []),
    (.ireturn, 105, 0, 0, 0, 0, .inl 0, [])]),
  (105, [(.iconst (-1), 106, 0, 0, 0, 0, .inl (-1), []),
    (.ireturn, 107, 0, 0, 0, 0, .inl 0, [])])]
def gT_X12_named : gs_T := ([], gB_X12_named, [])
set_option maxRecDepth 100000 in
def gB_X12_rank : List (Nat × List gs_N) := [(0, [(.iload_n 0, 1, 0, 0, 0, 0, .inl 0, []),
    (.bipush 13, 3, 0, 0, 0, 0, .inl 13, []),
    (.if_icmp .lt 8, 6, 11, 0, 0, 0, .inl 0, []),
    (.bipush 6, 8, 0, 0, 0, 0, .inl 6, []),
    (.goto 50, 11, 58, 0, 0, 0, .inl 0, [])]),
  (11, [(.iload_n 0, 12, 0, 0, 0, 0, .inl 0, []),
    (.bipush 11, 14, 0, 0, 0, 0, .inl 11, []),
    (.if_icmp .lt 7, 17, 21, 0, 0, 0, .inl 0, []),
    (.iconst 5, 18, 0, 0, 0, 0, .inl 5, []),
    (.goto 40, 21, 58, 0, 0, 0, .inl 0, [])]),
  (21, [(.iload_n 0, 22, 0, 0, 0, 0, .inl 0, []),
    (.iconst 5, 23, 0, 0, 0, 0, .inl 5, []),
    (.if_icmp .lt 7, 26, 30, 0, 0, 0, .inl 0, []),
    (.iconst 4, 27, 0, 0, 0, 0, .inl 4, []),
    (.goto 31, 30, 58, 0, 0, 0, .inl 0, [])]),
  (30, [(.iload_n 0, 31, 0, 0, 0, 0, .inl 0, []),
    (.iconst 2, 32, 0, 0, 0, 0, .inl 2, []),
    (.if_icmp .ne 7, 35, 39, 0, 0, 0, .inl 0, []),
    (.iconst 3, 36, 0, 0, 0, 0, .inl 3, []),
    (.goto 22, 39, 58, 0, 0, 0, .inl 0, [])]),
  (39, [(.iload_n 0, 40, 0, 0, 0, 0, .inl 0, []),
    (.iconst 3, 41, 0, 0, 0, 0, .inl 3, []),
    (.if_icmp .ne 7, 44, 48, 0, 0, 0, .inl 0, []),
    (.iconst 2, 45, 0, 0, 0, 0, .inl 2, []),
    (.goto 13, 48, 58, 0, 0, 0, .inl 0, [])]),
  (48, [(.iload_n 0, 49, 0, 0, 0, 0, .inl 0, []),
    (.iconst 4, 50, 0, 0, 0, 0, .inl 4, []),
    (.if_icmp .ne 7, 53, 57, 0, 0, 0, .inl 0, []),
    (.iconst 1, 54, 0, 0, 0, 0, .inl 1, []),
    (.goto 4, 57, 58, 0, 0, 0, .inl 0, [])]),
  (57, [(.iconst 0, 58, 0, 0, 0, 0, .inl 0, [])]),
  (58, [(.ireturn, 59, 0, 0, 0, 0, .inl 0, [])])]
def gT_X12_rank : gs_T := ([], gB_X12_rank, [])
set_option maxRecDepth 100000 in
def gB_X12_grown : List (Nat × List gs_N) := [(0, [(.aload_n 0, 1, 0, 0, 0, 0, .inl 0, []),
    (.getfield 23, 4, 11, 13, 2, 1, .inl 0, []),
    (.bipush 8, 6, 0, 0, 0, 0, .inl 8, []),
    (.iaload, 7, 0, 0, 0, 0, .inl 0, []),
    (.istore 4, 9, 4, 0, 0, 0, .inl 0, []),
    (.aload_n 0, 10, 0, 0, 0, 0, .inl 0, []),
    (.getfield 80, 13, 11, 33, 2, 1, .inl 0, []),
    (.bipush 64, 15, 0, 0, 0, 0, .inl 64, []),
    (.iload 4, 17, 4, 0, 0, 0, .inl 0, []),
    (.iadd, 18, 0, 0, 0, 0, .inl 0, []),
    (.iload_n 1, 19, 1, 0, 0, 0, .inl 0, []),
    (.iastore, 20, 0, 0, 0, 0, .inl 0, []),
    (.aload_n 0, 21, 0, 0, 0, 0, .inl 0, []),
    (.getfield 83, 24, 11, 34, 2, 1, .inl 0, []),
    (.bipush 64, 26, 0, 0, 0, 0, .inl 64, []),
    (.iload 4, 28, 4, 0, 0, 0, .inl 0, []),
    (.iadd, 29, 0, 0, 0, 0, .inl 0, []),
    (.iload_n 2, 30, 2, 0, 0, 0, .inl 0, []),
    (.iastore, 31, 0, 0, 0, 0, .inl 0, []),
    (.aload_n 0, 32, 0, 0, 0, 0, .inl 0, []),
    (.getfield 86, 35, 11, 35, 2, 1, .inl 0, []),
    (.bipush 64, 37, 0, 0, 0, 0, .inl 64, []),
    (.iload 4, 39, 4, 0, 0, 0, .inl 0, []),
    (.iadd, 40, 0, 0, 0, 0, .inl 0, []),
    (.iload_n 3, 41, 3, 0, 0, 0, .inl 0, []),
    (.iastore, 42, 0, 0, 0, 0, .inl 0, []),
    (.aload_n 0, 43, 0, 0, 0, 0, .inl 0, []),
    (.getfield 95, 46, 11, 39, 2, 1, .inl 0, []),
    (.aload_n 0, 47, 0, 0, 0, 0, .inl 0, []),
    (.getfield 275, 50, 11, 41, 0, 0, .inl 0, []),
    (.iload 4, 52, 4, 0, 0, 0, .inl 0, []),
    (.iastore, 53, 0, 0, 0, 0, .inl 0, []),
    (.aload_n 0, 54, 0, 0, 0, 0, .inl 0, []),
    (.dup, 55, 0, 0, 0, 0, .inl 0, []),
    (.getfield 275, 58, 11, 41, 0, 0, .inl 0, []),
    (.iconst 1, 59, 0, 0, 0, 0, .inl 1, []),
    (.iadd, 60, 0, 0, 0, 0, .inl 0, []),
    (.putfield 275, 63, 11, 41, 0, 0, .inl 0, []),
    (.aload_n 0, 64, 0, 0, 0, 0, .inl 0, []),
    (.getfield 23, 67, 11, 13, 2, 1, .inl 0, []),
    (.bipush 8, 69, 0, 0, 0, 0, .inl 8, []),
    (.iload 4, 71, 4, 0, 0, 0, .inl 0, []),
    (.iconst 1, 72, 0, 0, 0, 0, .inl 1, []),
    (.iadd, 73, 0, 0, 0, 0, .inl 0, []),
    (.iastore, 74, 0, 0, 0, 0, .inl 0, []),
    (.return_, 75, 0, 0, 0, 0, .inl 0, [])])]
def gT_X12_grown : gs_T := ([], gB_X12_grown, [])
set_option maxRecDepth 100000 in
def gB_X12_dropHeld : List (Nat × List gs_N) := [(0, [(.aload_n 0, 1, 0, 0, 0, 0, .inl 0, []),
    (.dup, 2, 0, 0, 0, 0, .inl 0, []),
    (.getfield 275, 5, 11, 41, 0, 0, .inl 0, []),
    (.iconst 1, 6, 0, 0, 0, 0, .inl 1, []),
    (.isub, 7, 0, 0, 0, 0, .inl 0, []),
    (.putfield 275, 10, 11, 41, 0, 0, .inl 0, []),
    (.aload_n 0, 11, 0, 0, 0, 0, .inl 0, []),
    (.getfield 95, 14, 11, 39, 2, 1, .inl 0, []),
    (.aload_n 0, 15, 0, 0, 0, 0, .inl 0, []),
    (.getfield 275, 18, 11, 41, 0, 0, .inl 0, []),
    (.iaload, 19, 0, 0, 0, 0, .inl 0, []),
    (.ireturn, 20, 0, 0, 0, 0, .inl 0, [])])]
def gT_X12_dropHeld : gs_T := ([], gB_X12_dropHeld, [])
set_option maxRecDepth 100000 in
def gB_X12_bind : List (Nat × List gs_N) := [(0, [(.aload_n 0, 1, 0, 0, 0, 0, .inl 0, []),
    (.getfield 278, 4, 11, 40, 0, 0, .inl 0, []),
    (.ifCond .le 72, 7, 76, 0, 0, 0, .inl 0, []),
    (.aload_n 0, 8, 0, 0, 0, 0, .inl 0, []),
    (.getfield 92, 11, 11, 38, 2, 1, .inl 0, []),
    (.aload_n 0, 12, 0, 0, 0, 0, .inl 0, []),
    (.getfield 278, 15, 11, 40, 0, 0, .inl 0, []),
    (.iconst 1, 16, 0, 0, 0, 0, .inl 1, []),
    (.isub, 17, 0, 0, 0, 0, .inl 0, []),
    (.iaload, 18, 0, 0, 0, 0, .inl 0, []),
    (.invokestatic 281, 21, 213, 1, 0, 1, .inl 0, []),
    (.iload_n 1, 22, 1, 0, 0, 0, .inl 0, []),
    (.if_icmp .lt 54, 25, 76, 0, 0, 0, .inl 0, []),
    (.aload_n 0, 26, 0, 0, 0, 0, .inl 0, []),
    (.dup, 27, 0, 0, 0, 0, .inl 0, []),
    (.getfield 278, 30, 11, 40, 0, 0, .inl 0, []),
    (.iconst 1, 31, 0, 0, 0, 0, .inl 1, []),
    (.isub, 32, 0, 0, 0, 0, .inl 0, []),
    (.putfield 278, 35, 11, 40, 0, 0, .inl 0, []),
    (.aload_n 0, 36, 0, 0, 0, 0, .inl 0, []),
    (.getfield 92, 39, 11, 38, 2, 1, .inl 0, []),
    (.aload_n 0, 40, 0, 0, 0, 0, .inl 0, []),
    (.getfield 278, 43, 11, 40, 0, 0, .inl 0, []),
    (.iaload, 44, 0, 0, 0, 0, .inl 0, []),
    (.istore_n 2, 45, 2, 0, 0, 0, .inl 0, []),
    (.iload_n 2, 46, 2, 0, 0, 0, .inl 0, []),
    (.iconst 2, 47, 0, 0, 0, 0, .inl 2, []),
    (.if_icmp .ne 7, 50, 54, 0, 0, 0, .inl 0, []),
    (.iconst (-1), 51, 0, 0, 0, 0, .inl (-1), []),
    (.goto 7, 54, 58, 0, 0, 0, .inl 0, [])]),
  (54, [(.aload_n 0, 55, 0, 0, 0, 0, .inl 0, []),
    (.invokevirtual 285, 58, 215, 1, 0, 11, .inl 0, [])]),
  (58, [(.istore_n 3, 59, 3, 0, 0, 0, .inl 0, []),
    (.aload_n 0, 60, 0, 0, 0, 0, .inl 0, []),
    (.invokevirtual 285, 63, 215, 1, 0, 11, .inl 0, []),
    (.istore 4, 65, 4, 0, 0, 0, .inl 0, []),
    (.aload_n 0, 66, 0, 0, 0, 0, .inl 0, []),
    (.iload_n 2, 67, 2, 0, 0, 0, .inl 0, []),
    (.iload 4, 69, 4, 0, 0, 0, .inl 0, []),
    (.iload_n 3, 70, 3, 0, 0, 0, .inl 0, []),
    (.invokevirtual 288, 73, 214, 4, 2, 11, .inl 0, []),
    (.goto (-73), 76, 0, 0, 0, 0, .inl 0, [])]),
  (76, [(.return_, 77, 0, 0, 0, 0, .inl 0, [])])]
def gT_X12_bind : gs_T := ([], gB_X12_bind, [(0, [0, 1])])
set_option maxRecDepth 100000 in
def gB_X12_isCounted : List (Nat × List gs_N) := [(0, [(.aload_n 0, 1, 0, 0, 0, 0, .inl 0, []),
    (.getfield 186, 4, 11, 43, 0, 0, .inl 0, []),
    (.bipush 64, 6, 0, 0, 0, 0, .inl 64, []),
    (.if_icmp .ne 9, 9, 15, 0, 0, 0, .inl 0, []),
    (.aload_n 0, 10, 0, 0, 0, 0, .inl 0, []),
    (.iconst 2, 11, 0, 0, 0, 0, .inl 2, []),
    (.invokevirtual 170, 14, 178, 2, 0, 11, .inl 0, []),
    (.ireturn, 15, 1, 0, 0, 0, .inl 0, [])]),
  (15, [(.aload_n 0, 16, 0, 0, 0, 0, .inl 0, []),
    (.dup, 17, 0, 0, 0, 0, .inl 0, []),
    (.getfield 186, 20, 11, 43, 0, 0, .inl 0, []),
    (.iconst 1, 21, 0, 0, 0, 0, .inl 1, []),
    (.iadd, 22, 0, 0, 0, 0, .inl 0, []),
    (.putfield 186, 25, 11, 43, 0, 0, .inl 0, []),
    (.iconst 1, 26, 0, 0, 0, 0, .inl 1, []),
    (.ireturn, 27, 1, 0, 0, 0, .inl 0, [])])]
def gT_X12_isCounted : gs_T := ([], gB_X12_isCounted, [])
set_option maxRecDepth 100000 in
def gB_X12_waitsFor : List (Nat × List gs_N) := [(0, [(.aload_n 0, 1, 0, 0, 0, 0, .inl 0, []),
    (.getfield 92, 4, 11, 38, 2, 1, .inl 0, []),
    (.aload_n 0, 5, 0, 0, 0, 0, .inl 0, []),
    (.getfield 278, 8, 11, 40, 0, 0, .inl 0, []),
    (.iload_n 1, 9, 1, 0, 0, 0, .inl 0, []),
    (.iastore, 10, 0, 0, 0, 0, .inl 0, []),
    (.aload_n 0, 11, 0, 0, 0, 0, .inl 0, []),
    (.dup, 12, 0, 0, 0, 0, .inl 0, []),
    (.getfield 278, 15, 11, 40, 0, 0, .inl 0, []),
    (.iconst 1, 16, 0, 0, 0, 0, .inl 1, []),
    (.iadd, 17, 0, 0, 0, 0, .inl 0, []),
    (.putfield 278, 20, 11, 40, 0, 0, .inl 0, []),
    (.return_, 21, 0, 0, 0, 0, .inl 0, [])])]
def gT_X12_waitsFor : gs_T := ([], gB_X12_waitsFor, [])
set_option maxRecDepth 100000 in
def gB_X12_leafRead : List (Nat × List gs_N) := [(0, [(.aload_n 0, 1, 0, 0, 0, 0, .inl 0, []),
    (.bipush 40, 3, 0, 0, 0, 0, .inl 40, []),
    (.invokevirtual 269, 6, 186, 2, 0, 11, .inl 0, []),
    (.ifCond .eq 44, 9, 50, 0, 0, 0, .inl 0, []),
    (.aload_n 0, 10, 0, 0, 0, 0, .inl 0, []),
    (.getfield 292, 13, 11, 42, 0, 0, .inl 0, []),
    (.bipush 8, 15, 0, 0, 0, 0, .inl 8, []),
    (.if_icmp .ne 9, 18, 24, 0, 0, 0, .inl 0, []),
    (.aload_n 0, 19, 0, 0, 0, 0, .inl 0, []),
    (.iconst 2, 20, 0, 0, 0, 0, .inl 2, []),
    (.invokevirtual 170, 23, 178, 2, 0, 11, .inl 0, []),
    (.ireturn, 24, 1, 0, 0, 0, .inl 0, [])]),
  (24, [(.aload_n 0, 25, 0, 0, 0, 0, .inl 0, []),
    (.dup, 26, 0, 0, 0, 0, .inl 0, []),
    (.getfield 292, 29, 11, 42, 0, 0, .inl 0, []),
    (.iconst 1, 30, 0, 0, 0, 0, .inl 1, []),
    (.iadd, 31, 0, 0, 0, 0, .inl 0, []),
    (.putfield 292, 34, 11, 42, 0, 0, .inl 0, []),
    (.aload_n 0, 35, 0, 0, 0, 0, .inl 0, []),
    (.iconst 0, 36, 0, 0, 0, 0, .inl 0, []),
    (.invokevirtual 295, 39, 218, 2, 2, 11, .inl 0, []),
    (.aload_n 0, 40, 0, 0, 0, 0, .inl 0, []),
    (.iconst 1, 41, 0, 0, 0, 0, .inl 1, []),
    (.putfield 298, 44, 11, 45, 3, 0, .inl 0, []),
    (.aload_n 0, 45, 0, 0, 0, 0, .inl 0, []),
    (.invokevirtual 180, 48, 182, 1, 2, 11, .inl 0, []),
    (.iconst 1, 49, 0, 0, 0, 0, .inl 1, []),
    (.ireturn, 50, 1, 0, 0, 0, .inl 0, [])]),
  (50, [(.aload_n 0, 51, 0, 0, 0, 0, .inl 0, []),
    (.bipush 25, 53, 0, 0, 0, 0, .inl 25, []),
    (.invokevirtual 208, 56, 185, 2, 0, 11, .inl 0, []),
    (.ifCond .eq 30, 59, 86, 0, 0, 0, .inl 0, []),
    (.aload_n 0, 60, 0, 0, 0, 0, .inl 0, []),
    (.getfield 298, 63, 11, 45, 3, 0, .inl 0, []),
    (.ifCond .eq 23, 66, 86, 0, 0, 0, .inl 0, []),
    (.aload_n 0, 67, 0, 0, 0, 0, .inl 0, []),
    (.invokevirtual 302, 70, 217, 1, 0, 11, .inl 0, []),
    (.ifCond .ne 5, 73, 75, 0, 0, 0, .inl 0, []),
    (.iconst 0, 74, 0, 0, 0, 0, .inl 0, []),
    (.ireturn, 75, 1, 0, 0, 0, .inl 0, [])]),
  (75, [(.aload_n 0, 76, 0, 0, 0, 0, .inl 0, []),
    (.iconst 2, 77, 0, 0, 0, 0, .inl 2, []),
    (.invokevirtual 295, 80, 218, 2, 2, 11, .inl 0, []),
    (.aload_n 0, 81, 0, 0, 0, 0, .inl 0, []),
    (.invokevirtual 180, 84, 182, 1, 2, 11, .inl 0, []),
    (.iconst 1, 85, 0, 0, 0, 0, .inl 1, []),
    (.ireturn, 86, 1, 0, 0, 0, .inl 0, [])]),
  (86, [(.aload_n 0, 87, 0, 0, 0, 0, .inl 0, []),
    (.getfield 147, 90, 11, 8, 0, 0, .inl 0, []),
    (.iconst 1, 91, 0, 0, 0, 0, .inl 1, []),
    (.if_icmp .ne 16, 94, 107, 0, 0, 0, .inl 0, []),
    (.aload_n 0, 95, 0, 0, 0, 0, .inl 0, []),
    (.getfield 158, 98, 11, 9, 0, 0, .inl 0, []),
    (.bipush 26, 100, 0, 0, 0, 0, .inl 26, []),
    (.if_icmp .lt 7, 103, 107, 0, 0, 0, .inl 0, []),
    (.iconst 1, 104, 0, 0, 0, 0, .inl 1, []),
    (.goto 4, 107, 108, 0, 0, 0, .inl 0, [])]),
  (107, [(.iconst 0, 108, 0, 0, 0, 0, .inl 0, [])]),
  (108, [(.istore_n 1, 109, 1, 0, 0, 0, .inl 0, []),
    (.iload_n 1, 110, 1, 0, 0, 0, .inl 0, []),
    (.ifCond .ne 17, 113, 127, 0, 0, 0, .inl 0, []),
    (.aload_n 0, 114, 0, 0, 0, 0, .inl 0, []),
    (.getfield 147, 117, 11, 8, 0, 0, .inl 0, []),
    (.iconst 3, 118, 0, 0, 0, 0, .inl 3, []),
    (.if_icmp .eq 9, 121, 127, 0, 0, 0, .inl 0, []),
    (.aload_n 0, 122, 0, 0, 0, 0, .inl 0, []),
    (.iconst 1, 123, 0, 0, 0, 0, .inl 1, []),
    (.invokevirtual 170, 126, 178, 2, 0, 11, .inl 0, []),
    (.ireturn, 127, 1, 0, 0, 0, .inl 0, [])]),
  (127, [(.iload_n 1, 128, 1, 0, 0, 0, .inl 0, []),
    (.ifCond .ne 19, 131, 147, 0, 0, 0, .inl 0, []),
    (.aload_n 0, 132, 0, 0, 0, 0, .inl 0, []),
    (.getfield 158, 135, 11, 9, 0, 0, .inl 0, []),
    (.sipush 9999, 138, 0, 0, 0, 0, .inl 9999, []),
    (.if_icmp .le 9, 141, 147, 0, 0, 0, .inl 0, []),
    (.aload_n 0, 142, 0, 0, 0, 0, .inl 0, []),
    (.iconst 2, 143, 0, 0, 0, 0, .inl 2, []),
    (.invokevirtual 170, 146, 178, 2, 0, 11, .inl 0, []),
    (.ireturn, 147, 1, 0, 0, 0, .inl 0, [])]),
  (147, [(.aload_n 0, 148, 0, 0, 0, 0, .inl 0, []),
    (.invokevirtual 302, 151, 217, 1, 0, 11, .inl 0, []),
    (.ifCond .ne 5, 154, 156, 0, 0, 0, .inl 0, []),
    (.iconst 0, 155, 0, 0, 0, 0, .inl 0, []),
    (.ireturn, 156, 1, 0, 0, 0, .inl 0, [])]),
  (156, [(.aload_n 0, 157, 0, 0, 0, 0, .inl 0, []),
    (.iload_n 1, 158, 1, 0, 0, 0, .inl 0, []),
    (.ifCond .eq 7, 161, 165, 0, 0, 0, .inl 0, []),
    (.iconst 1, 162, 0, 0, 0, 0, .inl 1, []),
    (.goto 4, 165, 166, 0, 0, 0, .inl 0, [])]),
  (165, [(.iconst 0, 166, 0, 0, 0, 0, .inl 0, [])]),
  (166, [(.iload_n 1, 167, 1, 0, 0, 0, .inl 0, []),
    (.ifCond .eq 13, 170, 180, 0, 0, 0, .inl 0, []),
    (.aload_n 0, 171, 0, 0, 0, 0, .inl 0, []),
    (.getfield 158, 174, 11, 9, 0, 0, .inl 0, []),
    (.bipush 26, 176, 0, 0, 0, 0, .inl 26, []),
    (.isub, 177, 0, 0, 0, 0, .inl 0, []),
    (.goto 7, 180, 184, 0, 0, 0, .inl 0, [])]),
  (180, [(.aload_n 0, 181, 0, 0, 0, 0, .inl 0, []),
    (.getfield 158, 184, 11, 9, 0, 0, .inl 0, [])]),
  (184, [(.iconst 0, 185, 0, 0, 0, 0, .inl 0, []),
    (.invokevirtual 288, 188, 214, 4, 2, 11, .inl 0, []),
    (.aload_n 0, 189, 0, 0, 0, 0, .inl 0, []),
    (.iconst 0, 190, 0, 0, 0, 0, .inl 0, []),
    (.putfield 305, 193, 11, 44, 3, 0, .inl 0, []),
    (.aload_n 0, 194, 0, 0, 0, 0, .inl 0, []),
    (.invokevirtual 180, 197, 182, 1, 2, 11, .inl 0, []),
    (.iconst 1, 198, 0, 0, 0, 0, .inl 1, []),
    (.ireturn, 199, 1, 0, 0, 0, .inl 0, [])])]
def gT_X12_leafRead : gs_T := ([], gB_X12_leafRead, [(127, [0, 1])])
set_option maxRecDepth 100000 in
def gB_X12_signs : List (Nat × List gs_N) := [(0, [(.aload_n 0, 1, 0, 0, 0, 0, .inl 0, []),
    (.bipush 41, 3, 0, 0, 0, 0, .inl 41, []),
    (.invokevirtual 269, 6, 186, 2, 0, 11, .inl 0, []),
    (.ifCond .eq 41, 9, 47, 0, 0, 0, .inl 0, []),
    (.aload_n 0, 10, 0, 0, 0, 0, .inl 0, []),
    (.getfield 292, 13, 11, 42, 0, 0, .inl 0, []),
    (.ifCond .le 34, 16, 47, 0, 0, 0, .inl 0, []),
    (.aload_n 0, 17, 0, 0, 0, 0, .inl 0, []),
    (.iconst 1, 18, 0, 0, 0, 0, .inl 1, []),
    (.invokevirtual 308, 21, 216, 2, 2, 11, .inl 0, []),
    (.aload_n 0, 22, 0, 0, 0, 0, .inl 0, []),
    (.dup, 23, 0, 0, 0, 0, .inl 0, []),
    (.getfield 278, 26, 11, 40, 0, 0, .inl 0, []),
    (.iconst 1, 27, 0, 0, 0, 0, .inl 1, []),
    (.isub, 28, 0, 0, 0, 0, .inl 0, []),
    (.putfield 278, 31, 11, 40, 0, 0, .inl 0, []),
    (.aload_n 0, 32, 0, 0, 0, 0, .inl 0, []),
    (.dup, 33, 0, 0, 0, 0, .inl 0, []),
    (.getfield 292, 36, 11, 42, 0, 0, .inl 0, []),
    (.iconst 1, 37, 0, 0, 0, 0, .inl 1, []),
    (.isub, 38, 0, 0, 0, 0, .inl 0, []),
    (.putfield 292, 41, 11, 42, 0, 0, .inl 0, []),
    (.aload_n 0, 42, 0, 0, 0, 0, .inl 0, []),
    (.invokevirtual 180, 45, 182, 1, 2, 11, .inl 0, []),
    (.iconst 1, 46, 0, 0, 0, 0, .inl 1, []),
    (.ireturn, 47, 1, 0, 0, 0, .inl 0, [])]),
  (47, [(.aload_n 0, 48, 0, 0, 0, 0, .inl 0, []),
    (.bipush 23, 50, 0, 0, 0, 0, .inl 23, []),
    (.invokevirtual 208, 53, 185, 2, 0, 11, .inl 0, []),
    (.ifCond .eq 7, 56, 60, 0, 0, 0, .inl 0, []),
    (.iconst 3, 57, 0, 0, 0, 0, .inl 3, []),
    (.goto 90, 60, 147, 0, 0, 0, .inl 0, [])]),
  (60, [(.aload_n 0, 61, 0, 0, 0, 0, .inl 0, []),
    (.bipush 24, 63, 0, 0, 0, 0, .inl 24, []),
    (.invokevirtual 208, 66, 185, 2, 0, 11, .inl 0, []),
    (.ifCond .eq 7, 69, 73, 0, 0, 0, .inl 0, []),
    (.iconst 4, 70, 0, 0, 0, 0, .inl 4, []),
    (.goto 77, 73, 147, 0, 0, 0, .inl 0, [])]),
  (73, [(.aload_n 0, 74, 0, 0, 0, 0, .inl 0, []),
    (.getfield 147, 77, 11, 8, 0, 0, .inl 0, []),
    (.iconst 5, 78, 0, 0, 0, 0, .inl 5, []),
    (.if_icmp .ne 12, 81, 90, 0, 0, 0, .inl 0, []),
    (.iconst 5, 82, 0, 0, 0, 0, .inl 5, []),
    (.aload_n 0, 83, 0, 0, 0, 0, .inl 0, []),
    (.getfield 158, 86, 11, 9, 0, 0, .inl 0, []),
    (.iadd, 87, 0, 0, 0, 0, .inl 0, []),
    (.goto 60, 90, 147, 0, 0, 0, .inl 0, [])]),
  (90, [(.aload_n 0, 91, 0, 0, 0, 0, .inl 0, []),
    (.bipush 43, 93, 0, 0, 0, 0, .inl 43, []),
    (.invokevirtual 269, 96, 186, 2, 0, 11, .inl 0, []),
    (.ifCond .eq 8, 99, 104, 0, 0, 0, .inl 0, []),
    (.bipush 11, 101, 0, 0, 0, 0, .inl 11, []),
    (.goto 46, 104, 147, 0, 0, 0, .inl 0, [])]),
  (104, [(.aload_n 0, 105, 0, 0, 0, 0, .inl 0, []),
    (.bipush 45, 107, 0, 0, 0, 0, .inl 45, []),
    (.invokevirtual 269, 110, 186, 2, 0, 11, .inl 0, []),
    (.ifCond .eq 8, 113, 118, 0, 0, 0, .inl 0, []),
    (.bipush 12, 115, 0, 0, 0, 0, .inl 12, []),
    (.goto 32, 118, 147, 0, 0, 0, .inl 0, [])]),
  (118, [(.aload_n 0, 119, 0, 0, 0, 0, .inl 0, []),
    (.bipush 42, 121, 0, 0, 0, 0, .inl 42, []),
    (.invokevirtual 269, 124, 186, 2, 0, 11, .inl 0, []),
    (.ifCond .eq 8, 127, 132, 0, 0, 0, .inl 0, []),
    (.bipush 13, 129, 0, 0, 0, 0, .inl 13, []),
    (.goto 18, 132, 147, 0, 0, 0, .inl 0, [])]),
  (132, [(.aload_n 0, 133, 0, 0, 0, 0, .inl 0, []),
    (.bipush 47, 135, 0, 0, 0, 0, .inl 47, []),
    (.invokevirtual 269, 138, 186, 2, 0, 11, .inl 0, []),
    (.ifCond .eq 8, 141, 146, 0, 0, 0, .inl 0, []),
    (.bipush 14, 143, 0, 0, 0, 0, .inl 14, []),
    (.goto 4, 146, 147, 0, 0, 0, .inl 0, [])]),
  (146, [(.iconst 0, 147, 0, 0, 0, 0, .inl 0, [])]),
  (147, [(.istore_n 1, 148, 1, 0, 0, 0, .inl 0, []),
    (.iload_n 1, 149, 1, 0, 0, 0, .inl 0, []),
    (.ifCond .ne 9, 152, 158, 0, 0, 0, .inl 0, []),
    (.aload_n 0, 153, 0, 0, 0, 0, .inl 0, []),
    (.iconst 1, 154, 0, 0, 0, 0, .inl 1, []),
    (.invokevirtual 170, 157, 178, 2, 0, 11, .inl 0, []),
    (.ireturn, 158, 1, 0, 0, 0, .inl 0, [])]),
  (158, [(.aload_n 0, 159, 0, 0, 0, 0, .inl 0, []),
    (.iload_n 1, 160, 1, 0, 0, 0, .inl 0, []),
    (.invokestatic 281, 163, 213, 1, 0, 1, .inl 0, []),
    (.iconst 4, 164, 0, 0, 0, 0, .inl 4, []),
    (.if_icmp .ne 7, 167, 171, 0, 0, 0, .inl 0, []),
    (.iconst 5, 168, 0, 0, 0, 0, .inl 5, []),
    (.goto 7, 171, 175, 0, 0, 0, .inl 0, [])]),
  (171, [(.iload_n 1, 172, 1, 0, 0, 0, .inl 0, []),
    (.invokestatic 281, 175, 213, 1, 0, 1, .inl 0, [])]),
  (175, [(.invokevirtual 308, 178, 216, 2, 2, 11, .inl 0, []),
    (.iload_n 1, 179, 1, 0, 0, 0, .inl 0, []),
    (.invokestatic 281, 182, 213, 1, 0, 1, .inl 0, []),
    (.iconst 4, 183, 0, 0, 0, 0, .inl 4, []),
    (.if_icmp .ne 34, 186, 217, 0, 0, 0, .inl 0, []),
    (.aload_n 0, 187, 0, 0, 0, 0, .inl 0, []),
    (.getfield 278, 190, 11, 40, 0, 0, .inl 0, []),
    (.ifCond .le 27, 193, 217, 0, 0, 0, .inl 0, []),
    (.aload_n 0, 194, 0, 0, 0, 0, .inl 0, []),
    (.getfield 92, 197, 11, 38, 2, 1, .inl 0, []),
    (.aload_n 0, 198, 0, 0, 0, 0, .inl 0, []),
    (.getfield 278, 201, 11, 40, 0, 0, .inl 0, []),
    (.iconst 1, 202, 0, 0, 0, 0, .inl 1, []),
    (.isub, 203, 0, 0, 0, 0, .inl 0, []),
    (.iaload, 204, 0, 0, 0, 0, .inl 0, []),
    (.invokestatic 281, 207, 213, 1, 0, 1, .inl 0, []),
    (.iconst 4, 208, 0, 0, 0, 0, .inl 4, []),
    (.if_icmp .ne 9, 211, 217, 0, 0, 0, .inl 0, []),
    (.aload_n 0, 212, 0, 0, 0, 0, .inl 0, []),
    (.iconst 1, 213, 0, 0, 0, 0, .inl 1, []),
    (.invokevirtual 170, 216, 178, 2, 0, 11, .inl 0, []),
    (.ireturn, 217, 1, 0, 0, 0, .inl 0, [])]),
  (217, [(.aload_n 0, 218, 0, 0, 0, 0, .inl 0, []),
    (.invokevirtual 302, 221, 217, 1, 0, 11, .inl 0, []),
    (.ifCond .ne 5, 224, 226, 0, 0, 0, .inl 0, []),
    (.iconst 0, 225, 0, 0, 0, 0, .inl 0, []),
    (.ireturn, 226, 1, 0, 0, 0, .inl 0, [])]),
  (226, [(.aload_n 0, 227, 0, 0, 0, 0, .inl 0, []),
    (.iload_n 1, 228, 1, 0, 0, 0, .inl 0, []),
    (.invokevirtual 295, 231, 218, 2, 2, 11, .inl 0, []),
    (.aload_n 0, 232, 0, 0, 0, 0, .inl 0, []),
    (.iconst 1, 233, 0, 0, 0, 0, .inl 1, []),
    (.putfield 305, 236, 11, 44, 3, 0, .inl 0, []),
    (.aload_n 0, 237, 0, 0, 0, 0, .inl 0, []),
    (.iload_n 1, 238, 1, 0, 0, 0, .inl 0, []),
    (.invokestatic 281, 241, 213, 1, 0, 1, .inl 0, []),
    (.iconst 3, 242, 0, 0, 0, 0, .inl 3, []),
    (.if_icmp .ge 7, 245, 249, 0, 0, 0, .inl 0, []),
    (.iconst 1, 246, 0, 0, 0, 0, .inl 1, []),
    (.goto 4, 249, 250, 0, 0, 0, .inl 0, [])]),
  (249, [(.iconst 0, 250, 0, 0, 0, 0, .inl 0, [])]),
  (250, [(.putfield 298, 253, 11, 45, 3, 0, .inl 0, []),
    (.aload_n 0, 254, 0, 0, 0, 0, .inl 0, []),
    (.invokevirtual 180, 257, 182, 1, 2, 11, .inl 0, []),
    (.iconst 1, 258, 0, 0, 0, 0, .inl 1, []),
    (.ireturn, 259, 1, 0, 0, 0, .inl 0, [])])]
def gT_X12_signs : gs_T := ([], gB_X12_signs, [(147, [0]), (217, [0, 1])])
set_option maxRecDepth 100000 in
def gB_X12_sumRead : List (Nat × List gs_N) := [(0, [(.aload_n 0, 1, 0, 0, 0, 0, .inl 0, []),
    (.iconst 0, 2, 0, 0, 0, 0, .inl 0, []),
    (.putfield 278, 5, 11, 40, 0, 0, .inl 0, []),
    (.aload_n 0, 6, 0, 0, 0, 0, .inl 0, []),
    (.iconst 0, 7, 0, 0, 0, 0, .inl 0, []),
    (.putfield 275, 10, 11, 41, 0, 0, .inl 0, []),
    (.aload_n 0, 11, 0, 0, 0, 0, .inl 0, []),
    (.iconst 0, 12, 0, 0, 0, 0, .inl 0, []),
    (.putfield 292, 15, 11, 42, 0, 0, .inl 0, []),
    (.aload_n 0, 16, 0, 0, 0, 0, .inl 0, []),
    (.iconst 1, 17, 0, 0, 0, 0, .inl 1, []),
    (.putfield 305, 20, 11, 44, 3, 0, .inl 0, []),
    (.aload_n 0, 21, 0, 0, 0, 0, .inl 0, []),
    (.iconst 1, 22, 0, 0, 0, 0, .inl 1, []),
    (.putfield 298, 25, 11, 45, 3, 0, .inl 0, [])]),
  (25, [(.aload_n 0, 26, 0, 0, 0, 0, .inl 0, []),
    (.bipush 59, 28, 0, 0, 0, 0, .inl 59, []),
    (.invokevirtual 269, 31, 186, 2, 0, 11, .inl 0, []),
    (.ifCond .eq 17, 34, 48, 0, 0, 0, .inl 0, []),
    (.aload_n 0, 35, 0, 0, 0, 0, .inl 0, []),
    (.getfield 305, 38, 11, 44, 3, 0, .inl 0, []),
    (.ifCond .ne 10, 41, 48, 0, 0, 0, .inl 0, []),
    (.aload_n 0, 42, 0, 0, 0, 0, .inl 0, []),
    (.getfield 292, 45, 11, 42, 0, 0, .inl 0, []),
    (.ifCond .le 29, 48, 74, 0, 0, 0, .inl 0, [])]),
  (48, [(.aload_n 0, 49, 0, 0, 0, 0, .inl 0, []),
    (.getfield 305, 52, 11, 44, 3, 0, .inl 0, []),
    (.ifCond .eq 13, 55, 65, 0, 0, 0, .inl 0, []),
    (.aload_n 0, 56, 0, 0, 0, 0, .inl 0, []),
    (.invokevirtual 311, 59, 219, 1, 0, 11, .inl 0, []),
    (.ifCond .eq 13, 62, 72, 0, 0, 0, .inl 0, []),
    (.goto (-37), 65, 25, 0, 0, 0, .inl 0, [])]),
  (65, [(.aload_n 0, 66, 0, 0, 0, 0, .inl 0, []),
    (.invokevirtual 314, 69, 220, 1, 0, 11, .inl 0, []),
    (.ifCond .ne (-44), 72, 25, 0, 0, 0, .inl 0, [])]),
  (72, [(.iconst 0, 73, 0, 0, 0, 0, .inl 0, []),
    (.ireturn, 74, 1, 0, 0, 0, .inl 0, [])]),
  (74, [(.aload_n 0, 75, 0, 0, 0, 0, .inl 0, []),
    (.iconst 1, 76, 0, 0, 0, 0, .inl 1, []),
    (.invokevirtual 308, 79, 216, 2, 2, 11, .inl 0, []),
    (.iconst 1, 80, 0, 0, 0, 0, .inl 1, []),
    (.ireturn, 81, 1, 0, 0, 0, .inl 0, [])])]
def gT_X12_sumRead : gs_T := ([], gB_X12_sumRead, [(25, [0])])
set_option maxRecDepth 100000 in
def gB_X12_bounded : List (Nat × List gs_N) := [(0, [(.aload_n 0, 1, 0, 0, 0, 0, .inl 0, []),
    (.aload_n 0, 2, 0, 0, 0, 0, .inl 0, []),
    (.getfield 317, 5, 11, 48, 3, 0, .inl 0, []),
    (.ifCond .ne 19, 8, 24, 0, 0, 0, .inl 0, []),
    (.lload_n 1, 9, 1, 0, 0, 0, .inl 0, []),
    (.ldc2_w 320, 12, 0, 0, 0, 0, .inr (.inl 1000000000000), []),
    (.lcmp, 13, 0, 0, 0, 0, .inl 0, []),
    (.ifCond .gt 11, 16, 24, 0, 0, 0, .inl 0, []),
    (.lload_n 1, 17, 1, 0, 0, 0, .inl 0, []),
    (.ldc2_w 322, 20, 0, 0, 0, 0, .inr (.inl (-1000000000000)), []),
    (.lcmp, 21, 0, 0, 0, 0, .inl 0, []),
    (.ifCond .ge 7, 24, 28, 0, 0, 0, .inl 0, [])]),
  (24, [(.iconst 1, 25, 0, 0, 0, 0, .inl 1, []),
    (.goto 4, 28, 29, 0, 0, 0, .inl 0, [])]),
  (28, [(.iconst 0, 29, 0, 0, 0, 0, .inl 0, [])]),
  (29, [(.putfield 317, 32, 11, 48, 3, 0, .inl 0, []),
    (.aload_n 0, 33, 0, 0, 0, 0, .inl 0, []),
    (.getfield 317, 36, 11, 48, 3, 0, .inl 0, []),
    (.ifCond .eq 7, 39, 43, 0, 0, 0, .inl 0, []),
    (.lconst 0, 40, 0, 0, 0, 0, .inr (.inl 0), []),
    (.goto 4, 43, 44, 0, 0, 0, .inl 0, [])]),
  (43, [(.lload_n 1, 44, 1, 0, 0, 0, .inl 0, [])]),
  (44, [(.lreturn, 45, 0, 0, 0, 0, .inl 0, [])])]
def gT_X12_bounded : gs_T := ([], gB_X12_bounded, [])
set_option maxRecDepth 100000 in
def gB_X12_compares : List (Nat × List gs_N) := [(0, [(.iload_n 0, 1, 0, 0, 0, 0, .inl 0, []),
    (.tableswitch 95 5 9 #[35, 47, 59, 71, 83], 36, 96, 35, 0, 0, .inl 0, [(5, 36), (6, 48), (7, 60), (8, 72), (9, 84)])]),
  (36, [(.lload_n 1, 37, 1, 0, 0, 0, .inl 0, []),
    (.lload_n 3, 38, 3, 0, 0, 0, .inl 0, []),
    (.lcmp, 39, 0, 0, 0, 0, .inl 0, []),
    (.ifCond .ge 7, 42, 46, 0, 0, 0, .inl 0, []),
    (.iconst 1, 43, 0, 0, 0, 0, .inl 1, []),
    (.goto 4, 46, 47, 0, 0, 0, .inl 0, [])]),
  (46, [(.iconst 0, 47, 0, 0, 0, 0, .inl 0, [])]),
  (47, [(.ireturn, 48, 1, 0, 0, 0, .inl 0, [])]),
  (48, [(.lload_n 1, 49, 1, 0, 0, 0, .inl 0, []),
    (.lload_n 3, 50, 3, 0, 0, 0, .inl 0, []),
    (.lcmp, 51, 0, 0, 0, 0, .inl 0, []),
    (.ifCond .gt 7, 54, 58, 0, 0, 0, .inl 0, []),
    (.iconst 1, 55, 0, 0, 0, 0, .inl 1, []),
    (.goto 4, 58, 59, 0, 0, 0, .inl 0, [])]),
  (58, [(.iconst 0, 59, 0, 0, 0, 0, .inl 0, [])]),
  (59, [(.ireturn, 60, 1, 0, 0, 0, .inl 0, [])]),
  (60, [(.lload_n 1, 61, 1, 0, 0, 0, .inl 0, []),
    (.lload_n 3, 62, 3, 0, 0, 0, .inl 0, []),
    (.lcmp, 63, 0, 0, 0, 0, .inl 0, []),
    (.ifCond .ne 7, 66, 70, 0, 0, 0, .inl 0, []),
    (.iconst 1, 67, 0, 0, 0, 0, .inl 1, []),
    (.goto 4, 70, 71, 0, 0, 0, .inl 0, [])]),
  (70, [(.iconst 0, 71, 0, 0, 0, 0, .inl 0, [])]),
  (71, [(.ireturn, 72, 1, 0, 0, 0, .inl 0, [])]),
  (72, [(.lload_n 1, 73, 1, 0, 0, 0, .inl 0, []),
    (.lload_n 3, 74, 3, 0, 0, 0, .inl 0, []),
    (.lcmp, 75, 0, 0, 0, 0, .inl 0, []),
    (.ifCond .eq 7, 78, 82, 0, 0, 0, .inl 0, []),
    (.iconst 1, 79, 0, 0, 0, 0, .inl 1, []),
    (.goto 4, 82, 83, 0, 0, 0, .inl 0, [])]),
  (82, [(.iconst 0, 83, 0, 0, 0, 0, .inl 0, [])]),
  (83, [(.ireturn, 84, 1, 0, 0, 0, .inl 0, [])]),
  (84, [(.lload_n 1, 85, 1, 0, 0, 0, .inl 0, []),
    (.lload_n 3, 86, 3, 0, 0, 0, .inl 0, []),
    (.lcmp, 87, 0, 0, 0, 0, .inl 0, []),
    (.ifCond .lt 7, 90, 94, 0, 0, 0, .inl 0, []),
    (.iconst 1, 91, 0, 0, 0, 0, .inl 1, []),
    (.goto 4, 94, 95, 0, 0, 0, .inl 0, [])]),
  (94, [(.iconst 0, 95, 0, 0, 0, 0, .inl 0, [])]),
  (95, [(.ireturn, 96, 1, 0, 0, 0, .inl 0, [])]),
  (96, [(.lload_n 1, 97, 1, 0, 0, 0, .inl 0, []),
    (.lload_n 3, 98, 3, 0, 0, 0, .inl 0, []),
    (.lcmp, 99, 0, 0, 0, 0, .inl 0, []),
    (.ifCond .le 7, 102, 106, 0, 0, 0, .inl 0, []),
    (.iconst 1, 103, 0, 0, 0, 0, .inl 1, []),
    (.goto 4, 106, 107, 0, 0, 0, .inl 0, [])]),
  (106, [(.iconst 0, 107, 0, 0, 0, 0, .inl 0, [])]),
  (107, [(.ireturn, 108, 1, 0, 0, 0, .inl 0, [])])]
def gT_X12_compares : gs_T := ([], gB_X12_compares, [])
set_option maxRecDepth 100000 in
def gB_X12_times : List (Nat × List gs_N) := [(0, [(.lload_n 1, 1, 1, 0, 0, 0, .inl 0, []),
    (.lconst 0, 2, 0, 0, 0, 0, .inr (.inl 0), []),
    (.lcmp, 3, 0, 0, 0, 0, .inl 0, []),
    (.ifCond .eq 45, 6, 48, 0, 0, 0, .inl 0, []),
    (.lload_n 3, 7, 3, 0, 0, 0, .inl 0, []),
    (.lconst 0, 8, 0, 0, 0, 0, .inr (.inl 0), []),
    (.lcmp, 9, 0, 0, 0, 0, .inl 0, []),
    (.ifCond .eq 39, 12, 48, 0, 0, 0, .inl 0, []),
    (.lload_n 3, 13, 3, 0, 0, 0, .inl 0, []),
    (.lconst 0, 14, 0, 0, 0, 0, .inr (.inl 0), []),
    (.lcmp, 15, 0, 0, 0, 0, .inl 0, []),
    (.ifCond .ge 8, 18, 23, 0, 0, 0, .inl 0, []),
    (.lload_n 3, 19, 3, 0, 0, 0, .inl 0, []),
    (.lneg, 20, 0, 0, 0, 0, .inl 0, []),
    (.goto 4, 23, 24, 0, 0, 0, .inl 0, [])]),
  (23, [(.lload_n 3, 24, 3, 0, 0, 0, .inl 0, [])]),
  (24, [(.ldc2_w 320, 27, 0, 0, 0, 0, .inr (.inl 1000000000000), []),
    (.lload_n 1, 28, 1, 0, 0, 0, .inl 0, []),
    (.lconst 0, 29, 0, 0, 0, 0, .inr (.inl 0), []),
    (.lcmp, 30, 0, 0, 0, 0, .inl 0, []),
    (.ifCond .ge 8, 33, 38, 0, 0, 0, .inl 0, []),
    (.lload_n 1, 34, 1, 0, 0, 0, .inl 0, []),
    (.lneg, 35, 0, 0, 0, 0, .inl 0, []),
    (.goto 4, 38, 39, 0, 0, 0, .inl 0, [])]),
  (38, [(.lload_n 1, 39, 1, 0, 0, 0, .inl 0, [])]),
  (39, [(.ldiv, 40, 0, 0, 0, 0, .inl 0, []),
    (.lcmp, 41, 0, 0, 0, 0, .inl 0, []),
    (.ifCond .le 7, 44, 48, 0, 0, 0, .inl 0, []),
    (.iconst 1, 45, 0, 0, 0, 0, .inl 1, []),
    (.goto 4, 48, 49, 0, 0, 0, .inl 0, [])]),
  (48, [(.iconst 0, 49, 0, 0, 0, 0, .inl 0, [])]),
  (49, [(.istore 5, 51, 5, 0, 0, 0, .inl 0, []),
    (.aload_n 0, 52, 0, 0, 0, 0, .inl 0, []),
    (.aload_n 0, 53, 0, 0, 0, 0, .inl 0, []),
    (.getfield 317, 56, 11, 48, 3, 0, .inl 0, []),
    (.ifCond .ne 8, 59, 64, 0, 0, 0, .inl 0, []),
    (.iload 5, 61, 5, 0, 0, 0, .inl 0, []),
    (.ifCond .eq 7, 64, 68, 0, 0, 0, .inl 0, [])]),
  (64, [(.iconst 1, 65, 0, 0, 0, 0, .inl 1, []),
    (.goto 4, 68, 69, 0, 0, 0, .inl 0, [])]),
  (68, [(.iconst 0, 69, 0, 0, 0, 0, .inl 0, [])]),
  (69, [(.putfield 317, 72, 11, 48, 3, 0, .inl 0, []),
    (.aload_n 0, 73, 0, 0, 0, 0, .inl 0, []),
    (.getfield 317, 76, 11, 48, 3, 0, .inl 0, []),
    (.ifCond .eq 7, 79, 83, 0, 0, 0, .inl 0, []),
    (.lconst 0, 80, 0, 0, 0, 0, .inr (.inl 0), []),
    (.goto 6, 83, 86, 0, 0, 0, .inl 0, [])]),
  (83, [(.lload_n 1, 84, 1, 0, 0, 0, .inl 0, []),
    (.lload_n 3, 85, 3, 0, 0, 0, .inl 0, []),
    (.lmul, 86, 0, 0, 0, 0, .inl 0, [])]),
  (86, [(.lreturn, 87, 0, 0, 0, 0, .inl 0, [])])]
def gT_X12_times : gs_T := ([], gB_X12_times, [(49, [0, 1, 3])])
set_option maxRecDepth 100000 in
def gB_X12_valueOf : List (Nat × List gs_N) := [(0, [(.aload_n 0, 1, 0, 0, 0, 0, .inl 0, []),
    (.getfield 80, 4, 11, 33, 2, 1, .inl 0, []),
    (.iload_n 1, 5, 1, 0, 0, 0, .inl 0, []),
    (.iaload, 6, 0, 0, 0, 0, .inl 0, []),
    (.ifCond .ne 11, 9, 17, 0, 0, 0, .inl 0, []),
    (.aload_n 0, 10, 0, 0, 0, 0, .inl 0, []),
    (.getfield 83, 13, 11, 34, 2, 1, .inl 0, []),
    (.iload_n 1, 14, 1, 0, 0, 0, .inl 0, []),
    (.iaload, 15, 0, 0, 0, 0, .inl 0, []),
    (.i2l, 16, 0, 0, 0, 0, .inl 0, []),
    (.lreturn, 17, 0, 0, 0, 0, .inl 0, [])]),
  (17, [(.aload_n 0, 18, 0, 0, 0, 0, .inl 0, []),
    (.getfield 80, 21, 11, 33, 2, 1, .inl 0, []),
    (.iload_n 1, 22, 1, 0, 0, 0, .inl 0, []),
    (.iaload, 23, 0, 0, 0, 0, .inl 0, []),
    (.iconst 1, 24, 0, 0, 0, 0, .inl 1, []),
    (.if_icmp .ne 15, 27, 39, 0, 0, 0, .inl 0, []),
    (.aload_n 0, 28, 0, 0, 0, 0, .inl 0, []),
    (.getfield 98, 31, 11, 46, 2, 1, .inl 0, []),
    (.aload_n 0, 32, 0, 0, 0, 0, .inl 0, []),
    (.getfield 83, 35, 11, 34, 2, 1, .inl 0, []),
    (.iload_n 1, 36, 1, 0, 0, 0, .inl 0, []),
    (.iaload, 37, 0, 0, 0, 0, .inl 0, []),
    (.laload, 38, 0, 0, 0, 0, .inl 0, []),
    (.lreturn, 39, 0, 0, 0, 0, .inl 0, [])]),
  (39, [(.aload_n 0, 40, 0, 0, 0, 0, .inl 0, []),
    (.getfield 102, 43, 11, 47, 2, 1, .inl 0, []),
    (.aload_n 0, 44, 0, 0, 0, 0, .inl 0, []),
    (.getfield 83, 47, 11, 34, 2, 1, .inl 0, []),
    (.iload_n 1, 48, 1, 0, 0, 0, .inl 0, []),
    (.iaload, 49, 0, 0, 0, 0, .inl 0, []),
    (.laload, 50, 0, 0, 0, 0, .inl 0, []),
    (.lstore_n 2, 51, 2, 0, 0, 0, .inl 0, []),
    (.aload_n 0, 52, 0, 0, 0, 0, .inl 0, []),
    (.getfield 80, 55, 11, 33, 2, 1, .inl 0, []),
    (.iload_n 1, 56, 1, 0, 0, 0, .inl 0, []),
    (.iaload, 57, 0, 0, 0, 0, .inl 0, []),
    (.iconst 2, 58, 0, 0, 0, 0, .inl 2, []),
    (.if_icmp .ne 15, 61, 73, 0, 0, 0, .inl 0, []),
    (.lload_n 2, 62, 2, 0, 0, 0, .inl 0, []),
    (.lconst 0, 63, 0, 0, 0, 0, .inr (.inl 0), []),
    (.lcmp, 64, 0, 0, 0, 0, .inl 0, []),
    (.ifCond .ne 7, 67, 71, 0, 0, 0, .inl 0, []),
    (.lconst 1, 68, 0, 0, 0, 0, .inr (.inl 1), []),
    (.goto 4, 71, 72, 0, 0, 0, .inl 0, [])]),
  (71, [(.lconst 0, 72, 0, 0, 0, 0, .inr (.inl 0), [])]),
  (72, [(.lreturn, 73, 0, 0, 0, 0, .inl 0, [])]),
  (73, [(.aload_n 0, 74, 0, 0, 0, 0, .inl 0, []),
    (.getfield 102, 77, 11, 47, 2, 1, .inl 0, []),
    (.aload_n 0, 78, 0, 0, 0, 0, .inl 0, []),
    (.getfield 86, 81, 11, 35, 2, 1, .inl 0, []),
    (.iload_n 1, 82, 1, 0, 0, 0, .inl 0, []),
    (.iaload, 83, 0, 0, 0, 0, .inl 0, []),
    (.laload, 84, 0, 0, 0, 0, .inl 0, []),
    (.lstore 4, 86, 4, 0, 0, 0, .inl 0, []),
    (.aload_n 0, 87, 0, 0, 0, 0, .inl 0, []),
    (.getfield 80, 90, 11, 33, 2, 1, .inl 0, []),
    (.iload_n 1, 91, 1, 0, 0, 0, .inl 0, []),
    (.iaload, 92, 0, 0, 0, 0, .inl 0, []),
    (.tableswitch 167 3 14 #[64, 83, 167, 167, 167, 167, 167, 167, 102, 111, 120, 128], 156, 259, 64, 0, 0, .inl 0, [(3, 156), (4, 175), (11, 194), (12, 203), (13, 212), (14, 220)])]),
  (156, [(.lload_n 2, 157, 2, 0, 0, 0, .inl 0, []),
    (.lconst 0, 158, 0, 0, 0, 0, .inr (.inl 0), []),
    (.lcmp, 159, 0, 0, 0, 0, .inl 0, []),
    (.ifCond .eq 14, 162, 173, 0, 0, 0, .inl 0, []),
    (.lload 4, 164, 4, 0, 0, 0, .inl 0, []),
    (.lconst 0, 165, 0, 0, 0, 0, .inr (.inl 0), []),
    (.lcmp, 166, 0, 0, 0, 0, .inl 0, []),
    (.ifCond .eq 7, 169, 173, 0, 0, 0, .inl 0, []),
    (.lconst 1, 170, 0, 0, 0, 0, .inr (.inl 1), []),
    (.goto 4, 173, 174, 0, 0, 0, .inl 0, [])]),
  (173, [(.lconst 0, 174, 0, 0, 0, 0, .inr (.inl 0), [])]),
  (174, [(.lreturn, 175, 0, 0, 0, 0, .inl 0, [])]),
  (175, [(.lload_n 2, 176, 2, 0, 0, 0, .inl 0, []),
    (.lconst 0, 177, 0, 0, 0, 0, .inr (.inl 0), []),
    (.lcmp, 178, 0, 0, 0, 0, .inl 0, []),
    (.ifCond .ne 10, 181, 188, 0, 0, 0, .inl 0, []),
    (.lload 4, 183, 4, 0, 0, 0, .inl 0, []),
    (.lconst 0, 184, 0, 0, 0, 0, .inr (.inl 0), []),
    (.lcmp, 185, 0, 0, 0, 0, .inl 0, []),
    (.ifCond .eq 7, 188, 192, 0, 0, 0, .inl 0, [])]),
  (188, [(.lconst 1, 189, 0, 0, 0, 0, .inr (.inl 1), []),
    (.goto 4, 192, 193, 0, 0, 0, .inl 0, [])]),
  (192, [(.lconst 0, 193, 0, 0, 0, 0, .inr (.inl 0), [])]),
  (193, [(.lreturn, 194, 0, 0, 0, 0, .inl 0, [])]),
  (194, [(.aload_n 0, 195, 0, 0, 0, 0, .inl 0, []),
    (.lload_n 2, 196, 2, 0, 0, 0, .inl 0, []),
    (.lload 4, 198, 4, 0, 0, 0, .inl 0, []),
    (.ladd, 199, 0, 0, 0, 0, .inl 0, []),
    (.invokevirtual 324, 202, 222, 2, 1, 11, .inl 0, []),
    (.lreturn, 203, 0, 0, 0, 0, .inl 0, [])]),
  (203, [(.aload_n 0, 204, 0, 0, 0, 0, .inl 0, []),
    (.lload_n 2, 205, 2, 0, 0, 0, .inl 0, []),
    (.lload 4, 207, 4, 0, 0, 0, .inl 0, []),
    (.lsub, 208, 0, 0, 0, 0, .inl 0, []),
    (.invokevirtual 324, 211, 222, 2, 1, 11, .inl 0, []),
    (.lreturn, 212, 0, 0, 0, 0, .inl 0, [])]),
  (212, [(.aload_n 0, 213, 0, 0, 0, 0, .inl 0, []),
    (.lload_n 2, 214, 2, 0, 0, 0, .inl 0, []),
    (.lload 4, 216, 4, 0, 0, 0, .inl 0, []),
    (.invokevirtual 328, 219, 224, 3, 1, 11, .inl 0, []),
    (.lreturn, 220, 0, 0, 0, 0, .inl 0, [])]),
  (220, [(.aload_n 0, 221, 0, 0, 0, 0, .inl 0, []),
    (.aload_n 0, 222, 0, 0, 0, 0, .inl 0, []),
    (.getfield 317, 225, 11, 48, 3, 0, .inl 0, []),
    (.ifCond .ne 10, 228, 235, 0, 0, 0, .inl 0, []),
    (.lload 4, 230, 4, 0, 0, 0, .inl 0, []),
    (.lconst 0, 231, 0, 0, 0, 0, .inr (.inl 0), []),
    (.lcmp, 232, 0, 0, 0, 0, .inl 0, []),
    (.ifCond .ne 7, 235, 239, 0, 0, 0, .inl 0, [])]),
  (235, [(.iconst 1, 236, 0, 0, 0, 0, .inl 1, []),
    (.goto 4, 239, 240, 0, 0, 0, .inl 0, [])]),
  (239, [(.iconst 0, 240, 0, 0, 0, 0, .inl 0, [])]),
  (240, [(.putfield 317, 243, 11, 48, 3, 0, .inl 0, []),
    (.aload_n 0, 244, 0, 0, 0, 0, .inl 0, []),
    (.getfield 317, 247, 11, 48, 3, 0, .inl 0, []),
    (.ifCond .eq 7, 250, 254, 0, 0, 0, .inl 0, []),
    (.lconst 0, 251, 0, 0, 0, 0, .inr (.inl 0), []),
    (.goto 7, 254, 258, 0, 0, 0, .inl 0, [])]),
  (254, [(.lload_n 2, 255, 2, 0, 0, 0, .inl 0, []),
    (.lload 4, 257, 4, 0, 0, 0, .inl 0, []),
    (.ldiv, 258, 0, 0, 0, 0, .inl 0, [])]),
  (258, [(.lreturn, 259, 0, 0, 0, 0, .inl 0, [])]),
  (259, [(.aload_n 0, 260, 0, 0, 0, 0, .inl 0, []),
    (.getfield 80, 263, 11, 33, 2, 1, .inl 0, []),
    (.iload_n 1, 264, 1, 0, 0, 0, .inl 0, []),
    (.iaload, 265, 0, 0, 0, 0, .inl 0, []),
    (.lload_n 2, 266, 2, 0, 0, 0, .inl 0, []),
    (.lload 4, 268, 4, 0, 0, 0, .inl 0, []),
    (.invokestatic 332, 271, 223, 3, 0, 1, .inl 0, []),
    (.ifCond .eq 7, 274, 278, 0, 0, 0, .inl 0, []),
    (.lconst 1, 275, 0, 0, 0, 0, .inr (.inl 1), []),
    (.goto 4, 278, 279, 0, 0, 0, .inl 0, [])]),
  (278, [(.lconst 0, 279, 0, 0, 0, 0, .inr (.inl 0), [])]),
  (279, [(.lreturn, 280, 0, 0, 0, 0, .inl 0, [])])]
def gT_X12_valueOf : gs_T := ([], gB_X12_valueOf, [])
set_option maxRecDepth 100000 in
def gB_X12_sumFor : List (Nat × List gs_N) := [(0, [(.aload_n 0, 1, 0, 0, 0, 0, .inl 0, []),
    (.getfield 98, 4, 11, 46, 2, 1, .inl 0, []),
    (.iconst 0, 5, 0, 0, 0, 0, .inl 0, []),
    (.aload_n 0, 6, 0, 0, 0, 0, .inl 0, []),
    (.getfield 59, 9, 11, 26, 2, 1, .inl 0, []),
    (.bipush 16, 11, 0, 0, 0, 0, .inl 16, []),
    (.iload_n 1, 12, 1, 0, 0, 0, .inl 0, []),
    (.imul, 13, 0, 0, 0, 0, .inl 0, []),
    (.bipush 7, 15, 0, 0, 0, 0, .inl 7, []),
    (.iadd, 16, 0, 0, 0, 0, .inl 0, []),
    (.iaload, 17, 0, 0, 0, 0, .inl 0, []),
    (.i2l, 18, 0, 0, 0, 0, .inl 0, []),
    (.lastore, 19, 0, 0, 0, 0, .inl 0, []),
    (.aload_n 0, 20, 0, 0, 0, 0, .inl 0, []),
    (.getfield 98, 23, 11, 46, 2, 1, .inl 0, []),
    (.iconst 1, 24, 0, 0, 0, 0, .inl 1, []),
    (.aload_n 0, 25, 0, 0, 0, 0, .inl 0, []),
    (.getfield 59, 28, 11, 26, 2, 1, .inl 0, []),
    (.bipush 16, 30, 0, 0, 0, 0, .inl 16, []),
    (.iload_n 1, 31, 1, 0, 0, 0, .inl 0, []),
    (.imul, 32, 0, 0, 0, 0, .inl 0, []),
    (.bipush 8, 34, 0, 0, 0, 0, .inl 8, []),
    (.iadd, 35, 0, 0, 0, 0, .inl 0, []),
    (.iaload, 36, 0, 0, 0, 0, .inl 0, []),
    (.i2l, 37, 0, 0, 0, 0, .inl 0, []),
    (.lastore, 38, 0, 0, 0, 0, .inl 0, []),
    (.aload_n 0, 39, 0, 0, 0, 0, .inl 0, []),
    (.getfield 98, 42, 11, 46, 2, 1, .inl 0, []),
    (.iconst 2, 43, 0, 0, 0, 0, .inl 2, []),
    (.aload_n 0, 44, 0, 0, 0, 0, .inl 0, []),
    (.getfield 59, 47, 11, 26, 2, 1, .inl 0, []),
    (.bipush 16, 49, 0, 0, 0, 0, .inl 16, []),
    (.iload_n 1, 50, 1, 0, 0, 0, .inl 0, []),
    (.imul, 51, 0, 0, 0, 0, .inl 0, []),
    (.bipush 9, 53, 0, 0, 0, 0, .inl 9, []),
    (.iadd, 54, 0, 0, 0, 0, .inl 0, []),
    (.iaload, 55, 0, 0, 0, 0, .inl 0, []),
    (.i2l, 56, 0, 0, 0, 0, .inl 0, []),
    (.lastore, 57, 0, 0, 0, 0, .inl 0, []),
    (.aload_n 0, 58, 0, 0, 0, 0, .inl 0, []),
    (.getfield 98, 61, 11, 46, 2, 1, .inl 0, []),
    (.iconst 3, 62, 0, 0, 0, 0, .inl 3, []),
    (.aload_n 0, 63, 0, 0, 0, 0, .inl 0, []),
    (.getfield 59, 66, 11, 26, 2, 1, .inl 0, []),
    (.bipush 16, 68, 0, 0, 0, 0, .inl 16, []),
    (.iload_n 1, 69, 1, 0, 0, 0, .inl 0, []),
    (.imul, 70, 0, 0, 0, 0, .inl 0, []),
    (.bipush 10, 72, 0, 0, 0, 0, .inl 10, []),
    (.iadd, 73, 0, 0, 0, 0, .inl 0, []),
    (.iaload, 74, 0, 0, 0, 0, .inl 0, []),
    (.i2l, 75, 0, 0, 0, 0, .inl 0, []),
    (.lastore, 76, 0, 0, 0, 0, .inl 0, []),
    (.aload_n 0, 77, 0, 0, 0, 0, .inl 0, []),
    (.getfield 98, 80, 11, 46, 2, 1, .inl 0, []),
    (.iconst 4, 81, 0, 0, 0, 0, .inl 4, []),
    (.aload_n 0, 82, 0, 0, 0, 0, .inl 0, []),
    (.getfield 59, 85, 11, 26, 2, 1, .inl 0, []),
    (.bipush 16, 87, 0, 0, 0, 0, .inl 16, []),
    (.iload_n 1, 88, 1, 0, 0, 0, .inl 0, []),
    (.imul, 89, 0, 0, 0, 0, .inl 0, []),
    (.iconst 5, 90, 0, 0, 0, 0, .inl 5, []),
    (.iadd, 91, 0, 0, 0, 0, .inl 0, []),
    (.iaload, 92, 0, 0, 0, 0, .inl 0, []),
    (.i2l, 93, 0, 0, 0, 0, .inl 0, []),
    (.lastore, 94, 0, 0, 0, 0, .inl 0, []),
    (.aload_n 0, 95, 0, 0, 0, 0, .inl 0, []),
    (.getfield 98, 98, 11, 46, 2, 1, .inl 0, []),
    (.iconst 5, 99, 0, 0, 0, 0, .inl 5, []),
    (.aload_n 0, 100, 0, 0, 0, 0, .inl 0, []),
    (.getfield 59, 103, 11, 26, 2, 1, .inl 0, []),
    (.bipush 16, 105, 0, 0, 0, 0, .inl 16, []),
    (.iload_n 1, 106, 1, 0, 0, 0, .inl 0, []),
    (.imul, 107, 0, 0, 0, 0, .inl 0, []),
    (.iconst 2, 108, 0, 0, 0, 0, .inl 2, []),
    (.iadd, 109, 0, 0, 0, 0, .inl 0, []),
    (.iaload, 110, 0, 0, 0, 0, .inl 0, []),
    (.i2l, 111, 0, 0, 0, 0, .inl 0, []),
    (.lastore, 112, 0, 0, 0, 0, .inl 0, []),
    (.aload_n 0, 113, 0, 0, 0, 0, .inl 0, []),
    (.iconst 0, 114, 0, 0, 0, 0, .inl 0, []),
    (.putfield 317, 117, 11, 48, 3, 0, .inl 0, []),
    (.aload_n 0, 118, 0, 0, 0, 0, .inl 0, []),
    (.getfield 71, 121, 11, 30, 2, 1, .inl 0, []),
    (.iload_n 2, 122, 2, 0, 0, 0, .inl 0, []),
    (.iaload, 123, 0, 0, 0, 0, .inl 0, []),
    (.istore_n 3, 124, 3, 0, 0, 0, .inl 0, [])]),
  (124, [(.iload_n 3, 125, 3, 0, 0, 0, .inl 0, []),
    (.aload_n 0, 126, 0, 0, 0, 0, .inl 0, []),
    (.getfield 74, 129, 11, 31, 2, 1, .inl 0, []),
    (.iload_n 2, 130, 2, 0, 0, 0, .inl 0, []),
    (.iaload, 131, 0, 0, 0, 0, .inl 0, []),
    (.if_icmp .ge 20, 134, 151, 0, 0, 0, .inl 0, []),
    (.aload_n 0, 135, 0, 0, 0, 0, .inl 0, []),
    (.getfield 102, 138, 11, 47, 2, 1, .inl 0, []),
    (.iload_n 3, 139, 3, 0, 0, 0, .inl 0, []),
    (.aload_n 0, 140, 0, 0, 0, 0, .inl 0, []),
    (.iload_n 3, 141, 3, 0, 0, 0, .inl 0, []),
    (.invokevirtual 336, 144, 225, 2, 1, 11, .inl 0, []),
    (.lastore, 145, 0, 0, 0, 0, .inl 0, []),
    (.iinc 3 1, 148, 3, 0, 0, 0, .inl 1, []),
    (.goto (-24), 151, 124, 0, 0, 0, .inl 0, [])]),
  (151, [(.aload_n 0, 152, 0, 0, 0, 0, .inl 0, []),
    (.getfield 102, 155, 11, 47, 2, 1, .inl 0, []),
    (.aload_n 0, 156, 0, 0, 0, 0, .inl 0, []),
    (.getfield 74, 159, 11, 31, 2, 1, .inl 0, []),
    (.iload_n 2, 160, 2, 0, 0, 0, .inl 0, []),
    (.iaload, 161, 0, 0, 0, 0, .inl 0, []),
    (.iconst 1, 162, 0, 0, 0, 0, .inl 1, []),
    (.isub, 163, 0, 0, 0, 0, .inl 0, []),
    (.laload, 164, 0, 0, 0, 0, .inl 0, []),
    (.lreturn, 165, 0, 0, 0, 0, .inl 0, [])])]
def gT_X12_sumFor : gs_T := ([], gB_X12_sumFor, [(124, [0, 2, 3])])
set_option maxRecDepth 100000 in
def gB_X12_sortOf : List (Nat × List gs_N) := [(0, [(.iconst 0, 1, 0, 0, 0, 0, .inl 0, []),
    (.istore_n 2, 2, 2, 0, 0, 0, .inl 0, [])]),
  (2, [(.iload_n 2, 3, 2, 0, 0, 0, .inl 0, []),
    (.aload_n 0, 4, 0, 0, 0, 0, .inl 0, []),
    (.getfield 20, 7, 11, 12, 2, 1, .inl 0, []),
    (.bipush 6, 9, 0, 0, 0, 0, .inl 6, []),
    (.iaload, 10, 0, 0, 0, 0, .inl 0, []),
    (.if_icmp .ge 31, 13, 41, 0, 0, 0, .inl 0, []),
    (.aload_n 0, 14, 0, 0, 0, 0, .inl 0, []),
    (.iload_n 1, 15, 1, 0, 0, 0, .inl 0, []),
    (.iload_n 2, 16, 2, 0, 0, 0, .inl 0, []),
    (.invokevirtual 340, 19, 226, 3, 1, 11, .inl 0, []),
    (.lstore_n 3, 20, 3, 0, 0, 0, .inl 0, []),
    (.aload_n 0, 21, 0, 0, 0, 0, .inl 0, []),
    (.getfield 317, 24, 11, 48, 3, 0, .inl 0, []),
    (.ifCond .ne 11, 27, 35, 0, 0, 0, .inl 0, []),
    (.lload_n 3, 28, 3, 0, 0, 0, .inl 0, []),
    (.lconst 0, 29, 0, 0, 0, 0, .inr (.inl 0), []),
    (.lcmp, 30, 0, 0, 0, 0, .inl 0, []),
    (.ifCond .eq 5, 33, 35, 0, 0, 0, .inl 0, []),
    (.iload_n 2, 34, 2, 0, 0, 0, .inl 0, []),
    (.ireturn, 35, 0, 0, 0, 0, .inl 0, [])]),
  (35, [(.iinc 2 1, 38, 2, 0, 0, 0, .inl 1, []),
    (.goto (-36), 41, 2, 0, 0, 0, .inl 0, [])]),
  (41, [(.iconst (-1), 42, 0, 0, 0, 0, .inl (-1), []),
    (.ireturn, 43, 0, 0, 0, 0, .inl 0, [])])]
def gT_X12_sortOf : gs_T := ([], gB_X12_sortOf, [(2, [0, 1, 2])])
set_option maxRecDepth 100000 in
def gB_X12_isGuest : List (Nat × List gs_N) := [(0, [(.iload_n 1, 1, 1, 0, 0, 0, .inl 0, []),
    (.ifCond .lt 17, 4, 18, 0, 0, 0, .inl 0, []),
    (.iload_n 1, 5, 1, 0, 0, 0, .inl 0, []),
    (.aload_n 0, 6, 0, 0, 0, 0, .inl 0, []),
    (.getfield 20, 9, 11, 12, 2, 1, .inl 0, []),
    (.iconst 3, 10, 0, 0, 0, 0, .inl 3, []),
    (.iaload, 11, 0, 0, 0, 0, .inl 0, []),
    (.if_icmp .ge 7, 14, 18, 0, 0, 0, .inl 0, []),
    (.iconst 1, 15, 0, 0, 0, 0, .inl 1, []),
    (.goto 4, 18, 19, 0, 0, 0, .inl 0, [])]),
  (18, [(.iconst 0, 19, 0, 0, 0, 0, .inl 0, [])]),
  (19, [(.ireturn, 20, 1, 0, 0, 0, .inl 0, [])])]
def gT_X12_isGuest : gs_T := ([], gB_X12_isGuest, [])
set_option maxRecDepth 100000 in
def gB_X12_isCloud : List (Nat × List gs_N) := [(0, [(.iload_n 1, 1, 1, 0, 0, 0, .inl 0, []),
    (.ifCond .lt 17, 4, 18, 0, 0, 0, .inl 0, []),
    (.iload_n 1, 5, 1, 0, 0, 0, .inl 0, []),
    (.aload_n 0, 6, 0, 0, 0, 0, .inl 0, []),
    (.getfield 20, 9, 11, 12, 2, 1, .inl 0, []),
    (.iconst 5, 10, 0, 0, 0, 0, .inl 5, []),
    (.iaload, 11, 0, 0, 0, 0, .inl 0, []),
    (.if_icmp .ge 7, 14, 18, 0, 0, 0, .inl 0, []),
    (.iconst 1, 15, 0, 0, 0, 0, .inl 1, []),
    (.goto 4, 18, 19, 0, 0, 0, .inl 0, [])]),
  (18, [(.iconst 0, 19, 0, 0, 0, 0, .inl 0, [])]),
  (19, [(.ireturn, 20, 1, 0, 0, 0, .inl 0, [])])]
def gT_X12_isCloud : gs_T := ([], gB_X12_isCloud, [])
set_option maxRecDepth 100000 in
def gB_X12_sort : List (Nat × List gs_N) := [(0, [(.aload_n 0, 1, 0, 0, 0, 0, .inl 0, []),
    (.iconst 0, 2, 0, 0, 0, 0, .inl 0, []),
    (.putfield 129, 5, 11, 2, 0, 0, .inl 0, []),
    (.aload_n 0, 6, 0, 0, 0, 0, .inl 0, []),
    (.iload_n 1, 7, 1, 0, 0, 0, .inl 0, []),
    (.invokevirtual 344, 10, 228, 2, 0, 11, .inl 0, []),
    (.ifCond .eq 11, 13, 21, 0, 0, 0, .inl 0, []),
    (.aload_n 0, 14, 0, 0, 0, 0, .inl 0, []),
    (.iload_n 1, 15, 1, 0, 0, 0, .inl 0, []),
    (.invokevirtual 347, 18, 227, 2, 0, 11, .inl 0, []),
    (.goto 5, 21, 23, 0, 0, 0, .inl 0, [])]),
  (21, [(.bipush (-2), 23, 0, 0, 0, 0, .inl (-2), [])]),
  (23, [(.ireturn, 24, 0, 0, 0, 0, .inl 0, [])])]
def gT_X12_sort : gs_T := ([], gB_X12_sort, [])
set_option maxRecDepth 100000 in
def gB_X12_oddsOf : List (Nat × List gs_N) := [(0, [(.aload_n 0, 1, 0, 0, 0, 0, .inl 0, []),
    (.iload_n 1, 2, 1, 0, 0, 0, .inl 0, []),
    (.iload_n 2, 3, 2, 0, 0, 0, .inl 0, []),
    (.invokevirtual 340, 6, 226, 3, 1, 11, .inl 0, []),
    (.lstore_n 3, 7, 3, 0, 0, 0, .inl 0, []),
    (.aload_n 0, 8, 0, 0, 0, 0, .inl 0, []),
    (.getfield 317, 11, 11, 48, 3, 0, .inl 0, []),
    (.ifCond .ne 9, 14, 20, 0, 0, 0, .inl 0, []),
    (.lload_n 3, 15, 3, 0, 0, 0, .inl 0, []),
    (.lconst 0, 16, 0, 0, 0, 0, .inr (.inl 0), []),
    (.lcmp, 17, 0, 0, 0, 0, .inl 0, []),
    (.ifCond .ge 5, 20, 22, 0, 0, 0, .inl 0, [])]),
  (20, [(.lconst 0, 21, 0, 0, 0, 0, .inr (.inl 0), []),
    (.lstore_n 3, 22, 3, 0, 0, 0, .inl 0, [])]),
  (22, [(.aload_n 0, 23, 0, 0, 0, 0, .inl 0, []),
    (.getfield 68, 26, 11, 29, 2, 1, .inl 0, []),
    (.iload_n 2, 27, 2, 0, 0, 0, .inl 0, []),
    (.iaload, 28, 0, 0, 0, 0, .inl 0, []),
    (.i2l, 29, 0, 0, 0, 0, .inl 0, []),
    (.lload_n 3, 30, 3, 0, 0, 0, .inl 0, []),
    (.ldc2_w 350, 33, 0, 0, 0, 0, .inr (.inl 9999), []),
    (.lcmp, 34, 0, 0, 0, 0, .inl 0, []),
    (.ifCond .le 9, 37, 43, 0, 0, 0, .inl 0, []),
    (.ldc2_w 350, 40, 0, 0, 0, 0, .inr (.inl 9999), []),
    (.goto 4, 43, 44, 0, 0, 0, .inl 0, [])]),
  (43, [(.lload_n 3, 44, 3, 0, 0, 0, .inl 0, [])]),
  (44, [(.lmul, 45, 0, 0, 0, 0, .inl 0, []),
    (.lreturn, 46, 0, 0, 0, 0, .inl 0, [])])]
def gT_X12_oddsOf : gs_T := ([], gB_X12_oddsOf, [])
end
section
set_option maxRecDepth 100000 in
def gB_X12_common : List (Nat × List gs_N) := [(0, [(.lload_n 0, 1, 0, 0, 0, 0, .inl 0, []),
    (.lstore 4, 3, 4, 0, 0, 0, .inl 0, []),
    (.lload_n 2, 4, 2, 0, 0, 0, .inl 0, []),
    (.lstore 6, 6, 6, 0, 0, 0, .inl 0, [])]),
  (6, [(.lload 6, 8, 6, 0, 0, 0, .inl 0, []),
    (.lconst 0, 9, 0, 0, 0, 0, .inr (.inl 0), []),
    (.lcmp, 10, 0, 0, 0, 0, .inl 0, []),
    (.ifCond .eq 21, 13, 31, 0, 0, 0, .inl 0, []),
    (.lload 4, 15, 4, 0, 0, 0, .inl 0, []),
    (.lload 6, 17, 6, 0, 0, 0, .inl 0, []),
    (.lrem, 18, 0, 0, 0, 0, .inl 0, []),
    (.lstore 8, 20, 8, 0, 0, 0, .inl 0, []),
    (.lload 6, 22, 6, 0, 0, 0, .inl 0, []),
    (.lstore 4, 24, 4, 0, 0, 0, .inl 0, []),
    (.lload 8, 26, 8, 0, 0, 0, .inl 0, []),
    (.lstore 6, 28, 6, 0, 0, 0, .inl 0, []),
    (.goto (-22), 31, 6, 0, 0, 0, .inl 0, [])]),
  (31, [(.lload 4, 33, 4, 0, 0, 0, .inl 0, []),
    (.lreturn, 34, 0, 0, 0, 0, .inl 0, [])])]
def gT_X12_common : gs_T := ([], gB_X12_common, [(6, [4, 6])])
set_option maxRecDepth 100000 in
def gB_X12_least : List (Nat × List gs_N) := [(0, [(.lload_n 2, 1, 2, 0, 0, 0, .inl 0, []),
    (.lconst 0, 2, 0, 0, 0, 0, .inr (.inl 0), []),
    (.lcmp, 3, 0, 0, 0, 0, .inl 0, []),
    (.ifCond .ne 5, 6, 8, 0, 0, 0, .inl 0, []),
    (.lconst 0, 7, 0, 0, 0, 0, .inr (.inl 0), []),
    (.lreturn, 8, 0, 0, 0, 0, .inl 0, [])]),
  (8, [(.lload_n 0, 9, 0, 0, 0, 0, .inl 0, []),
    (.lload_n 2, 10, 2, 0, 0, 0, .inl 0, []),
    (.invokestatic 352, 13, 232, 2, 1, 1, .inl 0, []),
    (.lstore 5, 15, 5, 0, 0, 0, .inl 0, []),
    (.iload 4, 17, 4, 0, 0, 0, .inl 0, []),
    (.ifCond .ne 10, 20, 27, 0, 0, 0, .inl 0, []),
    (.lload_n 0, 21, 0, 0, 0, 0, .inl 0, []),
    (.lload 5, 23, 5, 0, 0, 0, .inl 0, []),
    (.ldiv, 24, 0, 0, 0, 0, .inl 0, []),
    (.goto 7, 27, 31, 0, 0, 0, .inl 0, [])]),
  (27, [(.lload_n 2, 28, 2, 0, 0, 0, .inl 0, []),
    (.lload 5, 30, 5, 0, 0, 0, .inl 0, []),
    (.ldiv, 31, 0, 0, 0, 0, .inl 0, [])]),
  (31, [(.lreturn, 32, 0, 0, 0, 0, .inl 0, [])])]
def gT_X12_least : gs_T := ([], gB_X12_least, [])
set_option maxRecDepth 100000 in
def gB_X12_odds : List (Nat × List gs_N) := [(0, [(.aload_n 0, 1, 0, 0, 0, 0, .inl 0, []),
    (.iconst 0, 2, 0, 0, 0, 0, .inl 0, []),
    (.putfield 129, 5, 11, 2, 0, 0, .inl 0, []),
    (.aload_n 0, 6, 0, 0, 0, 0, .inl 0, []),
    (.iload_n 1, 7, 1, 0, 0, 0, .inl 0, []),
    (.invokevirtual 344, 10, 228, 2, 0, 11, .inl 0, []),
    (.ifCond .eq 27, 13, 37, 0, 0, 0, .inl 0, []),
    (.iload_n 2, 14, 2, 0, 0, 0, .inl 0, []),
    (.ifCond .lt 23, 17, 37, 0, 0, 0, .inl 0, []),
    (.iload_n 2, 18, 2, 0, 0, 0, .inl 0, []),
    (.aload_n 0, 19, 0, 0, 0, 0, .inl 0, []),
    (.getfield 20, 22, 11, 12, 2, 1, .inl 0, []),
    (.bipush 6, 24, 0, 0, 0, 0, .inl 6, []),
    (.iaload, 25, 0, 0, 0, 0, .inl 0, []),
    (.if_icmp .ge 12, 28, 37, 0, 0, 0, .inl 0, []),
    (.iload_n 3, 29, 3, 0, 0, 0, .inl 0, []),
    (.iconst 0, 30, 0, 0, 0, 0, .inl 0, []),
    (.iconst 1, 31, 0, 0, 0, 0, .inl 1, []),
    (.invokestatic 173, 34, 175, 3, 0, 1, .inl 0, []),
    (.ifCond .ne 7, 37, 41, 0, 0, 0, .inl 0, [])]),
  (37, [(.ldc2_w 355, 40, 0, 0, 0, 0, .inr (.inl (-1)), []),
    (.lreturn, 41, 0, 0, 0, 0, .inl 0, [])]),
  (41, [(.lconst 0, 42, 0, 0, 0, 0, .inr (.inl 0), []),
    (.lstore 4, 44, 4, 0, 0, 0, .inl 0, []),
    (.iconst 0, 45, 0, 0, 0, 0, .inl 0, []),
    (.istore 6, 47, 6, 0, 0, 0, .inl 0, [])]),
  (47, [(.iload 6, 49, 6, 0, 0, 0, .inl 0, []),
    (.aload_n 0, 50, 0, 0, 0, 0, .inl 0, []),
    (.getfield 20, 53, 11, 12, 2, 1, .inl 0, []),
    (.bipush 6, 55, 0, 0, 0, 0, .inl 6, []),
    (.iaload, 56, 0, 0, 0, 0, .inl 0, []),
    (.if_icmp .ge 21, 59, 77, 0, 0, 0, .inl 0, []),
    (.lload 4, 61, 4, 0, 0, 0, .inl 0, []),
    (.aload_n 0, 62, 0, 0, 0, 0, .inl 0, []),
    (.iload_n 1, 63, 1, 0, 0, 0, .inl 0, []),
    (.iload 6, 65, 6, 0, 0, 0, .inl 0, []),
    (.invokevirtual 357, 68, 231, 3, 1, 11, .inl 0, []),
    (.ladd, 69, 0, 0, 0, 0, .inl 0, []),
    (.lstore 4, 71, 4, 0, 0, 0, .inl 0, []),
    (.iinc 6 1, 74, 6, 0, 0, 0, .inl 1, []),
    (.goto (-27), 77, 47, 0, 0, 0, .inl 0, [])]),
  (77, [(.aload_n 0, 78, 0, 0, 0, 0, .inl 0, []),
    (.iload_n 1, 79, 1, 0, 0, 0, .inl 0, []),
    (.iload_n 2, 80, 2, 0, 0, 0, .inl 0, []),
    (.invokevirtual 357, 83, 231, 3, 1, 11, .inl 0, []),
    (.lload 4, 85, 4, 0, 0, 0, .inl 0, []),
    (.iload_n 3, 86, 3, 0, 0, 0, .inl 0, []),
    (.invokestatic 360, 89, 233, 3, 1, 1, .inl 0, []),
    (.lreturn, 90, 0, 0, 0, 0, .inl 0, [])])]
def gT_X12_odds : gs_T := ([], gB_X12_odds, [(47, [0, 1, 2, 3, 4, 6])])
set_option maxRecDepth 100000 in
def gB_X12_fails : List (Nat × List gs_N) := [(0, [(.aload_n 0, 1, 0, 0, 0, 0, .inl 0, []),
    (.iload_n 1, 2, 1, 0, 0, 0, .inl 0, []),
    (.putfield 129, 5, 11, 2, 0, 0, .inl 0, []),
    (.iconst 0, 6, 0, 0, 0, 0, .inl 0, []),
    (.ireturn, 7, 0, 0, 0, 0, .inl 0, [])])]
def gT_X12_fails : gs_T := ([], gB_X12_fails, [])
set_option maxRecDepth 100000 in
def gB_X12_look : List (Nat × List gs_N) := [(0, [(.aload_n 0, 1, 0, 0, 0, 0, .inl 0, []),
    (.iconst 0, 2, 0, 0, 0, 0, .inl 0, []),
    (.putfield 129, 5, 11, 2, 0, 0, .inl 0, []),
    (.aload_n 0, 6, 0, 0, 0, 0, .inl 0, []),
    (.iload_n 1, 7, 1, 0, 0, 0, .inl 0, []),
    (.invokevirtual 344, 10, 228, 2, 0, 11, .inl 0, []),
    (.ifCond .ne 9, 13, 19, 0, 0, 0, .inl 0, []),
    (.aload_n 0, 14, 0, 0, 0, 0, .inl 0, []),
    (.iconst 1, 15, 0, 0, 0, 0, .inl 1, []),
    (.invokevirtual 364, 18, 235, 2, 0, 11, .inl 0, []),
    (.ireturn, 19, 0, 0, 0, 0, .inl 0, [])]),
  (19, [(.iload_n 2, 20, 2, 0, 0, 0, .inl 0, []),
    (.tableswitch 232 0 12 #[68, 80, 92, 104, 116, 128, 141, 154, 167, 180, 193, 206, 219], 88, 252, 68, 0, 0, .inl 0, [(0, 88), (1, 100), (2, 112), (3, 124), (4, 136), (5, 148), (6, 161), (7, 174), (8, 187), (9, 200), (10, 213), (11, 226), (12, 239)])]),
  (88, [(.aload_n 0, 89, 0, 0, 0, 0, .inl 0, []),
    (.getfield 59, 92, 11, 26, 2, 1, .inl 0, []),
    (.bipush 16, 94, 0, 0, 0, 0, .inl 16, []),
    (.iload_n 1, 95, 1, 0, 0, 0, .inl 0, []),
    (.imul, 96, 0, 0, 0, 0, .inl 0, []),
    (.iconst 1, 97, 0, 0, 0, 0, .inl 1, []),
    (.iadd, 98, 0, 0, 0, 0, .inl 0, []),
    (.iaload, 99, 0, 0, 0, 0, .inl 0, []),
    (.ireturn, 100, 0, 0, 0, 0, .inl 0, [])]),
  (100, [(.aload_n 0, 101, 0, 0, 0, 0, .inl 0, []),
    (.getfield 59, 104, 11, 26, 2, 1, .inl 0, []),
    (.bipush 16, 106, 0, 0, 0, 0, .inl 16, []),
    (.iload_n 1, 107, 1, 0, 0, 0, .inl 0, []),
    (.imul, 108, 0, 0, 0, 0, .inl 0, []),
    (.iconst 2, 109, 0, 0, 0, 0, .inl 2, []),
    (.iadd, 110, 0, 0, 0, 0, .inl 0, []),
    (.iaload, 111, 0, 0, 0, 0, .inl 0, []),
    (.ireturn, 112, 0, 0, 0, 0, .inl 0, [])]),
  (112, [(.aload_n 0, 113, 0, 0, 0, 0, .inl 0, []),
    (.getfield 59, 116, 11, 26, 2, 1, .inl 0, []),
    (.bipush 16, 118, 0, 0, 0, 0, .inl 16, []),
    (.iload_n 1, 119, 1, 0, 0, 0, .inl 0, []),
    (.imul, 120, 0, 0, 0, 0, .inl 0, []),
    (.iconst 3, 121, 0, 0, 0, 0, .inl 3, []),
    (.iadd, 122, 0, 0, 0, 0, .inl 0, []),
    (.iaload, 123, 0, 0, 0, 0, .inl 0, []),
    (.ireturn, 124, 0, 0, 0, 0, .inl 0, [])]),
  (124, [(.aload_n 0, 125, 0, 0, 0, 0, .inl 0, []),
    (.getfield 59, 128, 11, 26, 2, 1, .inl 0, []),
    (.bipush 16, 130, 0, 0, 0, 0, .inl 16, []),
    (.iload_n 1, 131, 1, 0, 0, 0, .inl 0, []),
    (.imul, 132, 0, 0, 0, 0, .inl 0, []),
    (.iconst 4, 133, 0, 0, 0, 0, .inl 4, []),
    (.iadd, 134, 0, 0, 0, 0, .inl 0, []),
    (.iaload, 135, 0, 0, 0, 0, .inl 0, []),
    (.ireturn, 136, 0, 0, 0, 0, .inl 0, [])]),
  (136, [(.aload_n 0, 137, 0, 0, 0, 0, .inl 0, []),
    (.getfield 59, 140, 11, 26, 2, 1, .inl 0, []),
    (.bipush 16, 142, 0, 0, 0, 0, .inl 16, []),
    (.iload_n 1, 143, 1, 0, 0, 0, .inl 0, []),
    (.imul, 144, 0, 0, 0, 0, .inl 0, []),
    (.iconst 5, 145, 0, 0, 0, 0, .inl 5, []),
    (.iadd, 146, 0, 0, 0, 0, .inl 0, []),
    (.iaload, 147, 0, 0, 0, 0, .inl 0, []),
    (.ireturn, 148, 0, 0, 0, 0, .inl 0, [])]),
  (148, [(.aload_n 0, 149, 0, 0, 0, 0, .inl 0, []),
    (.getfield 59, 152, 11, 26, 2, 1, .inl 0, []),
    (.bipush 16, 154, 0, 0, 0, 0, .inl 16, []),
    (.iload_n 1, 155, 1, 0, 0, 0, .inl 0, []),
    (.imul, 156, 0, 0, 0, 0, .inl 0, []),
    (.bipush 6, 158, 0, 0, 0, 0, .inl 6, []),
    (.iadd, 159, 0, 0, 0, 0, .inl 0, []),
    (.iaload, 160, 0, 0, 0, 0, .inl 0, []),
    (.ireturn, 161, 0, 0, 0, 0, .inl 0, [])]),
  (161, [(.aload_n 0, 162, 0, 0, 0, 0, .inl 0, []),
    (.getfield 59, 165, 11, 26, 2, 1, .inl 0, []),
    (.bipush 16, 167, 0, 0, 0, 0, .inl 16, []),
    (.iload_n 1, 168, 1, 0, 0, 0, .inl 0, []),
    (.imul, 169, 0, 0, 0, 0, .inl 0, []),
    (.bipush 7, 171, 0, 0, 0, 0, .inl 7, []),
    (.iadd, 172, 0, 0, 0, 0, .inl 0, []),
    (.iaload, 173, 0, 0, 0, 0, .inl 0, []),
    (.ireturn, 174, 0, 0, 0, 0, .inl 0, [])]),
  (174, [(.aload_n 0, 175, 0, 0, 0, 0, .inl 0, []),
    (.getfield 59, 178, 11, 26, 2, 1, .inl 0, []),
    (.bipush 16, 180, 0, 0, 0, 0, .inl 16, []),
    (.iload_n 1, 181, 1, 0, 0, 0, .inl 0, []),
    (.imul, 182, 0, 0, 0, 0, .inl 0, []),
    (.bipush 8, 184, 0, 0, 0, 0, .inl 8, []),
    (.iadd, 185, 0, 0, 0, 0, .inl 0, []),
    (.iaload, 186, 0, 0, 0, 0, .inl 0, []),
    (.ireturn, 187, 0, 0, 0, 0, .inl 0, [])]),
  (187, [(.aload_n 0, 188, 0, 0, 0, 0, .inl 0, []),
    (.getfield 59, 191, 11, 26, 2, 1, .inl 0, []),
    (.bipush 16, 193, 0, 0, 0, 0, .inl 16, []),
    (.iload_n 1, 194, 1, 0, 0, 0, .inl 0, []),
    (.imul, 195, 0, 0, 0, 0, .inl 0, []),
    (.bipush 9, 197, 0, 0, 0, 0, .inl 9, []),
    (.iadd, 198, 0, 0, 0, 0, .inl 0, []),
    (.iaload, 199, 0, 0, 0, 0, .inl 0, []),
    (.ireturn, 200, 0, 0, 0, 0, .inl 0, [])]),
  (200, [(.aload_n 0, 201, 0, 0, 0, 0, .inl 0, []),
    (.getfield 59, 204, 11, 26, 2, 1, .inl 0, []),
    (.bipush 16, 206, 0, 0, 0, 0, .inl 16, []),
    (.iload_n 1, 207, 1, 0, 0, 0, .inl 0, []),
    (.imul, 208, 0, 0, 0, 0, .inl 0, []),
    (.bipush 10, 210, 0, 0, 0, 0, .inl 10, []),
    (.iadd, 211, 0, 0, 0, 0, .inl 0, []),
    (.iaload, 212, 0, 0, 0, 0, .inl 0, []),
    (.ireturn, 213, 0, 0, 0, 0, .inl 0, [])]),
  (213, [(.aload_n 0, 214, 0, 0, 0, 0, .inl 0, []),
    (.getfield 59, 217, 11, 26, 2, 1, .inl 0, []),
    (.bipush 16, 219, 0, 0, 0, 0, .inl 16, []),
    (.iload_n 1, 220, 1, 0, 0, 0, .inl 0, []),
    (.imul, 221, 0, 0, 0, 0, .inl 0, []),
    (.bipush 11, 223, 0, 0, 0, 0, .inl 11, []),
    (.iadd, 224, 0, 0, 0, 0, .inl 0, []),
    (.iaload, 225, 0, 0, 0, 0, .inl 0, []),
    (.ireturn, 226, 0, 0, 0, 0, .inl 0, [])]),
  (226, [(.aload_n 0, 227, 0, 0, 0, 0, .inl 0, []),
    (.getfield 59, 230, 11, 26, 2, 1, .inl 0, []),
    (.bipush 16, 232, 0, 0, 0, 0, .inl 16, []),
    (.iload_n 1, 233, 1, 0, 0, 0, .inl 0, []),
    (.imul, 234, 0, 0, 0, 0, .inl 0, []),
    (.bipush 12, 236, 0, 0, 0, 0, .inl 12, []),
    (.iadd, 237, 0, 0, 0, 0, .inl 0, []),
    (.iaload, 238, 0, 0, 0, 0, .inl 0, []),
    (.ireturn, 239, 0, 0, 0, 0, .inl 0, [])]),
  (239, [(.aload_n 0, 240, 0, 0, 0, 0, .inl 0, []),
    (.getfield 59, 243, 11, 26, 2, 1, .inl 0, []),
    (.bipush 16, 245, 0, 0, 0, 0, .inl 16, []),
    (.iload_n 1, 246, 1, 0, 0, 0, .inl 0, []),
    (.imul, 247, 0, 0, 0, 0, .inl 0, []),
    (.bipush 13, 249, 0, 0, 0, 0, .inl 13, []),
    (.iadd, 250, 0, 0, 0, 0, .inl 0, []),
    (.iaload, 251, 0, 0, 0, 0, .inl 0, []),
    (.ireturn, 252, 0, 0, 0, 0, .inl 0, [])]),
  (252, [(.aload_n 0, 253, 0, 0, 0, 0, .inl 0, []),
    (.iconst 2, 254, 0, 0, 0, 0, .inl 2, []),
    (.invokevirtual 364, 257, 235, 2, 0, 11, .inl 0, []),
    (.ireturn, 258, 0, 0, 0, 0, .inl 0, [])])]
def gT_X12_look : gs_T := ([], gB_X12_look, [])
set_option maxRecDepth 100000 in
def gB_X12_isRock : List (Nat × List gs_N) := [(0, [(.aload_n 0, 1, 0, 0, 0, 0, .inl 0, []),
    (.getfield 59, 4, 11, 26, 2, 1, .inl 0, []),
    (.bipush 16, 6, 0, 0, 0, 0, .inl 16, []),
    (.iload_n 1, 7, 1, 0, 0, 0, .inl 0, []),
    (.imul, 8, 0, 0, 0, 0, .inl 0, []),
    (.iaload, 9, 0, 0, 0, 0, .inl 0, []),
    (.ifCond .ge 7, 12, 16, 0, 0, 0, .inl 0, []),
    (.iconst 1, 13, 0, 0, 0, 0, .inl 1, []),
    (.goto 4, 16, 17, 0, 0, 0, .inl 0, [])]),
  (16, [(.iconst 0, 17, 0, 0, 0, 0, .inl 0, [])]),
  (17, [(.ireturn, 18, 1, 0, 0, 0, .inl 0, [])])]
def gT_X12_isRock : gs_T := ([], gB_X12_isRock, [])
set_option maxRecDepth 100000 in
def gB_X12_roundOf : List (Nat × List gs_N) := [(0, [(.iload_n 1, 1, 1, 0, 0, 0, .inl 0, []),
    (.aload_n 0, 2, 0, 0, 0, 0, .inl 0, []),
    (.getfield 29, 5, 11, 15, 2, 1, .inl 0, []),
    (.iconst 0, 6, 0, 0, 0, 0, .inl 0, []),
    (.iaload, 7, 0, 0, 0, 0, .inl 0, []),
    (.iadd, 8, 0, 0, 0, 0, .inl 0, []),
    (.bipush 60, 10, 0, 0, 0, 0, .inl 60, []),
    (.irem, 11, 0, 0, 0, 0, .inl 0, []),
    (.ireturn, 12, 0, 0, 0, 0, .inl 0, [])])]
def gT_X12_roundOf : gs_T := ([], gB_X12_roundOf, [])
set_option maxRecDepth 100000 in
def gB_X12_isDay : List (Nat × List gs_N) := [(0, [(.iload_n 0, 1, 0, 0, 0, 0, .inl 0, []),
    (.ifCond .lt 14, 4, 15, 0, 0, 0, .inl 0, []),
    (.iload_n 0, 5, 0, 0, 0, 0, .inl 0, []),
    (.ldc_w 367, 8, 0, 0, 0, 0, .inl 708000, []),
    (.if_icmp .ge 7, 11, 15, 0, 0, 0, .inl 0, []),
    (.iconst 1, 12, 0, 0, 0, 0, .inl 1, []),
    (.goto 4, 15, 16, 0, 0, 0, .inl 0, [])]),
  (15, [(.iconst 0, 16, 0, 0, 0, 0, .inl 0, [])]),
  (16, [(.ireturn, 17, 1, 0, 0, 0, .inl 0, [])])]
def gT_X12_isDay : gs_T := ([], gB_X12_isDay, [])
set_option maxRecDepth 100000 in
def gB_X12_round : List (Nat × List gs_N) := [(0, [(.aload_n 0, 1, 0, 0, 0, 0, .inl 0, []),
    (.iconst 0, 2, 0, 0, 0, 0, .inl 0, []),
    (.putfield 129, 5, 11, 2, 0, 0, .inl 0, []),
    (.iload_n 1, 6, 1, 0, 0, 0, .inl 0, []),
    (.invokestatic 368, 9, 239, 1, 0, 1, .inl 0, []),
    (.ifCond .eq 11, 12, 20, 0, 0, 0, .inl 0, []),
    (.aload_n 0, 13, 0, 0, 0, 0, .inl 0, []),
    (.iload_n 1, 14, 1, 0, 0, 0, .inl 0, []),
    (.invokevirtual 371, 17, 238, 2, 0, 11, .inl 0, []),
    (.goto 4, 20, 21, 0, 0, 0, .inl 0, [])]),
  (20, [(.iconst (-1), 21, 0, 0, 0, 0, .inl (-1), [])]),
  (21, [(.ireturn, 22, 0, 0, 0, 0, .inl 0, [])])]
def gT_X12_round : gs_T := ([], gB_X12_round, [])
set_option maxRecDepth 100000 in
def gB_X12_beginOf : List (Nat × List gs_N) := [(0, [(.sipush 354, 3, 0, 0, 0, 0, .inl 354, []),
    (.iload_n 0, 4, 0, 0, 0, 0, .inl 0, []),
    (.imul, 5, 0, 0, 0, 0, .inl 0, []),
    (.bipush 29, 7, 0, 0, 0, 0, .inl 29, []),
    (.iload_n 1, 8, 1, 0, 0, 0, .inl 0, []),
    (.iconst 1, 9, 0, 0, 0, 0, .inl 1, []),
    (.isub, 10, 0, 0, 0, 0, .inl 0, []),
    (.imul, 11, 0, 0, 0, 0, .inl 0, []),
    (.iadd, 12, 0, 0, 0, 0, .inl 0, []),
    (.iload_n 1, 13, 1, 0, 0, 0, .inl 0, []),
    (.iconst 2, 14, 0, 0, 0, 0, .inl 2, []),
    (.idiv, 15, 0, 0, 0, 0, .inl 0, []),
    (.iadd, 16, 0, 0, 0, 0, .inl 0, []),
    (.ireturn, 17, 0, 0, 0, 0, .inl 0, [])])]
def gT_X12_beginOf : gs_T := ([], gB_X12_beginOf, [])
set_option maxRecDepth 100000 in
def gB_X12_dayIn : List (Nat × List gs_N) := [(0, [(.iload_n 1, 1, 1, 0, 0, 0, .inl 0, []),
    (.iload_n 2, 2, 2, 0, 0, 0, .inl 0, []),
    (.invokestatic 374, 5, 241, 2, 0, 1, .inl 0, []),
    (.istore 4, 7, 4, 0, 0, 0, .inl 0, []),
    (.iload 4, 9, 4, 0, 0, 0, .inl 0, []),
    (.istore 5, 11, 5, 0, 0, 0, .inl 0, [])]),
  (11, [(.iload 5, 13, 5, 0, 0, 0, .inl 0, []),
    (.iload 4, 15, 4, 0, 0, 0, .inl 0, []),
    (.bipush 29, 17, 0, 0, 0, 0, .inl 29, []),
    (.iadd, 18, 0, 0, 0, 0, .inl 0, []),
    (.iload_n 2, 19, 2, 0, 0, 0, .inl 0, []),
    (.iconst 2, 20, 0, 0, 0, 0, .inl 2, []),
    (.irem, 21, 0, 0, 0, 0, .inl 0, []),
    (.iadd, 22, 0, 0, 0, 0, .inl 0, []),
    (.if_icmp .ge 22, 25, 44, 0, 0, 0, .inl 0, []),
    (.aload_n 0, 26, 0, 0, 0, 0, .inl 0, []),
    (.iload 5, 28, 5, 0, 0, 0, .inl 0, []),
    (.invokevirtual 371, 31, 238, 2, 0, 11, .inl 0, []),
    (.iload_n 3, 32, 3, 0, 0, 0, .inl 0, []),
    (.if_icmp .ne 6, 35, 38, 0, 0, 0, .inl 0, []),
    (.iload 5, 37, 5, 0, 0, 0, .inl 0, []),
    (.ireturn, 38, 0, 0, 0, 0, .inl 0, [])]),
  (38, [(.iinc 5 1, 41, 5, 0, 0, 0, .inl 1, []),
    (.goto (-30), 44, 11, 0, 0, 0, .inl 0, [])]),
  (44, [(.iconst (-1), 45, 0, 0, 0, 0, .inl (-1), []),
    (.ireturn, 46, 0, 0, 0, 0, .inl 0, [])])]
def gT_X12_dayIn : gs_T := ([], gB_X12_dayIn, [(11, [0, 2, 3, 4, 5])])
set_option maxRecDepth 100000 in
def gB_X12_dayOf : List (Nat × List gs_N) := [(0, [(.aload_n 0, 1, 0, 0, 0, 0, .inl 0, []),
    (.iload_n 1, 2, 1, 0, 0, 0, .inl 0, []),
    (.invokevirtual 377, 5, 237, 2, 0, 11, .inl 0, []),
    (.ifCond .eq 7, 8, 12, 0, 0, 0, .inl 0, []),
    (.iconst (-1), 9, 0, 0, 0, 0, .inl (-1), []),
    (.goto 40, 12, 49, 0, 0, 0, .inl 0, [])]),
  (12, [(.aload_n 0, 13, 0, 0, 0, 0, .inl 0, []),
    (.aload_n 0, 14, 0, 0, 0, 0, .inl 0, []),
    (.getfield 59, 17, 11, 26, 2, 1, .inl 0, []),
    (.bipush 16, 19, 0, 0, 0, 0, .inl 16, []),
    (.iload_n 1, 20, 1, 0, 0, 0, .inl 0, []),
    (.imul, 21, 0, 0, 0, 0, .inl 0, []),
    (.iconst 1, 22, 0, 0, 0, 0, .inl 1, []),
    (.iadd, 23, 0, 0, 0, 0, .inl 0, []),
    (.iaload, 24, 0, 0, 0, 0, .inl 0, []),
    (.aload_n 0, 25, 0, 0, 0, 0, .inl 0, []),
    (.getfield 59, 28, 11, 26, 2, 1, .inl 0, []),
    (.bipush 16, 30, 0, 0, 0, 0, .inl 16, []),
    (.iload_n 1, 31, 1, 0, 0, 0, .inl 0, []),
    (.imul, 32, 0, 0, 0, 0, .inl 0, []),
    (.iconst 2, 33, 0, 0, 0, 0, .inl 2, []),
    (.iadd, 34, 0, 0, 0, 0, .inl 0, []),
    (.iaload, 35, 0, 0, 0, 0, .inl 0, []),
    (.aload_n 0, 36, 0, 0, 0, 0, .inl 0, []),
    (.getfield 59, 39, 11, 26, 2, 1, .inl 0, []),
    (.bipush 16, 41, 0, 0, 0, 0, .inl 16, []),
    (.iload_n 1, 42, 1, 0, 0, 0, .inl 0, []),
    (.imul, 43, 0, 0, 0, 0, .inl 0, []),
    (.iconst 3, 44, 0, 0, 0, 0, .inl 3, []),
    (.iadd, 45, 0, 0, 0, 0, .inl 0, []),
    (.iaload, 46, 0, 0, 0, 0, .inl 0, []),
    (.invokevirtual 380, 49, 242, 4, 0, 11, .inl 0, [])]),
  (49, [(.ireturn, 50, 0, 0, 0, 0, .inl 0, [])])]
def gT_X12_dayOf : gs_T := ([], gB_X12_dayOf, [])
set_option maxRecDepth 100000 in
def gB_X12_day : List (Nat × List gs_N) := [(0, [(.aload_n 0, 1, 0, 0, 0, 0, .inl 0, []),
    (.iconst 0, 2, 0, 0, 0, 0, .inl 0, []),
    (.putfield 129, 5, 11, 2, 0, 0, .inl 0, []),
    (.aload_n 0, 6, 0, 0, 0, 0, .inl 0, []),
    (.iload_n 1, 7, 1, 0, 0, 0, .inl 0, []),
    (.invokevirtual 344, 10, 228, 2, 0, 11, .inl 0, []),
    (.ifCond .eq 11, 13, 21, 0, 0, 0, .inl 0, []),
    (.aload_n 0, 14, 0, 0, 0, 0, .inl 0, []),
    (.iload_n 1, 15, 1, 0, 0, 0, .inl 0, []),
    (.invokevirtual 384, 18, 243, 2, 0, 11, .inl 0, []),
    (.goto 5, 21, 23, 0, 0, 0, .inl 0, [])]),
  (21, [(.bipush (-2), 23, 0, 0, 0, 0, .inl (-2), [])]),
  (23, [(.ireturn, 24, 0, 0, 0, 0, .inl 0, [])])]
def gT_X12_day : gs_T := ([], gB_X12_day, [])
set_option maxRecDepth 100000 in
def gB_X12_monthsOf : List (Nat × List gs_N) := [(0, [(.iconst 0, 1, 0, 0, 0, 0, .inl 0, []),
    (.istore_n 2, 2, 2, 0, 0, 0, .inl 0, []),
    (.iconst 1, 3, 0, 0, 0, 0, .inl 1, []),
    (.istore_n 3, 4, 3, 0, 0, 0, .inl 0, [])]),
  (4, [(.iload_n 3, 5, 3, 0, 0, 0, .inl 0, []),
    (.bipush 13, 7, 0, 0, 0, 0, .inl 13, []),
    (.if_icmp .ge 59, 10, 66, 0, 0, 0, .inl 0, []),
    (.aload_n 0, 11, 0, 0, 0, 0, .inl 0, []),
    (.iload_n 1, 12, 1, 0, 0, 0, .inl 0, []),
    (.invokevirtual 377, 15, 237, 2, 0, 11, .inl 0, []),
    (.ifCond .ne 51, 18, 66, 0, 0, 0, .inl 0, []),
    (.iload_n 2, 19, 2, 0, 0, 0, .inl 0, []),
    (.aload_n 0, 20, 0, 0, 0, 0, .inl 0, []),
    (.aload_n 0, 21, 0, 0, 0, 0, .inl 0, []),
    (.getfield 59, 24, 11, 26, 2, 1, .inl 0, []),
    (.bipush 16, 26, 0, 0, 0, 0, .inl 16, []),
    (.iload_n 1, 27, 1, 0, 0, 0, .inl 0, []),
    (.imul, 28, 0, 0, 0, 0, .inl 0, []),
    (.iconst 1, 29, 0, 0, 0, 0, .inl 1, []),
    (.iadd, 30, 0, 0, 0, 0, .inl 0, []),
    (.iaload, 31, 0, 0, 0, 0, .inl 0, []),
    (.iload_n 3, 32, 3, 0, 0, 0, .inl 0, []),
    (.aload_n 0, 33, 0, 0, 0, 0, .inl 0, []),
    (.getfield 59, 36, 11, 26, 2, 1, .inl 0, []),
    (.bipush 16, 38, 0, 0, 0, 0, .inl 16, []),
    (.iload_n 1, 39, 1, 0, 0, 0, .inl 0, []),
    (.imul, 40, 0, 0, 0, 0, .inl 0, []),
    (.iconst 3, 41, 0, 0, 0, 0, .inl 3, []),
    (.iadd, 42, 0, 0, 0, 0, .inl 0, []),
    (.iaload, 43, 0, 0, 0, 0, .inl 0, []),
    (.invokevirtual 380, 46, 242, 4, 0, 11, .inl 0, []),
    (.ifCond .lt 11, 49, 57, 0, 0, 0, .inl 0, []),
    (.iconst 1, 50, 0, 0, 0, 0, .inl 1, []),
    (.iload_n 3, 51, 3, 0, 0, 0, .inl 0, []),
    (.iconst 1, 52, 0, 0, 0, 0, .inl 1, []),
    (.isub, 53, 0, 0, 0, 0, .inl 0, []),
    (.ishl, 54, 0, 0, 0, 0, .inl 0, []),
    (.goto 4, 57, 58, 0, 0, 0, .inl 0, [])]),
  (57, [(.iconst 0, 58, 0, 0, 0, 0, .inl 0, [])]),
  (58, [(.ior, 59, 0, 0, 0, 0, .inl 0, []),
    (.istore_n 2, 60, 2, 0, 0, 0, .inl 0, []),
    (.iinc 3 1, 63, 3, 0, 0, 0, .inl 1, []),
    (.goto (-59), 66, 4, 0, 0, 0, .inl 0, [])]),
  (66, [(.iload_n 2, 67, 2, 0, 0, 0, .inl 0, []),
    (.ireturn, 68, 0, 0, 0, 0, .inl 0, [])])]
def gT_X12_monthsOf : gs_T := ([], gB_X12_monthsOf, [(4, [0, 1, 2, 3])])
set_option maxRecDepth 100000 in
def gB_X12_months : List (Nat × List gs_N) := [(0, [(.aload_n 0, 1, 0, 0, 0, 0, .inl 0, []),
    (.iconst 0, 2, 0, 0, 0, 0, .inl 0, []),
    (.putfield 129, 5, 11, 2, 0, 0, .inl 0, []),
    (.aload_n 0, 6, 0, 0, 0, 0, .inl 0, []),
    (.iload_n 1, 7, 1, 0, 0, 0, .inl 0, []),
    (.invokevirtual 344, 10, 228, 2, 0, 11, .inl 0, []),
    (.ifCond .eq 11, 13, 21, 0, 0, 0, .inl 0, []),
    (.aload_n 0, 14, 0, 0, 0, 0, .inl 0, []),
    (.iload_n 1, 15, 1, 0, 0, 0, .inl 0, []),
    (.invokevirtual 387, 18, 245, 2, 0, 11, .inl 0, []),
    (.goto 4, 21, 22, 0, 0, 0, .inl 0, [])]),
  (21, [(.iconst (-1), 22, 0, 0, 0, 0, .inl (-1), [])]),
  (22, [(.ireturn, 23, 0, 0, 0, 0, .inl 0, [])])]
def gT_X12_months : gs_T := ([], gB_X12_months, [])
set_option maxRecDepth 100000 in
def gB_X12_yearsOf : List (Nat × List gs_N) := [(0, [(.iconst 0, 1, 0, 0, 0, 0, .inl 0, []),
    (.istore_n 3, 2, 3, 0, 0, 0, .inl 0, []),
    (.aload_n 0, 3, 0, 0, 0, 0, .inl 0, []),
    (.iload_n 1, 4, 1, 0, 0, 0, .inl 0, []),
    (.invokevirtual 377, 7, 237, 2, 0, 11, .inl 0, []),
    (.ifCond .ne 94, 10, 101, 0, 0, 0, .inl 0, []),
    (.aload_n 0, 11, 0, 0, 0, 0, .inl 0, []),
    (.getfield 59, 14, 11, 26, 2, 1, .inl 0, []),
    (.bipush 16, 16, 0, 0, 0, 0, .inl 16, []),
    (.iload_n 1, 17, 1, 0, 0, 0, .inl 0, []),
    (.imul, 18, 0, 0, 0, 0, .inl 0, []),
    (.iaload, 19, 0, 0, 0, 0, .inl 0, []),
    (.istore 4, 21, 4, 0, 0, 0, .inl 0, []),
    (.aload_n 0, 22, 0, 0, 0, 0, .inl 0, []),
    (.getfield 38, 25, 11, 19, 2, 1, .inl 0, []),
    (.iload 4, 27, 4, 0, 0, 0, .inl 0, []),
    (.iaload, 28, 0, 0, 0, 0, .inl 0, []),
    (.istore 5, 30, 5, 0, 0, 0, .inl 0, [])]),
  (30, [(.iload 5, 32, 5, 0, 0, 0, .inl 0, []),
    (.aload_n 0, 33, 0, 0, 0, 0, .inl 0, []),
    (.getfield 38, 36, 11, 19, 2, 1, .inl 0, []),
    (.iload 4, 38, 4, 0, 0, 0, .inl 0, []),
    (.iaload, 39, 0, 0, 0, 0, .inl 0, []),
    (.aload_n 0, 40, 0, 0, 0, 0, .inl 0, []),
    (.getfield 41, 43, 11, 20, 2, 1, .inl 0, []),
    (.iload 4, 45, 4, 0, 0, 0, .inl 0, []),
    (.iaload, 46, 0, 0, 0, 0, .inl 0, []),
    (.iadd, 47, 0, 0, 0, 0, .inl 0, []),
    (.if_icmp .ge 54, 50, 101, 0, 0, 0, .inl 0, []),
    (.aload_n 0, 51, 0, 0, 0, 0, .inl 0, []),
    (.iload 5, 53, 5, 0, 0, 0, .inl 0, []),
    (.aload_n 0, 54, 0, 0, 0, 0, .inl 0, []),
    (.getfield 59, 57, 11, 26, 2, 1, .inl 0, []),
    (.bipush 16, 59, 0, 0, 0, 0, .inl 16, []),
    (.iload_n 1, 60, 1, 0, 0, 0, .inl 0, []),
    (.imul, 61, 0, 0, 0, 0, .inl 0, []),
    (.iconst 2, 62, 0, 0, 0, 0, .inl 2, []),
    (.iadd, 63, 0, 0, 0, 0, .inl 0, []),
    (.iaload, 64, 0, 0, 0, 0, .inl 0, []),
    (.aload_n 0, 65, 0, 0, 0, 0, .inl 0, []),
    (.getfield 59, 68, 11, 26, 2, 1, .inl 0, []),
    (.bipush 16, 70, 0, 0, 0, 0, .inl 16, []),
    (.iload_n 1, 71, 1, 0, 0, 0, .inl 0, []),
    (.imul, 72, 0, 0, 0, 0, .inl 0, []),
    (.iconst 3, 73, 0, 0, 0, 0, .inl 3, []),
    (.iadd, 74, 0, 0, 0, 0, .inl 0, []),
    (.iaload, 75, 0, 0, 0, 0, .inl 0, []),
    (.invokevirtual 380, 78, 242, 4, 0, 11, .inl 0, []),
    (.ifCond .ge 6, 81, 84, 0, 0, 0, .inl 0, []),
    (.goto 14, 84, 95, 0, 0, 0, .inl 0, [])]),
  (84, [(.iload_n 3, 85, 3, 0, 0, 0, .inl 0, []),
    (.iload_n 2, 86, 2, 0, 0, 0, .inl 0, []),
    (.if_icmp .ne 6, 89, 92, 0, 0, 0, .inl 0, []),
    (.iload 5, 91, 5, 0, 0, 0, .inl 0, []),
    (.ireturn, 92, 0, 0, 0, 0, .inl 0, [])]),
  (92, [(.iinc 3 1, 95, 3, 0, 0, 0, .inl 1, [])]),
  (95, [(.iinc 5 1, 98, 5, 0, 0, 0, .inl 1, []),
    (.goto (-68), 101, 30, 0, 0, 0, .inl 0, [])]),
  (101, [(.iload_n 2, 102, 2, 0, 0, 0, .inl 0, []),
    (.iconst (-1), 103, 0, 0, 0, 0, .inl (-1), []),
    (.if_icmp .ne 7, 106, 110, 0, 0, 0, .inl 0, []),
    (.iload_n 3, 107, 3, 0, 0, 0, .inl 0, []),
    (.goto 4, 110, 111, 0, 0, 0, .inl 0, [])]),
  (110, [(.iconst (-1), 111, 0, 0, 0, 0, .inl (-1), [])]),
  (111, [(.ireturn, 112, 0, 0, 0, 0, .inl 0, [])])]
def gT_X12_yearsOf : gs_T := ([], gB_X12_yearsOf, [(30, [0, 1, 2, 3, 4, 5])])
set_option maxRecDepth 100000 in
def gB_X12_years : List (Nat × List gs_N) := [(0, [(.aload_n 0, 1, 0, 0, 0, 0, .inl 0, []),
    (.iconst 0, 2, 0, 0, 0, 0, .inl 0, []),
    (.putfield 129, 5, 11, 2, 0, 0, .inl 0, []),
    (.aload_n 0, 6, 0, 0, 0, 0, .inl 0, []),
    (.iload_n 1, 7, 1, 0, 0, 0, .inl 0, []),
    (.invokevirtual 344, 10, 228, 2, 0, 11, .inl 0, []),
    (.ifCond .eq 17, 13, 27, 0, 0, 0, .inl 0, []),
    (.iload_n 2, 14, 2, 0, 0, 0, .inl 0, []),
    (.iconst (-1), 15, 0, 0, 0, 0, .inl (-1), []),
    (.if_icmp .lt 12, 18, 27, 0, 0, 0, .inl 0, []),
    (.aload_n 0, 19, 0, 0, 0, 0, .inl 0, []),
    (.iload_n 1, 20, 1, 0, 0, 0, .inl 0, []),
    (.iload_n 2, 21, 2, 0, 0, 0, .inl 0, []),
    (.invokevirtual 390, 24, 247, 3, 0, 11, .inl 0, []),
    (.goto 4, 27, 28, 0, 0, 0, .inl 0, [])]),
  (27, [(.iconst (-1), 28, 0, 0, 0, 0, .inl (-1), [])]),
  (28, [(.ireturn, 29, 0, 0, 0, 0, .inl 0, [])])]
def gT_X12_years : gs_T := ([], gB_X12_years, [])
set_option maxRecDepth 100000 in
def gB_X12_manyOf : List (Nat × List gs_N) := [(0, [(.iconst 0, 1, 0, 0, 0, 0, .inl 0, []),
    (.istore_n 1, 2, 1, 0, 0, 0, .inl 0, []),
    (.iconst 0, 3, 0, 0, 0, 0, .inl 0, []),
    (.istore_n 2, 4, 2, 0, 0, 0, .inl 0, [])]),
  (4, [(.iload_n 2, 5, 2, 0, 0, 0, .inl 0, []),
    (.bipush 16, 7, 0, 0, 0, 0, .inl 16, []),
    (.if_icmp .ge 17, 10, 24, 0, 0, 0, .inl 0, []),
    (.iload_n 1, 11, 1, 0, 0, 0, .inl 0, []),
    (.iload_n 0, 12, 0, 0, 0, 0, .inl 0, []),
    (.iload_n 2, 13, 2, 0, 0, 0, .inl 0, []),
    (.ishr, 14, 0, 0, 0, 0, .inl 0, []),
    (.iconst 1, 15, 0, 0, 0, 0, .inl 1, []),
    (.iand, 16, 0, 0, 0, 0, .inl 0, []),
    (.iadd, 17, 0, 0, 0, 0, .inl 0, []),
    (.istore_n 1, 18, 1, 0, 0, 0, .inl 0, []),
    (.iinc 2 1, 21, 2, 0, 0, 0, .inl 1, []),
    (.goto (-17), 24, 4, 0, 0, 0, .inl 0, [])]),
  (24, [(.iload_n 1, 25, 1, 0, 0, 0, .inl 0, []),
    (.ireturn, 26, 0, 0, 0, 0, .inl 0, [])])]
def gT_X12_manyOf : gs_T := ([], gB_X12_manyOf, [(4, [0, 1, 2])])
set_option maxRecDepth 100000 in
def gB_X12_mend : List (Nat × List gs_N) := [(0, [(.aload_n 0, 1, 0, 0, 0, 0, .inl 0, []),
    (.iconst 0, 2, 0, 0, 0, 0, .inl 0, []),
    (.putfield 129, 5, 11, 2, 0, 0, .inl 0, []),
    (.aload_n 0, 6, 0, 0, 0, 0, .inl 0, []),
    (.iload_n 1, 7, 1, 0, 0, 0, .inl 0, []),
    (.invokevirtual 344, 10, 228, 2, 0, 11, .inl 0, []),
    (.ifCond .eq 12, 13, 22, 0, 0, 0, .inl 0, []),
    (.iload_n 2, 14, 2, 0, 0, 0, .inl 0, []),
    (.iconst 0, 15, 0, 0, 0, 0, .inl 0, []),
    (.iconst 3, 16, 0, 0, 0, 0, .inl 3, []),
    (.invokestatic 173, 19, 175, 3, 0, 1, .inl 0, []),
    (.ifCond .ne 5, 22, 24, 0, 0, 0, .inl 0, [])]),
  (22, [(.iconst (-1), 23, 0, 0, 0, 0, .inl (-1), []),
    (.ireturn, 24, 0, 0, 0, 0, .inl 0, [])]),
  (24, [(.aload_n 0, 25, 0, 0, 0, 0, .inl 0, []),
    (.iload_n 1, 26, 1, 0, 0, 0, .inl 0, []),
    (.invokevirtual 377, 29, 237, 2, 0, 11, .inl 0, []),
    (.ifCond .ne 11, 32, 40, 0, 0, 0, .inl 0, []),
    (.aload_n 0, 33, 0, 0, 0, 0, .inl 0, []),
    (.iload_n 1, 34, 1, 0, 0, 0, .inl 0, []),
    (.invokevirtual 384, 37, 243, 2, 0, 11, .inl 0, []),
    (.ifCond .lt 5, 40, 42, 0, 0, 0, .inl 0, [])]),
  (40, [(.iconst 0, 41, 0, 0, 0, 0, .inl 0, []),
    (.ireturn, 42, 0, 0, 0, 0, .inl 0, [])]),
  (42, [(.aload_n 0, 43, 0, 0, 0, 0, .inl 0, []),
    (.iload_n 1, 44, 1, 0, 0, 0, .inl 0, []),
    (.invokevirtual 387, 47, 245, 2, 0, 11, .inl 0, []),
    (.invokestatic 393, 50, 249, 1, 0, 1, .inl 0, []),
    (.istore_n 3, 51, 3, 0, 0, 0, .inl 0, []),
    (.aload_n 0, 52, 0, 0, 0, 0, .inl 0, []),
    (.iload_n 1, 53, 1, 0, 0, 0, .inl 0, []),
    (.iconst (-1), 54, 0, 0, 0, 0, .inl (-1), []),
    (.invokevirtual 390, 57, 247, 3, 0, 11, .inl 0, []),
    (.istore 4, 59, 4, 0, 0, 0, .inl 0, []),
    (.bipush 29, 61, 0, 0, 0, 0, .inl 29, []),
    (.aload_n 0, 62, 0, 0, 0, 0, .inl 0, []),
    (.getfield 59, 65, 11, 26, 2, 1, .inl 0, []),
    (.bipush 16, 67, 0, 0, 0, 0, .inl 16, []),
    (.iload_n 1, 68, 1, 0, 0, 0, .inl 0, []),
    (.imul, 69, 0, 0, 0, 0, .inl 0, []),
    (.iconst 2, 70, 0, 0, 0, 0, .inl 2, []),
    (.iadd, 71, 0, 0, 0, 0, .inl 0, []),
    (.iaload, 72, 0, 0, 0, 0, .inl 0, []),
    (.iconst 2, 73, 0, 0, 0, 0, .inl 2, []),
    (.irem, 74, 0, 0, 0, 0, .inl 0, []),
    (.iadd, 75, 0, 0, 0, 0, .inl 0, []),
    (.istore 5, 77, 5, 0, 0, 0, .inl 0, []),
    (.iload_n 2, 78, 2, 0, 0, 0, .inl 0, []),
    (.ifCond .ne 13, 81, 91, 0, 0, 0, .inl 0, []),
    (.iload_n 3, 82, 3, 0, 0, 0, .inl 0, []),
    (.iload 4, 84, 4, 0, 0, 0, .inl 0, []),
    (.iadd, 85, 0, 0, 0, 0, .inl 0, []),
    (.iload 5, 87, 5, 0, 0, 0, .inl 0, []),
    (.iadd, 88, 0, 0, 0, 0, .inl 0, []),
    (.goto 24, 91, 112, 0, 0, 0, .inl 0, [])]),
  (91, [(.iload_n 2, 92, 2, 0, 0, 0, .inl 0, []),
    (.iconst 1, 93, 0, 0, 0, 0, .inl 1, []),
    (.if_icmp .ne 7, 96, 100, 0, 0, 0, .inl 0, []),
    (.iload_n 3, 97, 3, 0, 0, 0, .inl 0, []),
    (.goto 15, 100, 112, 0, 0, 0, .inl 0, [])]),
  (100, [(.iload_n 2, 101, 2, 0, 0, 0, .inl 0, []),
    (.iconst 2, 102, 0, 0, 0, 0, .inl 2, []),
    (.if_icmp .ne 8, 105, 110, 0, 0, 0, .inl 0, []),
    (.iload 4, 107, 4, 0, 0, 0, .inl 0, []),
    (.goto 5, 110, 112, 0, 0, 0, .inl 0, [])]),
  (110, [(.iload 5, 112, 5, 0, 0, 0, .inl 0, [])]),
  (112, [(.ireturn, 113, 0, 0, 0, 0, .inl 0, [])])]
def gT_X12_mend : gs_T := ([], gB_X12_mend, [])
set_option maxRecDepth 100000 in
def gB_X12_hasGate : List (Nat × List gs_N) := [(0, [(.aload_n 0, 1, 0, 0, 0, 0, .inl 0, []),
    (.getfield 59, 4, 11, 26, 2, 1, .inl 0, []),
    (.bipush 16, 6, 0, 0, 0, 0, .inl 16, []),
    (.iload_n 1, 7, 1, 0, 0, 0, .inl 0, []),
    (.imul, 8, 0, 0, 0, 0, .inl 0, []),
    (.iconst 4, 9, 0, 0, 0, 0, .inl 4, []),
    (.iadd, 10, 0, 0, 0, 0, .inl 0, []),
    (.iaload, 11, 0, 0, 0, 0, .inl 0, []),
    (.ifCond .lt 7, 14, 18, 0, 0, 0, .inl 0, []),
    (.iconst 1, 15, 0, 0, 0, 0, .inl 1, []),
    (.goto 4, 18, 19, 0, 0, 0, .inl 0, [])]),
  (18, [(.iconst 0, 19, 0, 0, 0, 0, .inl 0, [])]),
  (19, [(.ireturn, 20, 1, 0, 0, 0, .inl 0, [])])]
def gT_X12_hasGate : gs_T := ([], gB_X12_hasGate, [])
set_option maxRecDepth 100000 in
def gB_X12_sideOf : List (Nat × List gs_N) := [(0, [(.aload_n 0, 1, 0, 0, 0, 0, .inl 0, []),
    (.getfield 59, 4, 11, 26, 2, 1, .inl 0, []),
    (.bipush 16, 6, 0, 0, 0, 0, .inl 16, []),
    (.iload_n 1, 7, 1, 0, 0, 0, .inl 0, []),
    (.imul, 8, 0, 0, 0, 0, .inl 0, []),
    (.bipush 6, 10, 0, 0, 0, 0, .inl 6, []),
    (.iadd, 11, 0, 0, 0, 0, .inl 0, []),
    (.iaload, 12, 0, 0, 0, 0, .inl 0, []),
    (.iload_n 2, 13, 2, 0, 0, 0, .inl 0, []),
    (.invokestatic 225, 16, 176, 2, 0, 1, .inl 0, []),
    (.ifCond .eq 17, 19, 33, 0, 0, 0, .inl 0, []),
    (.aload_n 0, 20, 0, 0, 0, 0, .inl 0, []),
    (.getfield 59, 23, 11, 26, 2, 1, .inl 0, []),
    (.bipush 16, 25, 0, 0, 0, 0, .inl 16, []),
    (.iload_n 1, 26, 1, 0, 0, 0, .inl 0, []),
    (.imul, 27, 0, 0, 0, 0, .inl 0, []),
    (.iconst 5, 28, 0, 0, 0, 0, .inl 5, []),
    (.iadd, 29, 0, 0, 0, 0, .inl 0, []),
    (.iaload, 30, 0, 0, 0, 0, .inl 0, []),
    (.goto 4, 33, 34, 0, 0, 0, .inl 0, [])]),
  (33, [(.iconst 0, 34, 0, 0, 0, 0, .inl 0, [])]),
  (34, [(.ireturn, 35, 0, 0, 0, 0, .inl 0, [])])]
def gT_X12_sideOf : gs_T := ([], gB_X12_sideOf, [])
set_option maxRecDepth 100000 in
def gB_X12_placeX : List (Nat × List gs_N) := [(0, [(.aload_n 0, 1, 0, 0, 0, 0, .inl 0, []),
    (.iload_n 1, 2, 1, 0, 0, 0, .inl 0, []),
    (.iconst 2, 3, 0, 0, 0, 0, .inl 2, []),
    (.invokevirtual 396, 6, 252, 3, 0, 11, .inl 0, []),
    (.aload_n 0, 7, 0, 0, 0, 0, .inl 0, []),
    (.iload_n 1, 8, 1, 0, 0, 0, .inl 0, []),
    (.iconst 3, 9, 0, 0, 0, 0, .inl 3, []),
    (.invokevirtual 396, 12, 252, 3, 0, 11, .inl 0, []),
    (.isub, 13, 0, 0, 0, 0, .inl 0, []),
    (.istore_n 3, 14, 3, 0, 0, 0, .inl 0, []),
    (.aload_n 0, 15, 0, 0, 0, 0, .inl 0, []),
    (.getfield 47, 18, 11, 22, 2, 1, .inl 0, []),
    (.aload_n 0, 19, 0, 0, 0, 0, .inl 0, []),
    (.getfield 59, 22, 11, 26, 2, 1, .inl 0, []),
    (.bipush 16, 24, 0, 0, 0, 0, .inl 16, []),
    (.iload_n 1, 25, 1, 0, 0, 0, .inl 0, []),
    (.imul, 26, 0, 0, 0, 0, .inl 0, []),
    (.iconst 4, 27, 0, 0, 0, 0, .inl 4, []),
    (.iadd, 28, 0, 0, 0, 0, .inl 0, []),
    (.iaload, 29, 0, 0, 0, 0, .inl 0, []),
    (.iaload, 30, 0, 0, 0, 0, .inl 0, []),
    (.iload_n 2, 31, 2, 0, 0, 0, .inl 0, []),
    (.iconst 0, 32, 0, 0, 0, 0, .inl 0, []),
    (.invokestatic 225, 35, 176, 2, 0, 1, .inl 0, []),
    (.ifCond .eq 8, 38, 43, 0, 0, 0, .inl 0, []),
    (.iload_n 3, 39, 3, 0, 0, 0, .inl 0, []),
    (.ineg, 40, 0, 0, 0, 0, .inl 0, []),
    (.goto 4, 43, 44, 0, 0, 0, .inl 0, [])]),
  (43, [(.iload_n 3, 44, 3, 0, 0, 0, .inl 0, [])]),
  (44, [(.iadd, 45, 0, 0, 0, 0, .inl 0, []),
    (.istore 4, 47, 4, 0, 0, 0, .inl 0, []),
    (.iload 4, 49, 4, 0, 0, 0, .inl 0, []),
    (.bipush 120, 51, 0, 0, 0, 0, .inl 120, []),
    (.iadd, 52, 0, 0, 0, 0, .inl 0, []),
    (.bipush 120, 54, 0, 0, 0, 0, .inl 120, []),
    (.irem, 55, 0, 0, 0, 0, .inl 0, []),
    (.ireturn, 56, 0, 0, 0, 0, .inl 0, [])])]
def gT_X12_placeX : gs_T := ([], gB_X12_placeX, [])
set_option maxRecDepth 100000 in
def gB_X12_placeY : List (Nat × List gs_N) := [(0, [(.aload_n 0, 1, 0, 0, 0, 0, .inl 0, []),
    (.iload_n 1, 2, 1, 0, 0, 0, .inl 0, []),
    (.iconst 0, 3, 0, 0, 0, 0, .inl 0, []),
    (.invokevirtual 396, 6, 252, 3, 0, 11, .inl 0, []),
    (.aload_n 0, 7, 0, 0, 0, 0, .inl 0, []),
    (.iload_n 1, 8, 1, 0, 0, 0, .inl 0, []),
    (.iconst 1, 9, 0, 0, 0, 0, .inl 1, []),
    (.invokevirtual 396, 12, 252, 3, 0, 11, .inl 0, []),
    (.isub, 13, 0, 0, 0, 0, .inl 0, []),
    (.istore_n 3, 14, 3, 0, 0, 0, .inl 0, []),
    (.aload_n 0, 15, 0, 0, 0, 0, .inl 0, []),
    (.getfield 50, 18, 11, 23, 2, 1, .inl 0, []),
    (.aload_n 0, 19, 0, 0, 0, 0, .inl 0, []),
    (.getfield 59, 22, 11, 26, 2, 1, .inl 0, []),
    (.bipush 16, 24, 0, 0, 0, 0, .inl 16, []),
    (.iload_n 1, 25, 1, 0, 0, 0, .inl 0, []),
    (.imul, 26, 0, 0, 0, 0, .inl 0, []),
    (.iconst 4, 27, 0, 0, 0, 0, .inl 4, []),
    (.iadd, 28, 0, 0, 0, 0, .inl 0, []),
    (.iaload, 29, 0, 0, 0, 0, .inl 0, []),
    (.iaload, 30, 0, 0, 0, 0, .inl 0, []),
    (.iload_n 2, 31, 2, 0, 0, 0, .inl 0, []),
    (.iconst 1, 32, 0, 0, 0, 0, .inl 1, []),
    (.invokestatic 225, 35, 176, 2, 0, 1, .inl 0, []),
    (.ifCond .eq 8, 38, 43, 0, 0, 0, .inl 0, []),
    (.iload_n 3, 39, 3, 0, 0, 0, .inl 0, []),
    (.ineg, 40, 0, 0, 0, 0, .inl 0, []),
    (.goto 4, 43, 44, 0, 0, 0, .inl 0, [])]),
  (43, [(.iload_n 3, 44, 3, 0, 0, 0, .inl 0, [])]),
  (44, [(.iadd, 45, 0, 0, 0, 0, .inl 0, []),
    (.istore 4, 47, 4, 0, 0, 0, .inl 0, []),
    (.iload 4, 49, 4, 0, 0, 0, .inl 0, []),
    (.ifCond .ge 7, 52, 56, 0, 0, 0, .inl 0, []),
    (.iconst 0, 53, 0, 0, 0, 0, .inl 0, []),
    (.goto 17, 56, 70, 0, 0, 0, .inl 0, [])]),
  (56, [(.iload 4, 58, 4, 0, 0, 0, .inl 0, []),
    (.bipush 59, 60, 0, 0, 0, 0, .inl 59, []),
    (.if_icmp .le 8, 63, 68, 0, 0, 0, .inl 0, []),
    (.bipush 59, 65, 0, 0, 0, 0, .inl 59, []),
    (.goto 5, 68, 70, 0, 0, 0, .inl 0, [])]),
  (68, [(.iload 4, 70, 4, 0, 0, 0, .inl 0, [])]),
  (70, [(.ireturn, 71, 0, 0, 0, 0, .inl 0, [])])]
def gT_X12_placeY : gs_T := ([], gB_X12_placeY, [])
set_option maxRecDepth 100000 in
def gB_X12_place : List (Nat × List gs_N) := [(0, [(.aload_n 0, 1, 0, 0, 0, 0, .inl 0, []),
    (.iconst 0, 2, 0, 0, 0, 0, .inl 0, []),
    (.putfield 129, 5, 11, 2, 0, 0, .inl 0, []),
    (.aload_n 0, 6, 0, 0, 0, 0, .inl 0, []),
    (.iload_n 1, 7, 1, 0, 0, 0, .inl 0, []),
    (.invokevirtual 344, 10, 228, 2, 0, 11, .inl 0, []),
    (.ifCond .eq 29, 13, 39, 0, 0, 0, .inl 0, []),
    (.aload_n 0, 14, 0, 0, 0, 0, .inl 0, []),
    (.iload_n 1, 15, 1, 0, 0, 0, .inl 0, []),
    (.invokevirtual 399, 18, 251, 2, 0, 11, .inl 0, []),
    (.ifCond .eq 21, 21, 39, 0, 0, 0, .inl 0, []),
    (.iload_n 2, 22, 2, 0, 0, 0, .inl 0, []),
    (.iconst 0, 23, 0, 0, 0, 0, .inl 0, []),
    (.iconst 3, 24, 0, 0, 0, 0, .inl 3, []),
    (.invokestatic 173, 27, 175, 3, 0, 1, .inl 0, []),
    (.ifCond .eq 12, 30, 39, 0, 0, 0, .inl 0, []),
    (.iload_n 3, 31, 3, 0, 0, 0, .inl 0, []),
    (.iconst 0, 32, 0, 0, 0, 0, .inl 0, []),
    (.iconst 1, 33, 0, 0, 0, 0, .inl 1, []),
    (.invokestatic 173, 36, 175, 3, 0, 1, .inl 0, []),
    (.ifCond .ne 5, 39, 41, 0, 0, 0, .inl 0, [])]),
  (39, [(.iconst (-1), 40, 0, 0, 0, 0, .inl (-1), []),
    (.ireturn, 41, 0, 0, 0, 0, .inl 0, [])]),
  (41, [(.iload_n 3, 42, 3, 0, 0, 0, .inl 0, []),
    (.ifCond .ne 12, 45, 54, 0, 0, 0, .inl 0, []),
    (.aload_n 0, 46, 0, 0, 0, 0, .inl 0, []),
    (.iload_n 1, 47, 1, 0, 0, 0, .inl 0, []),
    (.iload_n 2, 48, 2, 0, 0, 0, .inl 0, []),
    (.invokevirtual 402, 51, 253, 3, 0, 11, .inl 0, []),
    (.goto 9, 54, 60, 0, 0, 0, .inl 0, [])]),
  (54, [(.aload_n 0, 55, 0, 0, 0, 0, .inl 0, []),
    (.iload_n 1, 56, 1, 0, 0, 0, .inl 0, []),
    (.iload_n 2, 57, 2, 0, 0, 0, .inl 0, []),
    (.invokevirtual 405, 60, 254, 3, 0, 11, .inl 0, [])]),
  (60, [(.ireturn, 61, 0, 0, 0, 0, .inl 0, [])])]
def gT_X12_place : gs_T := ([], gB_X12_place, [])
set_option maxRecDepth 100000 in
def gB_X12_around : List (Nat × List gs_N) := [(0, [(.iload_n 0, 1, 0, 0, 0, 0, .inl 0, []),
    (.iload_n 1, 2, 1, 0, 0, 0, .inl 0, []),
    (.isub, 3, 0, 0, 0, 0, .inl 0, []),
    (.invokestatic 408, 6, 177, 1, 0, 1, .inl 0, []),
    (.istore_n 2, 7, 2, 0, 0, 0, .inl 0, []),
    (.iload_n 2, 8, 2, 0, 0, 0, .inl 0, []),
    (.bipush 60, 10, 0, 0, 0, 0, .inl 60, []),
    (.if_icmp .le 10, 13, 20, 0, 0, 0, .inl 0, []),
    (.bipush 120, 15, 0, 0, 0, 0, .inl 120, []),
    (.iload_n 2, 16, 2, 0, 0, 0, .inl 0, []),
    (.isub, 17, 0, 0, 0, 0, .inl 0, []),
    (.goto 4, 20, 21, 0, 0, 0, .inl 0, [])]),
  (20, [(.iload_n 2, 21, 2, 0, 0, 0, .inl 0, [])]),
  (21, [(.ireturn, 22, 0, 0, 0, 0, .inl 0, [])])]
def gT_X12_around : gs_T := ([], gB_X12_around, [])
set_option maxRecDepth 100000 in
def gB_X12_apart : List (Nat × List gs_N) := [(0, [(.iload_n 0, 1, 0, 0, 0, 0, .inl 0, []),
    (.iload_n 2, 2, 2, 0, 0, 0, .inl 0, []),
    (.invokestatic 411, 5, 256, 2, 0, 1, .inl 0, []),
    (.istore 4, 7, 4, 0, 0, 0, .inl 0, []),
    (.iload_n 1, 8, 1, 0, 0, 0, .inl 0, []),
    (.iload_n 3, 9, 3, 0, 0, 0, .inl 0, []),
    (.isub, 10, 0, 0, 0, 0, .inl 0, []),
    (.invokestatic 408, 13, 177, 1, 0, 1, .inl 0, []),
    (.istore 5, 15, 5, 0, 0, 0, .inl 0, []),
    (.iload 4, 17, 4, 0, 0, 0, .inl 0, []),
    (.iload 5, 19, 5, 0, 0, 0, .inl 0, []),
    (.if_icmp .le 8, 22, 27, 0, 0, 0, .inl 0, []),
    (.iload 4, 24, 4, 0, 0, 0, .inl 0, []),
    (.goto 5, 27, 29, 0, 0, 0, .inl 0, [])]),
  (27, [(.iload 5, 29, 5, 0, 0, 0, .inl 0, [])]),
  (29, [(.ireturn, 30, 0, 0, 0, 0, .inl 0, [])])]
def gT_X12_apart : gs_T := ([], gB_X12_apart, [])
set_option maxRecDepth 100000 in
def gB_X12_ageOf : List (Nat × List gs_N) := [(0, [(.iload_n 1, 1, 1, 0, 0, 0, .inl 0, []),
    (.iload_n 0, 2, 0, 0, 0, 0, .inl 0, []),
    (.if_icmp .gt 7, 5, 9, 0, 0, 0, .inl 0, []),
    (.sipush 9999, 8, 0, 0, 0, 0, .inl 9999, []),
    (.ireturn, 9, 0, 0, 0, 0, .inl 0, [])]),
  (9, [(.iload_n 0, 10, 0, 0, 0, 0, .inl 0, []),
    (.i2l, 11, 0, 0, 0, 0, .inl 0, []),
    (.iload_n 3, 12, 3, 0, 0, 0, .inl 0, []),
    (.iload_n 2, 13, 2, 0, 0, 0, .inl 0, []),
    (.isub, 14, 0, 0, 0, 0, .inl 0, []),
    (.i2l, 15, 0, 0, 0, 0, .inl 0, []),
    (.lmul, 16, 0, 0, 0, 0, .inl 0, []),
    (.iload_n 1, 17, 1, 0, 0, 0, .inl 0, []),
    (.iload_n 0, 18, 0, 0, 0, 0, .inl 0, []),
    (.isub, 19, 0, 0, 0, 0, .inl 0, []),
    (.i2l, 20, 0, 0, 0, 0, .inl 0, []),
    (.ldiv, 21, 0, 0, 0, 0, .inl 0, []),
    (.l2i, 22, 0, 0, 0, 0, .inl 0, []),
    (.istore 4, 24, 4, 0, 0, 0, .inl 0, []),
    (.iload 4, 26, 4, 0, 0, 0, .inl 0, []),
    (.sipush 9999, 29, 0, 0, 0, 0, .inl 9999, []),
    (.if_icmp .le 9, 32, 38, 0, 0, 0, .inl 0, []),
    (.sipush 9999, 35, 0, 0, 0, 0, .inl 9999, []),
    (.goto 5, 38, 40, 0, 0, 0, .inl 0, [])]),
  (38, [(.iload 4, 40, 4, 0, 0, 0, .inl 0, [])]),
  (40, [(.ireturn, 41, 0, 0, 0, 0, .inl 0, [])])]
def gT_X12_ageOf : gs_T := ([], gB_X12_ageOf, [])
set_option maxRecDepth 100000 in
def gB_X12_lessBy : List (Nat × List gs_N) := [(0, [(.iload_n 0, 1, 0, 0, 0, 0, .inl 0, []),
    (.iload_n 1, 2, 1, 0, 0, 0, .inl 0, []),
    (.if_icmp .le 9, 5, 11, 0, 0, 0, .inl 0, []),
    (.iload_n 0, 6, 0, 0, 0, 0, .inl 0, []),
    (.iload_n 1, 7, 1, 0, 0, 0, .inl 0, []),
    (.isub, 8, 0, 0, 0, 0, .inl 0, []),
    (.goto 4, 11, 12, 0, 0, 0, .inl 0, [])]),
  (11, [(.iconst 0, 12, 0, 0, 0, 0, .inl 0, [])]),
  (12, [(.ireturn, 13, 0, 0, 0, 0, .inl 0, [])])]
def gT_X12_lessBy : gs_T := ([], gB_X12_lessBy, [])
set_option maxRecDepth 100000 in
def gB_X12_layBorn : List (Nat × List gs_N) := [(0, [(.aload_n 0, 1, 0, 0, 0, 0, .inl 0, []),
    (.getfield 29, 4, 11, 15, 2, 1, .inl 0, []),
    (.iconst 3, 5, 0, 0, 0, 0, .inl 3, []),
    (.iaload, 6, 0, 0, 0, 0, .inl 0, []),
    (.istore 6, 8, 6, 0, 0, 0, .inl 0, []),
    (.iconst 0, 9, 0, 0, 0, 0, .inl 0, []),
    (.istore 7, 11, 7, 0, 0, 0, .inl 0, [])]),
  (11, [(.iload 7, 13, 7, 0, 0, 0, .inl 0, []),
    (.iconst 4, 14, 0, 0, 0, 0, .inl 4, []),
    (.if_icmp .ge 137, 17, 151, 0, 0, 0, .inl 0, []),
    (.iload 7, 19, 7, 0, 0, 0, .inl 0, []),
    (.iconst 2, 20, 0, 0, 0, 0, .inl 2, []),
    (.irem, 21, 0, 0, 0, 0, .inl 0, []),
    (.ifCond .ne 12, 24, 33, 0, 0, 0, .inl 0, []),
    (.iload_n 2, 25, 2, 0, 0, 0, .inl 0, []),
    (.iload 6, 27, 6, 0, 0, 0, .inl 0, []),
    (.invokestatic 414, 30, 259, 2, 0, 1, .inl 0, []),
    (.goto 7, 33, 37, 0, 0, 0, .inl 0, [])]),
  (33, [(.iload_n 2, 34, 2, 0, 0, 0, .inl 0, []),
    (.iload 6, 36, 6, 0, 0, 0, .inl 0, []),
    (.iadd, 37, 0, 0, 0, 0, .inl 0, [])]),
  (37, [(.istore 8, 39, 8, 0, 0, 0, .inl 0, []),
    (.iload 7, 41, 7, 0, 0, 0, .inl 0, []),
    (.iconst 2, 42, 0, 0, 0, 0, .inl 2, []),
    (.if_icmp .ge 13, 45, 55, 0, 0, 0, .inl 0, []),
    (.iload 4, 47, 4, 0, 0, 0, .inl 0, []),
    (.iload 6, 49, 6, 0, 0, 0, .inl 0, []),
    (.invokestatic 414, 52, 259, 2, 0, 1, .inl 0, []),
    (.goto 8, 55, 60, 0, 0, 0, .inl 0, [])]),
  (55, [(.iload 4, 57, 4, 0, 0, 0, .inl 0, []),
    (.iload 6, 59, 6, 0, 0, 0, .inl 0, []),
    (.iadd, 60, 0, 0, 0, 0, .inl 0, [])]),
  (60, [(.istore 9, 62, 9, 0, 0, 0, .inl 0, []),
    (.iload 8, 64, 8, 0, 0, 0, .inl 0, []),
    (.iload 9, 66, 9, 0, 0, 0, .inl 0, []),
    (.iload_n 1, 67, 1, 0, 0, 0, .inl 0, []),
    (.iload_n 3, 68, 3, 0, 0, 0, .inl 0, []),
    (.invokestatic 417, 71, 258, 4, 0, 1, .inl 0, []),
    (.istore 10, 73, 10, 0, 0, 0, .inl 0, []),
    (.iload_n 1, 74, 1, 0, 0, 0, .inl 0, []),
    (.iload 10, 76, 10, 0, 0, 0, .inl 0, []),
    (.isub, 77, 0, 0, 0, 0, .inl 0, []),
    (.istore 11, 79, 11, 0, 0, 0, .inl 0, []),
    (.iload_n 1, 80, 1, 0, 0, 0, .inl 0, []),
    (.iload 10, 82, 10, 0, 0, 0, .inl 0, []),
    (.iload 5, 84, 5, 0, 0, 0, .inl 0, []),
    (.imul, 85, 0, 0, 0, 0, .inl 0, []),
    (.bipush 10, 87, 0, 0, 0, 0, .inl 10, []),
    (.idiv, 88, 0, 0, 0, 0, .inl 0, []),
    (.isub, 89, 0, 0, 0, 0, .inl 0, []),
    (.istore 12, 91, 12, 0, 0, 0, .inl 0, []),
    (.aload_n 0, 92, 0, 0, 0, 0, .inl 0, []),
    (.iload 7, 94, 7, 0, 0, 0, .inl 0, []),
    (.ifCond .eq 12, 97, 106, 0, 0, 0, .inl 0, []),
    (.iload 11, 99, 11, 0, 0, 0, .inl 0, []),
    (.aload_n 0, 100, 0, 0, 0, 0, .inl 0, []),
    (.getfield 421, 103, 11, 49, 0, 0, .inl 0, []),
    (.if_icmp .ge 8, 106, 111, 0, 0, 0, .inl 0, [])]),
  (106, [(.iload 11, 108, 11, 0, 0, 0, .inl 0, []),
    (.goto 7, 111, 115, 0, 0, 0, .inl 0, [])]),
  (111, [(.aload_n 0, 112, 0, 0, 0, 0, .inl 0, []),
    (.getfield 421, 115, 11, 49, 0, 0, .inl 0, [])]),
  (115, [(.putfield 421, 118, 11, 49, 0, 0, .inl 0, []),
    (.aload_n 0, 119, 0, 0, 0, 0, .inl 0, []),
    (.iload 7, 121, 7, 0, 0, 0, .inl 0, []),
    (.ifCond .eq 12, 124, 133, 0, 0, 0, .inl 0, []),
    (.iload 12, 126, 12, 0, 0, 0, .inl 0, []),
    (.aload_n 0, 127, 0, 0, 0, 0, .inl 0, []),
    (.getfield 424, 130, 11, 50, 0, 0, .inl 0, []),
    (.if_icmp .le 8, 133, 138, 0, 0, 0, .inl 0, [])]),
  (133, [(.iload 12, 135, 12, 0, 0, 0, .inl 0, []),
    (.goto 7, 138, 142, 0, 0, 0, .inl 0, [])]),
  (138, [(.aload_n 0, 139, 0, 0, 0, 0, .inl 0, []),
    (.getfield 424, 142, 11, 50, 0, 0, .inl 0, [])]),
  (142, [(.putfield 424, 145, 11, 50, 0, 0, .inl 0, []),
    (.iinc 7 1, 148, 7, 0, 0, 0, .inl 1, []),
    (.goto (-137), 151, 11, 0, 0, 0, .inl 0, [])]),
  (151, [(.return_, 152, 0, 0, 0, 0, .inl 0, [])])]
def gT_X12_layBorn : gs_T := ([], gB_X12_layBorn, [(11, [0, 1, 2, 3, 4, 5, 6, 7]), (60, [0, 1, 2, 3, 4, 5, 6, 7, 8])])
set_option maxRecDepth 100000 in
def gB_X12_layCloud : List (Nat × List gs_N) := [(0, [(.aload_n 0, 1, 0, 0, 0, 0, .inl 0, []),
    (.aload_n 0, 2, 0, 0, 0, 0, .inl 0, []),
    (.getfield 62, 5, 11, 27, 2, 1, .inl 0, []),
    (.bipush 9, 7, 0, 0, 0, 0, .inl 9, []),
    (.iload_n 1, 8, 1, 0, 0, 0, .inl 0, []),
    (.imul, 9, 0, 0, 0, 0, .inl 0, []),
    (.iconst 2, 10, 0, 0, 0, 0, .inl 2, []),
    (.iadd, 11, 0, 0, 0, 0, .inl 0, []),
    (.iaload, 12, 0, 0, 0, 0, .inl 0, []),
    (.aload_n 0, 13, 0, 0, 0, 0, .inl 0, []),
    (.getfield 62, 16, 11, 27, 2, 1, .inl 0, []),
    (.bipush 9, 18, 0, 0, 0, 0, .inl 9, []),
    (.iload_n 1, 19, 1, 0, 0, 0, .inl 0, []),
    (.imul, 20, 0, 0, 0, 0, .inl 0, []),
    (.iconst 3, 21, 0, 0, 0, 0, .inl 3, []),
    (.iadd, 22, 0, 0, 0, 0, .inl 0, []),
    (.iaload, 23, 0, 0, 0, 0, .inl 0, []),
    (.aload_n 0, 24, 0, 0, 0, 0, .inl 0, []),
    (.getfield 62, 27, 11, 27, 2, 1, .inl 0, []),
    (.bipush 9, 29, 0, 0, 0, 0, .inl 9, []),
    (.iload_n 1, 30, 1, 0, 0, 0, .inl 0, []),
    (.imul, 31, 0, 0, 0, 0, .inl 0, []),
    (.iconst 4, 32, 0, 0, 0, 0, .inl 4, []),
    (.iadd, 33, 0, 0, 0, 0, .inl 0, []),
    (.iaload, 34, 0, 0, 0, 0, .inl 0, []),
    (.aload_n 0, 35, 0, 0, 0, 0, .inl 0, []),
    (.getfield 62, 38, 11, 27, 2, 1, .inl 0, []),
    (.bipush 9, 40, 0, 0, 0, 0, .inl 9, []),
    (.iload_n 1, 41, 1, 0, 0, 0, .inl 0, []),
    (.imul, 42, 0, 0, 0, 0, .inl 0, []),
    (.iconst 5, 43, 0, 0, 0, 0, .inl 5, []),
    (.iadd, 44, 0, 0, 0, 0, .inl 0, []),
    (.iaload, 45, 0, 0, 0, 0, .inl 0, []),
    (.aload_n 0, 46, 0, 0, 0, 0, .inl 0, []),
    (.getfield 62, 49, 11, 27, 2, 1, .inl 0, []),
    (.bipush 9, 51, 0, 0, 0, 0, .inl 9, []),
    (.iload_n 1, 52, 1, 0, 0, 0, .inl 0, []),
    (.imul, 53, 0, 0, 0, 0, .inl 0, []),
    (.bipush 6, 55, 0, 0, 0, 0, .inl 6, []),
    (.iadd, 56, 0, 0, 0, 0, .inl 0, []),
    (.iaload, 57, 0, 0, 0, 0, .inl 0, []),
    (.invokevirtual 427, 60, 260, 6, 2, 11, .inl 0, []),
    (.return_, 61, 0, 0, 0, 0, .inl 0, [])])]
def gT_X12_layCloud : gs_T := ([], gB_X12_layCloud, [])
set_option maxRecDepth 100000 in
def gB_X12_born : List (Nat × List gs_N) := [(0, [(.aload_n 0, 1, 0, 0, 0, 0, .inl 0, []),
    (.iconst 0, 2, 0, 0, 0, 0, .inl 0, []),
    (.putfield 129, 5, 11, 2, 0, 0, .inl 0, []),
    (.aload_n 0, 6, 0, 0, 0, 0, .inl 0, []),
    (.iload_n 1, 7, 1, 0, 0, 0, .inl 0, []),
    (.invokevirtual 431, 10, 229, 2, 0, 11, .inl 0, []),
    (.ifCond .eq 12, 13, 22, 0, 0, 0, .inl 0, []),
    (.iload_n 2, 14, 2, 0, 0, 0, .inl 0, []),
    (.iconst 0, 15, 0, 0, 0, 0, .inl 0, []),
    (.iconst 5, 16, 0, 0, 0, 0, .inl 5, []),
    (.invokestatic 173, 19, 175, 3, 0, 1, .inl 0, []),
    (.ifCond .ne 7, 22, 26, 0, 0, 0, .inl 0, [])]),
  (22, [(.ldc_w 434, 25, 0, 0, 0, 0, .inl (-2147483648), []),
    (.ireturn, 26, 0, 0, 0, 0, .inl 0, [])]),
  (26, [(.bipush 9, 28, 0, 0, 0, 0, .inl 9, []),
    (.iload_n 1, 29, 1, 0, 0, 0, .inl 0, []),
    (.imul, 30, 0, 0, 0, 0, .inl 0, []),
    (.istore_n 3, 31, 3, 0, 0, 0, .inl 0, []),
    (.aload_n 0, 32, 0, 0, 0, 0, .inl 0, []),
    (.iload_n 1, 33, 1, 0, 0, 0, .inl 0, []),
    (.invokevirtual 435, 36, 261, 2, 2, 11, .inl 0, []),
    (.iload_n 2, 37, 2, 0, 0, 0, .inl 0, []),
    (.tableswitch 156 0 4 #[35, 71, 76, 81, 149], 72, 193, 35, 0, 0, .inl 0, [(0, 72), (1, 108), (2, 113), (3, 118), (4, 186)])]),
  (72, [(.aload_n 0, 73, 0, 0, 0, 0, .inl 0, []),
    (.getfield 62, 76, 11, 27, 2, 1, .inl 0, []),
    (.iload_n 3, 77, 3, 0, 0, 0, .inl 0, []),
    (.iconst 3, 78, 0, 0, 0, 0, .inl 3, []),
    (.iadd, 79, 0, 0, 0, 0, .inl 0, []),
    (.iaload, 80, 0, 0, 0, 0, .inl 0, []),
    (.aload_n 0, 81, 0, 0, 0, 0, .inl 0, []),
    (.getfield 62, 84, 11, 27, 2, 1, .inl 0, []),
    (.iload_n 3, 85, 3, 0, 0, 0, .inl 0, []),
    (.iconst 5, 86, 0, 0, 0, 0, .inl 5, []),
    (.iadd, 87, 0, 0, 0, 0, .inl 0, []),
    (.iaload, 88, 0, 0, 0, 0, .inl 0, []),
    (.aload_n 0, 89, 0, 0, 0, 0, .inl 0, []),
    (.getfield 62, 92, 11, 27, 2, 1, .inl 0, []),
    (.iload_n 3, 93, 3, 0, 0, 0, .inl 0, []),
    (.iconst 2, 94, 0, 0, 0, 0, .inl 2, []),
    (.iadd, 95, 0, 0, 0, 0, .inl 0, []),
    (.iaload, 96, 0, 0, 0, 0, .inl 0, []),
    (.aload_n 0, 97, 0, 0, 0, 0, .inl 0, []),
    (.getfield 62, 100, 11, 27, 2, 1, .inl 0, []),
    (.iload_n 3, 101, 3, 0, 0, 0, .inl 0, []),
    (.iconst 4, 102, 0, 0, 0, 0, .inl 4, []),
    (.iadd, 103, 0, 0, 0, 0, .inl 0, []),
    (.iaload, 104, 0, 0, 0, 0, .inl 0, []),
    (.invokestatic 417, 107, 258, 4, 0, 1, .inl 0, []),
    (.ireturn, 108, 0, 0, 0, 0, .inl 0, [])]),
  (108, [(.aload_n 0, 109, 0, 0, 0, 0, .inl 0, []),
    (.getfield 421, 112, 11, 49, 0, 0, .inl 0, []),
    (.ireturn, 113, 0, 0, 0, 0, .inl 0, [])]),
  (113, [(.aload_n 0, 114, 0, 0, 0, 0, .inl 0, []),
    (.getfield 424, 117, 11, 50, 0, 0, .inl 0, []),
    (.ireturn, 118, 0, 0, 0, 0, .inl 0, [])]),
  (118, [(.aload_n 0, 119, 0, 0, 0, 0, .inl 0, []),
    (.getfield 62, 122, 11, 27, 2, 1, .inl 0, []),
    (.iload_n 3, 123, 3, 0, 0, 0, .inl 0, []),
    (.bipush 7, 125, 0, 0, 0, 0, .inl 7, []),
    (.iadd, 126, 0, 0, 0, 0, .inl 0, []),
    (.iaload, 127, 0, 0, 0, 0, .inl 0, []),
    (.ifCond .ne 7, 130, 134, 0, 0, 0, .inl 0, []),
    (.ldc_w 434, 133, 0, 0, 0, 0, .inl (-2147483648), []),
    (.ireturn, 134, 0, 0, 0, 0, .inl 0, [])]),
  (134, [(.aload_n 0, 135, 0, 0, 0, 0, .inl 0, []),
    (.getfield 62, 138, 11, 27, 2, 1, .inl 0, []),
    (.iload_n 3, 139, 3, 0, 0, 0, .inl 0, []),
    (.bipush 7, 141, 0, 0, 0, 0, .inl 7, []),
    (.iadd, 142, 0, 0, 0, 0, .inl 0, []),
    (.iaload, 143, 0, 0, 0, 0, .inl 0, []),
    (.bipush 100, 145, 0, 0, 0, 0, .inl 100, []),
    (.imul, 146, 0, 0, 0, 0, .inl 0, []),
    (.iconst 2, 147, 0, 0, 0, 0, .inl 2, []),
    (.aload_n 0, 148, 0, 0, 0, 0, .inl 0, []),
    (.getfield 62, 151, 11, 27, 2, 1, .inl 0, []),
    (.iload_n 3, 152, 3, 0, 0, 0, .inl 0, []),
    (.bipush 8, 154, 0, 0, 0, 0, .inl 8, []),
    (.iadd, 155, 0, 0, 0, 0, .inl 0, []),
    (.iaload, 156, 0, 0, 0, 0, .inl 0, []),
    (.imul, 157, 0, 0, 0, 0, .inl 0, []),
    (.idiv, 158, 0, 0, 0, 0, .inl 0, []),
    (.istore 4, 160, 4, 0, 0, 0, .inl 0, []),
    (.aload_n 0, 161, 0, 0, 0, 0, .inl 0, []),
    (.getfield 62, 164, 11, 27, 2, 1, .inl 0, []),
    (.iload_n 3, 165, 3, 0, 0, 0, .inl 0, []),
    (.iconst 4, 166, 0, 0, 0, 0, .inl 4, []),
    (.iadd, 167, 0, 0, 0, 0, .inl 0, []),
    (.iaload, 168, 0, 0, 0, 0, .inl 0, []),
    (.iload 4, 170, 4, 0, 0, 0, .inl 0, []),
    (.sipush 9999, 173, 0, 0, 0, 0, .inl 9999, []),
    (.if_icmp .le 9, 176, 182, 0, 0, 0, .inl 0, []),
    (.sipush 9999, 179, 0, 0, 0, 0, .inl 9999, []),
    (.goto 5, 182, 184, 0, 0, 0, .inl 0, [])]),
  (182, [(.iload 4, 184, 4, 0, 0, 0, .inl 0, [])]),
  (184, [(.isub, 185, 0, 0, 0, 0, .inl 0, []),
    (.ireturn, 186, 0, 0, 0, 0, .inl 0, [])]),
  (186, [(.aload_n 0, 187, 0, 0, 0, 0, .inl 0, []),
    (.getfield 62, 190, 11, 27, 2, 1, .inl 0, []),
    (.iload_n 3, 191, 3, 0, 0, 0, .inl 0, []),
    (.iaload, 192, 0, 0, 0, 0, .inl 0, []),
    (.ireturn, 193, 0, 0, 0, 0, .inl 0, [])]),
  (193, [(.aload_n 0, 194, 0, 0, 0, 0, .inl 0, []),
    (.getfield 62, 197, 11, 27, 2, 1, .inl 0, []),
    (.iload_n 3, 198, 3, 0, 0, 0, .inl 0, []),
    (.iconst 1, 199, 0, 0, 0, 0, .inl 1, []),
    (.iadd, 200, 0, 0, 0, 0, .inl 0, []),
    (.iaload, 201, 0, 0, 0, 0, .inl 0, []),
    (.ireturn, 202, 0, 0, 0, 0, .inl 0, [])])]
def gT_X12_born : gs_T := ([], gB_X12_born, [])
set_option maxRecDepth 100000 in
def gB_X12_placeToll : List (Nat × List gs_N) := [(0, [(.aload_n 0, 1, 0, 0, 0, 0, .inl 0, []),
    (.iconst (-1), 2, 0, 0, 0, 0, .inl (-1), []),
    (.putfield 438, 5, 11, 54, 0, 0, .inl 0, []),
    (.aload_n 0, 6, 0, 0, 0, 0, .inl 0, []),
    (.iload_n 1, 7, 1, 0, 0, 0, .inl 0, []),
    (.invokevirtual 399, 10, 251, 2, 0, 11, .inl 0, []),
    (.ifCond .ne 6, 13, 16, 0, 0, 0, .inl 0, []),
    (.bipush 20, 15, 0, 0, 0, 0, .inl 20, []),
    (.ireturn, 16, 0, 0, 0, 0, .inl 0, [])]),
  (16, [(.aload_n 0, 17, 0, 0, 0, 0, .inl 0, []),
    (.getfield 441, 20, 11, 51, 3, 0, .inl 0, []),
    (.ifCond .eq 39, 23, 59, 0, 0, 0, .inl 0, []),
    (.aload_n 0, 24, 0, 0, 0, 0, .inl 0, []),
    (.getfield 105, 27, 11, 52, 2, 1, .inl 0, []),
    (.iload_n 1, 28, 1, 0, 0, 0, .inl 0, []),
    (.iaload, 29, 0, 0, 0, 0, .inl 0, []),
    (.aload_n 0, 30, 0, 0, 0, 0, .inl 0, []),
    (.getfield 108, 33, 11, 53, 2, 1, .inl 0, []),
    (.iload_n 1, 34, 1, 0, 0, 0, .inl 0, []),
    (.iaload, 35, 0, 0, 0, 0, .inl 0, []),
    (.aload_n 0, 36, 0, 0, 0, 0, .inl 0, []),
    (.getfield 62, 39, 11, 27, 2, 1, .inl 0, []),
    (.bipush 9, 41, 0, 0, 0, 0, .inl 9, []),
    (.iload_n 2, 42, 2, 0, 0, 0, .inl 0, []),
    (.imul, 43, 0, 0, 0, 0, .inl 0, []),
    (.iaload, 44, 0, 0, 0, 0, .inl 0, []),
    (.aload_n 0, 45, 0, 0, 0, 0, .inl 0, []),
    (.getfield 62, 48, 11, 27, 2, 1, .inl 0, []),
    (.bipush 9, 50, 0, 0, 0, 0, .inl 9, []),
    (.iload_n 2, 51, 2, 0, 0, 0, .inl 0, []),
    (.imul, 52, 0, 0, 0, 0, .inl 0, []),
    (.iconst 1, 53, 0, 0, 0, 0, .inl 1, []),
    (.iadd, 54, 0, 0, 0, 0, .inl 0, []),
    (.iaload, 55, 0, 0, 0, 0, .inl 0, []),
    (.invokestatic 444, 58, 257, 4, 0, 1, .inl 0, []),
    (.ireturn, 59, 0, 0, 0, 0, .inl 0, [])]),
  (59, [(.aload_n 0, 60, 0, 0, 0, 0, .inl 0, []),
    (.getfield 59, 63, 11, 26, 2, 1, .inl 0, []),
    (.bipush 16, 65, 0, 0, 0, 0, .inl 16, []),
    (.iload_n 1, 66, 1, 0, 0, 0, .inl 0, []),
    (.imul, 67, 0, 0, 0, 0, .inl 0, []),
    (.bipush 6, 69, 0, 0, 0, 0, .inl 6, []),
    (.iadd, 70, 0, 0, 0, 0, .inl 0, []),
    (.iaload, 71, 0, 0, 0, 0, .inl 0, []),
    (.istore_n 3, 72, 3, 0, 0, 0, .inl 0, []),
    (.iload_n 3, 73, 3, 0, 0, 0, .inl 0, []),
    (.iconst 2, 74, 0, 0, 0, 0, .inl 2, []),
    (.ishr, 75, 0, 0, 0, 0, .inl 0, []),
    (.ifCond .eq 7, 78, 82, 0, 0, 0, .inl 0, []),
    (.iconst 1, 79, 0, 0, 0, 0, .inl 1, []),
    (.goto 4, 82, 83, 0, 0, 0, .inl 0, [])]),
  (82, [(.iconst 0, 83, 0, 0, 0, 0, .inl 0, [])]),
  (83, [(.iload_n 3, 84, 3, 0, 0, 0, .inl 0, []),
    (.iconst 3, 85, 0, 0, 0, 0, .inl 3, []),
    (.iand, 86, 0, 0, 0, 0, .inl 0, []),
    (.ifCond .eq 7, 89, 93, 0, 0, 0, .inl 0, []),
    (.iconst 2, 90, 0, 0, 0, 0, .inl 2, []),
    (.goto 4, 93, 94, 0, 0, 0, .inl 0, [])]),
  (93, [(.iconst 0, 94, 0, 0, 0, 0, .inl 0, [])]),
  (94, [(.ior, 95, 0, 0, 0, 0, .inl 0, []),
    (.istore 4, 97, 4, 0, 0, 0, .inl 0, []),
    (.iconst 0, 98, 0, 0, 0, 0, .inl 0, []),
    (.istore 5, 100, 5, 0, 0, 0, .inl 0, []),
    (.iconst 0, 101, 0, 0, 0, 0, .inl 0, []),
    (.istore 6, 103, 6, 0, 0, 0, .inl 0, [])]),
  (103, [(.iload 6, 105, 6, 0, 0, 0, .inl 0, []),
    (.iconst 4, 106, 0, 0, 0, 0, .inl 4, []),
    (.if_icmp .ge 102, 109, 208, 0, 0, 0, .inl 0, []),
    (.iload 6, 111, 6, 0, 0, 0, .inl 0, []),
    (.iload 4, 113, 4, 0, 0, 0, .inl 0, []),
    (.iconst (-1), 114, 0, 0, 0, 0, .inl (-1), []),
    (.ixor, 115, 0, 0, 0, 0, .inl 0, []),
    (.iand, 116, 0, 0, 0, 0, .inl 0, []),
    (.ifCond .eq 6, 119, 122, 0, 0, 0, .inl 0, []),
    (.goto 83, 122, 202, 0, 0, 0, .inl 0, [])]),
  (122, [(.aload_n 0, 123, 0, 0, 0, 0, .inl 0, []),
    (.iload_n 1, 124, 1, 0, 0, 0, .inl 0, []),
    (.iload 6, 126, 6, 0, 0, 0, .inl 0, []),
    (.invokevirtual 402, 129, 253, 3, 0, 11, .inl 0, []),
    (.aload_n 0, 130, 0, 0, 0, 0, .inl 0, []),
    (.iload_n 1, 131, 1, 0, 0, 0, .inl 0, []),
    (.iload 6, 133, 6, 0, 0, 0, .inl 0, []),
    (.invokevirtual 405, 136, 254, 3, 0, 11, .inl 0, []),
    (.aload_n 0, 137, 0, 0, 0, 0, .inl 0, []),
    (.getfield 62, 140, 11, 27, 2, 1, .inl 0, []),
    (.bipush 9, 142, 0, 0, 0, 0, .inl 9, []),
    (.iload_n 2, 143, 2, 0, 0, 0, .inl 0, []),
    (.imul, 144, 0, 0, 0, 0, .inl 0, []),
    (.iaload, 145, 0, 0, 0, 0, .inl 0, []),
    (.aload_n 0, 146, 0, 0, 0, 0, .inl 0, []),
    (.getfield 62, 149, 11, 27, 2, 1, .inl 0, []),
    (.bipush 9, 151, 0, 0, 0, 0, .inl 9, []),
    (.iload_n 2, 152, 2, 0, 0, 0, .inl 0, []),
    (.imul, 153, 0, 0, 0, 0, .inl 0, []),
    (.iconst 1, 154, 0, 0, 0, 0, .inl 1, []),
    (.iadd, 155, 0, 0, 0, 0, .inl 0, []),
    (.iaload, 156, 0, 0, 0, 0, .inl 0, []),
    (.invokestatic 444, 159, 257, 4, 0, 1, .inl 0, []),
    (.aload_n 0, 160, 0, 0, 0, 0, .inl 0, []),
    (.getfield 29, 163, 11, 15, 2, 1, .inl 0, []),
    (.iconst 1, 164, 0, 0, 0, 0, .inl 1, []),
    (.iaload, 165, 0, 0, 0, 0, .inl 0, []),
    (.iload 6, 167, 6, 0, 0, 0, .inl 0, []),
    (.invokestatic 393, 170, 249, 1, 0, 1, .inl 0, []),
    (.imul, 171, 0, 0, 0, 0, .inl 0, []),
    (.iadd, 172, 0, 0, 0, 0, .inl 0, []),
    (.istore 7, 174, 7, 0, 0, 0, .inl 0, []),
    (.aload_n 0, 175, 0, 0, 0, 0, .inl 0, []),
    (.getfield 438, 178, 11, 54, 0, 0, .inl 0, []),
    (.iconst (-1), 179, 0, 0, 0, 0, .inl (-1), []),
    (.if_icmp .eq 13, 182, 192, 0, 0, 0, .inl 0, []),
    (.iload 7, 184, 7, 0, 0, 0, .inl 0, []),
    (.iload 5, 186, 5, 0, 0, 0, .inl 0, []),
    (.if_icmp .lt 6, 189, 192, 0, 0, 0, .inl 0, []),
    (.goto 13, 192, 202, 0, 0, 0, .inl 0, [])]),
  (192, [(.aload_n 0, 193, 0, 0, 0, 0, .inl 0, []),
    (.iload 6, 195, 6, 0, 0, 0, .inl 0, []),
    (.putfield 438, 198, 11, 54, 0, 0, .inl 0, []),
    (.iload 7, 200, 7, 0, 0, 0, .inl 0, []),
    (.istore 5, 202, 5, 0, 0, 0, .inl 0, [])]),
  (202, [(.iinc 6 1, 205, 6, 0, 0, 0, .inl 1, []),
    (.goto (-102), 208, 103, 0, 0, 0, .inl 0, [])]),
  (208, [(.iload 5, 210, 5, 0, 0, 0, .inl 0, []),
    (.ireturn, 211, 0, 0, 0, 0, .inl 0, [])])]
def gT_X12_placeToll : gs_T := ([], gB_X12_placeToll, [(103, [0, 1, 2, 4, 5, 6])])
set_option maxRecDepth 100000 in
def gB_X12_tollOf : List (Nat × List gs_N) := [(0, [(.aload_n 0, 1, 0, 0, 0, 0, .inl 0, []),
    (.iload_n 2, 2, 2, 0, 0, 0, .inl 0, []),
    (.invokevirtual 435, 5, 261, 2, 2, 11, .inl 0, []),
    (.aload_n 0, 6, 0, 0, 0, 0, .inl 0, []),
    (.getfield 59, 9, 11, 26, 2, 1, .inl 0, []),
    (.bipush 16, 11, 0, 0, 0, 0, .inl 16, []),
    (.iload_n 1, 12, 1, 0, 0, 0, .inl 0, []),
    (.imul, 13, 0, 0, 0, 0, .inl 0, []),
    (.iconst 1, 14, 0, 0, 0, 0, .inl 1, []),
    (.iadd, 15, 0, 0, 0, 0, .inl 0, []),
    (.iaload, 16, 0, 0, 0, 0, .inl 0, []),
    (.istore_n 3, 17, 3, 0, 0, 0, .inl 0, []),
    (.aload_n 0, 18, 0, 0, 0, 0, .inl 0, []),
    (.getfield 59, 21, 11, 26, 2, 1, .inl 0, []),
    (.bipush 16, 23, 0, 0, 0, 0, .inl 16, []),
    (.iload_n 1, 24, 1, 0, 0, 0, .inl 0, []),
    (.imul, 25, 0, 0, 0, 0, .inl 0, []),
    (.bipush 13, 27, 0, 0, 0, 0, .inl 13, []),
    (.iadd, 28, 0, 0, 0, 0, .inl 0, []),
    (.iaload, 29, 0, 0, 0, 0, .inl 0, []),
    (.istore 4, 31, 4, 0, 0, 0, .inl 0, []),
    (.iload 4, 33, 4, 0, 0, 0, .inl 0, []),
    (.aload_n 0, 34, 0, 0, 0, 0, .inl 0, []),
    (.getfield 421, 37, 11, 49, 0, 0, .inl 0, []),
    (.if_icmp .ge 13, 40, 50, 0, 0, 0, .inl 0, []),
    (.aload_n 0, 41, 0, 0, 0, 0, .inl 0, []),
    (.getfield 421, 44, 11, 49, 0, 0, .inl 0, []),
    (.iload 4, 46, 4, 0, 0, 0, .inl 0, []),
    (.isub, 47, 0, 0, 0, 0, .inl 0, []),
    (.goto 21, 50, 68, 0, 0, 0, .inl 0, [])]),
  (50, [(.iload_n 3, 51, 3, 0, 0, 0, .inl 0, []),
    (.aload_n 0, 52, 0, 0, 0, 0, .inl 0, []),
    (.getfield 424, 55, 11, 50, 0, 0, .inl 0, []),
    (.if_icmp .le 12, 58, 67, 0, 0, 0, .inl 0, []),
    (.iload_n 3, 59, 3, 0, 0, 0, .inl 0, []),
    (.aload_n 0, 60, 0, 0, 0, 0, .inl 0, []),
    (.getfield 424, 63, 11, 50, 0, 0, .inl 0, []),
    (.isub, 64, 0, 0, 0, 0, .inl 0, []),
    (.goto 4, 67, 68, 0, 0, 0, .inl 0, [])]),
  (67, [(.iconst 0, 68, 0, 0, 0, 0, .inl 0, [])]),
  (68, [(.istore 5, 70, 5, 0, 0, 0, .inl 0, []),
    (.aload_n 0, 71, 0, 0, 0, 0, .inl 0, []),
    (.iload_n 1, 72, 1, 0, 0, 0, .inl 0, []),
    (.iload_n 2, 73, 2, 0, 0, 0, .inl 0, []),
    (.invokevirtual 447, 76, 263, 3, 0, 11, .inl 0, []),
    (.iload 5, 78, 5, 0, 0, 0, .inl 0, []),
    (.bipush 10, 80, 0, 0, 0, 0, .inl 10, []),
    (.idiv, 81, 0, 0, 0, 0, .inl 0, []),
    (.iadd, 82, 0, 0, 0, 0, .inl 0, []),
    (.ireturn, 83, 0, 0, 0, 0, .inl 0, [])])]
def gT_X12_tollOf : gs_T := ([], gB_X12_tollOf, [])
set_option maxRecDepth 100000 in
def gB_X12_toll : List (Nat × List gs_N) := [(0, [(.aload_n 0, 1, 0, 0, 0, 0, .inl 0, []),
    (.iconst 0, 2, 0, 0, 0, 0, .inl 0, []),
    (.putfield 129, 5, 11, 2, 0, 0, .inl 0, []),
    (.aload_n 0, 6, 0, 0, 0, 0, .inl 0, []),
    (.iload_n 1, 7, 1, 0, 0, 0, .inl 0, []),
    (.invokevirtual 344, 10, 228, 2, 0, 11, .inl 0, []),
    (.ifCond .eq 20, 13, 30, 0, 0, 0, .inl 0, []),
    (.aload_n 0, 14, 0, 0, 0, 0, .inl 0, []),
    (.iload_n 2, 15, 2, 0, 0, 0, .inl 0, []),
    (.invokevirtual 431, 18, 229, 2, 0, 11, .inl 0, []),
    (.ifCond .eq 12, 21, 30, 0, 0, 0, .inl 0, []),
    (.aload_n 0, 22, 0, 0, 0, 0, .inl 0, []),
    (.iload_n 1, 23, 1, 0, 0, 0, .inl 0, []),
    (.iload_n 2, 24, 2, 0, 0, 0, .inl 0, []),
    (.invokevirtual 450, 27, 264, 3, 0, 11, .inl 0, []),
    (.goto 4, 30, 31, 0, 0, 0, .inl 0, [])]),
  (30, [(.iconst (-1), 31, 0, 0, 0, 0, .inl (-1), [])]),
  (31, [(.ireturn, 32, 0, 0, 0, 0, .inl 0, [])])]
def gT_X12_toll : gs_T := ([], gB_X12_toll, [])
set_option maxRecDepth 100000 in
def gB_X12_reading : List (Nat × List gs_N) := [(0, [(.aload_n 0, 1, 0, 0, 0, 0, .inl 0, []),
    (.iconst 0, 2, 0, 0, 0, 0, .inl 0, []),
    (.putfield 129, 5, 11, 2, 0, 0, .inl 0, []),
    (.aload_n 0, 6, 0, 0, 0, 0, .inl 0, []),
    (.iload_n 1, 7, 1, 0, 0, 0, .inl 0, []),
    (.invokevirtual 344, 10, 228, 2, 0, 11, .inl 0, []),
    (.ifCond .eq 11, 13, 21, 0, 0, 0, .inl 0, []),
    (.aload_n 0, 14, 0, 0, 0, 0, .inl 0, []),
    (.iload_n 2, 15, 2, 0, 0, 0, .inl 0, []),
    (.invokevirtual 431, 18, 229, 2, 0, 11, .inl 0, []),
    (.ifCond .ne 5, 21, 23, 0, 0, 0, .inl 0, [])]),
  (21, [(.iconst (-1), 22, 0, 0, 0, 0, .inl (-1), []),
    (.ireturn, 23, 0, 0, 0, 0, .inl 0, [])]),
  (23, [(.aload_n 0, 24, 0, 0, 0, 0, .inl 0, []),
    (.iload_n 1, 25, 1, 0, 0, 0, .inl 0, []),
    (.iload_n 2, 26, 2, 0, 0, 0, .inl 0, []),
    (.invokevirtual 447, 29, 263, 3, 0, 11, .inl 0, []),
    (.istore_n 3, 30, 3, 0, 0, 0, .inl 0, []),
    (.aload_n 0, 31, 0, 0, 0, 0, .inl 0, []),
    (.getfield 438, 34, 11, 54, 0, 0, .inl 0, []),
    (.ireturn, 35, 0, 0, 0, 0, .inl 0, [])])]
def gT_X12_reading : gs_T := ([], gB_X12_reading, [])
set_option maxRecDepth 100000 in
def gB_X12_knownMany : List (Nat × List gs_N) := [(0, [(.aload_n 0, 1, 0, 0, 0, 0, .inl 0, []),
    (.getfield 89, 4, 11, 37, 0, 0, .inl 0, []),
    (.ifCond .ge 12, 7, 16, 0, 0, 0, .inl 0, []),
    (.aload_n 0, 8, 0, 0, 0, 0, .inl 0, []),
    (.getfield 20, 11, 11, 12, 2, 1, .inl 0, []),
    (.iconst 3, 12, 0, 0, 0, 0, .inl 3, []),
    (.iaload, 13, 0, 0, 0, 0, .inl 0, []),
    (.goto 7, 16, 20, 0, 0, 0, .inl 0, [])]),
  (16, [(.aload_n 0, 17, 0, 0, 0, 0, .inl 0, []),
    (.getfield 89, 20, 11, 37, 0, 0, .inl 0, [])]),
  (20, [(.ireturn, 21, 0, 0, 0, 0, .inl 0, [])])]
def gT_X12_knownMany : gs_T := ([], gB_X12_knownMany, [])
set_option maxRecDepth 100000 in
def gB_X12_counts : List (Nat × List gs_N) := [(0, [(.aload_n 0, 1, 0, 0, 0, 0, .inl 0, []),
    (.iload_n 1, 2, 1, 0, 0, 0, .inl 0, []),
    (.invokevirtual 344, 5, 228, 2, 0, 11, .inl 0, []),
    (.ifCond .eq 26, 8, 31, 0, 0, 0, .inl 0, []),
    (.iload_n 1, 9, 1, 0, 0, 0, .inl 0, []),
    (.aload_n 0, 10, 0, 0, 0, 0, .inl 0, []),
    (.invokevirtual 453, 13, 267, 1, 0, 11, .inl 0, []),
    (.if_icmp .ge 18, 16, 31, 0, 0, 0, .inl 0, []),
    (.aload_n 0, 17, 0, 0, 0, 0, .inl 0, []),
    (.getfield 193, 20, 11, 36, 0, 0, .inl 0, []),
    (.iload_n 1, 21, 1, 0, 0, 0, .inl 0, []),
    (.invokestatic 225, 24, 176, 2, 0, 1, .inl 0, []),
    (.ifCond .ne 7, 27, 31, 0, 0, 0, .inl 0, []),
    (.iconst 1, 28, 0, 0, 0, 0, .inl 1, []),
    (.goto 4, 31, 32, 0, 0, 0, .inl 0, [])]),
  (31, [(.iconst 0, 32, 0, 0, 0, 0, .inl 0, [])]),
  (32, [(.ireturn, 33, 1, 0, 0, 0, .inl 0, [])])]
def gT_X12_counts : gs_T := ([], gB_X12_counts, [])
set_option maxRecDepth 100000 in
def gB_X12_layTolls : List (Nat × List gs_N) := [(0, [(.iconst 0, 1, 0, 0, 0, 0, .inl 0, []),
    (.istore_n 1, 2, 1, 0, 0, 0, .inl 0, [])]),
  (2, [(.iload_n 1, 3, 1, 0, 0, 0, .inl 0, []),
    (.aload_n 0, 4, 0, 0, 0, 0, .inl 0, []),
    (.getfield 20, 7, 11, 12, 2, 1, .inl 0, []),
    (.iconst 3, 8, 0, 0, 0, 0, .inl 3, []),
    (.iaload, 9, 0, 0, 0, 0, .inl 0, []),
    (.if_icmp .ge 76, 12, 85, 0, 0, 0, .inl 0, []),
    (.iconst 0, 13, 0, 0, 0, 0, .inl 0, []),
    (.istore_n 2, 14, 2, 0, 0, 0, .inl 0, [])]),
  (14, [(.iload_n 2, 15, 2, 0, 0, 0, .inl 0, []),
    (.aload_n 0, 16, 0, 0, 0, 0, .inl 0, []),
    (.getfield 20, 19, 11, 12, 2, 1, .inl 0, []),
    (.iconst 5, 20, 0, 0, 0, 0, .inl 5, []),
    (.iaload, 21, 0, 0, 0, 0, .inl 0, []),
    (.if_icmp .ge 58, 24, 79, 0, 0, 0, .inl 0, []),
    (.aload_n 0, 25, 0, 0, 0, 0, .inl 0, []),
    (.iload_n 1, 26, 1, 0, 0, 0, .inl 0, []),
    (.invokevirtual 456, 29, 268, 2, 0, 11, .inl 0, []),
    (.ifCond .eq 12, 32, 41, 0, 0, 0, .inl 0, []),
    (.aload_n 0, 33, 0, 0, 0, 0, .inl 0, []),
    (.iload_n 1, 34, 1, 0, 0, 0, .inl 0, []),
    (.iload_n 2, 35, 2, 0, 0, 0, .inl 0, []),
    (.invokevirtual 450, 38, 264, 3, 0, 11, .inl 0, []),
    (.goto 6, 41, 44, 0, 0, 0, .inl 0, [])]),
  (41, [(.ldc_w 459, 44, 0, 0, 0, 0, .inl 100000, [])]),
  (44, [(.istore_n 3, 45, 3, 0, 0, 0, .inl 0, []),
    (.aload_n 0, 46, 0, 0, 0, 0, .inl 0, []),
    (.getfield 111, 49, 11, 55, 2, 1, .inl 0, []),
    (.bipush 10, 51, 0, 0, 0, 0, .inl 10, []),
    (.iload_n 1, 52, 1, 0, 0, 0, .inl 0, []),
    (.imul, 53, 0, 0, 0, 0, .inl 0, []),
    (.iload_n 2, 54, 2, 0, 0, 0, .inl 0, []),
    (.iadd, 55, 0, 0, 0, 0, .inl 0, []),
    (.iload_n 3, 56, 3, 0, 0, 0, .inl 0, []),
    (.aload_n 0, 57, 0, 0, 0, 0, .inl 0, []),
    (.getfield 29, 60, 11, 15, 2, 1, .inl 0, []),
    (.iconst 2, 61, 0, 0, 0, 0, .inl 2, []),
    (.iaload, 62, 0, 0, 0, 0, .inl 0, []),
    (.if_icmp .le 9, 65, 71, 0, 0, 0, .inl 0, []),
    (.ldc_w 459, 68, 0, 0, 0, 0, .inl 100000, []),
    (.goto 4, 71, 72, 0, 0, 0, .inl 0, [])]),
  (71, [(.iload_n 3, 72, 3, 0, 0, 0, .inl 0, [])]),
  (72, [(.iastore, 73, 0, 0, 0, 0, .inl 0, []),
    (.iinc 2 1, 76, 2, 0, 0, 0, .inl 1, []),
    (.goto (-62), 79, 14, 0, 0, 0, .inl 0, [])]),
  (79, [(.iinc 1 1, 82, 1, 0, 0, 0, .inl 1, []),
    (.goto (-80), 85, 2, 0, 0, 0, .inl 0, [])]),
  (85, [(.return_, 86, 0, 0, 0, 0, .inl 0, [])])]
def gT_X12_layTolls : gs_T := ([], gB_X12_layTolls, [(2, [0, 1]), (14, [0, 1, 2])])
set_option maxRecDepth 100000 in
def gB_X12_layPairs : List (Nat × List gs_N) := [(0, [(.aload_n 0, 1, 0, 0, 0, 0, .inl 0, []),
    (.invokevirtual 460, 4, 269, 1, 2, 11, .inl 0, []),
    (.aload_n 0, 5, 0, 0, 0, 0, .inl 0, []),
    (.getfield 20, 8, 11, 12, 2, 1, .inl 0, []),
    (.iconst 3, 9, 0, 0, 0, 0, .inl 3, []),
    (.iaload, 10, 0, 0, 0, 0, .inl 0, []),
    (.istore_n 1, 11, 1, 0, 0, 0, .inl 0, []),
    (.iconst 1, 12, 0, 0, 0, 0, .inl 1, []),
    (.aload_n 0, 13, 0, 0, 0, 0, .inl 0, []),
    (.getfield 20, 16, 11, 12, 2, 1, .inl 0, []),
    (.iconst 5, 17, 0, 0, 0, 0, .inl 5, []),
    (.iaload, 18, 0, 0, 0, 0, .inl 0, []),
    (.ishl, 19, 0, 0, 0, 0, .inl 0, []),
    (.istore_n 2, 20, 2, 0, 0, 0, .inl 0, []),
    (.iconst 0, 21, 0, 0, 0, 0, .inl 0, []),
    (.istore_n 3, 22, 3, 0, 0, 0, .inl 0, [])]),
  (22, [(.iload_n 3, 23, 3, 0, 0, 0, .inl 0, []),
    (.iload_n 2, 24, 2, 0, 0, 0, .inl 0, []),
    (.if_icmp .ge 22, 27, 46, 0, 0, 0, .inl 0, []),
    (.aload_n 0, 28, 0, 0, 0, 0, .inl 0, []),
    (.getfield 114, 31, 11, 56, 2, 1, .inl 0, []),
    (.sipush 1024, 34, 0, 0, 0, 0, .inl 1024, []),
    (.iload_n 1, 35, 1, 0, 0, 0, .inl 0, []),
    (.imul, 36, 0, 0, 0, 0, .inl 0, []),
    (.iload_n 3, 37, 3, 0, 0, 0, .inl 0, []),
    (.iadd, 38, 0, 0, 0, 0, .inl 0, []),
    (.iconst 0, 39, 0, 0, 0, 0, .inl 0, []),
    (.iastore, 40, 0, 0, 0, 0, .inl 0, []),
    (.iinc 3 1, 43, 3, 0, 0, 0, .inl 1, []),
    (.goto (-21), 46, 22, 0, 0, 0, .inl 0, [])]),
  (46, [(.iload_n 1, 47, 1, 0, 0, 0, .inl 0, []),
    (.iconst 1, 48, 0, 0, 0, 0, .inl 1, []),
    (.isub, 49, 0, 0, 0, 0, .inl 0, []),
    (.istore_n 3, 50, 3, 0, 0, 0, .inl 0, [])]),
  (50, [(.iload_n 3, 51, 3, 0, 0, 0, .inl 0, []),
    (.ifCond .lt 162, 54, 213, 0, 0, 0, .inl 0, []),
    (.iconst 0, 55, 0, 0, 0, 0, .inl 0, []),
    (.istore 4, 57, 4, 0, 0, 0, .inl 0, [])]),
  (57, [(.iload 4, 59, 4, 0, 0, 0, .inl 0, []),
    (.iload_n 2, 60, 2, 0, 0, 0, .inl 0, []),
    (.if_icmp .ge 147, 63, 207, 0, 0, 0, .inl 0, []),
    (.aload_n 0, 64, 0, 0, 0, 0, .inl 0, []),
    (.getfield 114, 67, 11, 56, 2, 1, .inl 0, []),
    (.sipush 1024, 70, 0, 0, 0, 0, .inl 1024, []),
    (.iload_n 3, 71, 3, 0, 0, 0, .inl 0, []),
    (.iconst 1, 72, 0, 0, 0, 0, .inl 1, []),
    (.iadd, 73, 0, 0, 0, 0, .inl 0, []),
    (.imul, 74, 0, 0, 0, 0, .inl 0, []),
    (.iload 4, 76, 4, 0, 0, 0, .inl 0, []),
    (.iadd, 77, 0, 0, 0, 0, .inl 0, []),
    (.iaload, 78, 0, 0, 0, 0, .inl 0, []),
    (.istore 5, 80, 5, 0, 0, 0, .inl 0, []),
    (.iconst 0, 81, 0, 0, 0, 0, .inl 0, []),
    (.istore 6, 83, 6, 0, 0, 0, .inl 0, [])]),
  (83, [(.iload 6, 85, 6, 0, 0, 0, .inl 0, []),
    (.aload_n 0, 86, 0, 0, 0, 0, .inl 0, []),
    (.getfield 20, 89, 11, 12, 2, 1, .inl 0, []),
    (.iconst 5, 90, 0, 0, 0, 0, .inl 5, []),
    (.iaload, 91, 0, 0, 0, 0, .inl 0, []),
    (.if_icmp .ge 95, 94, 186, 0, 0, 0, .inl 0, []),
    (.iload 4, 96, 4, 0, 0, 0, .inl 0, []),
    (.iload 6, 98, 6, 0, 0, 0, .inl 0, []),
    (.invokestatic 225, 101, 176, 2, 0, 1, .inl 0, []),
    (.ifCond .ne 79, 104, 180, 0, 0, 0, .inl 0, []),
    (.aload_n 0, 105, 0, 0, 0, 0, .inl 0, []),
    (.getfield 111, 108, 11, 55, 2, 1, .inl 0, []),
    (.bipush 10, 110, 0, 0, 0, 0, .inl 10, []),
    (.iload_n 3, 111, 3, 0, 0, 0, .inl 0, []),
    (.imul, 112, 0, 0, 0, 0, .inl 0, []),
    (.iload 6, 114, 6, 0, 0, 0, .inl 0, []),
    (.iadd, 115, 0, 0, 0, 0, .inl 0, []),
    (.iaload, 116, 0, 0, 0, 0, .inl 0, []),
    (.ldc_w 459, 119, 0, 0, 0, 0, .inl 100000, []),
    (.if_icmp .ne 6, 122, 125, 0, 0, 0, .inl 0, []),
    (.goto 58, 125, 180, 0, 0, 0, .inl 0, [])]),
  (125, [(.ldc_w 463, 128, 0, 0, 0, 0, .inl 1000000, []),
    (.aload_n 0, 129, 0, 0, 0, 0, .inl 0, []),
    (.getfield 111, 132, 11, 55, 2, 1, .inl 0, []),
    (.bipush 10, 134, 0, 0, 0, 0, .inl 10, []),
    (.iload_n 3, 135, 3, 0, 0, 0, .inl 0, []),
    (.imul, 136, 0, 0, 0, 0, .inl 0, []),
    (.iload 6, 138, 6, 0, 0, 0, .inl 0, []),
    (.iadd, 139, 0, 0, 0, 0, .inl 0, []),
    (.iaload, 140, 0, 0, 0, 0, .inl 0, []),
    (.isub, 141, 0, 0, 0, 0, .inl 0, []),
    (.aload_n 0, 142, 0, 0, 0, 0, .inl 0, []),
    (.getfield 114, 145, 11, 56, 2, 1, .inl 0, []),
    (.sipush 1024, 148, 0, 0, 0, 0, .inl 1024, []),
    (.iload_n 3, 149, 3, 0, 0, 0, .inl 0, []),
    (.iconst 1, 150, 0, 0, 0, 0, .inl 1, []),
    (.iadd, 151, 0, 0, 0, 0, .inl 0, []),
    (.imul, 152, 0, 0, 0, 0, .inl 0, []),
    (.iload 4, 154, 4, 0, 0, 0, .inl 0, []),
    (.iconst 1, 155, 0, 0, 0, 0, .inl 1, []),
    (.iload 6, 157, 6, 0, 0, 0, .inl 0, []),
    (.ishl, 158, 0, 0, 0, 0, .inl 0, []),
    (.ior, 159, 0, 0, 0, 0, .inl 0, []),
    (.iadd, 160, 0, 0, 0, 0, .inl 0, []),
    (.iaload, 161, 0, 0, 0, 0, .inl 0, []),
    (.iadd, 162, 0, 0, 0, 0, .inl 0, []),
    (.istore 7, 164, 7, 0, 0, 0, .inl 0, []),
    (.iload 7, 166, 7, 0, 0, 0, .inl 0, []),
    (.iload 5, 168, 5, 0, 0, 0, .inl 0, []),
    (.if_icmp .le 8, 171, 176, 0, 0, 0, .inl 0, []),
    (.iload 7, 173, 7, 0, 0, 0, .inl 0, []),
    (.goto 5, 176, 178, 0, 0, 0, .inl 0, [])]),
  (176, [(.iload 5, 178, 5, 0, 0, 0, .inl 0, [])]),
  (178, [(.istore 5, 180, 5, 0, 0, 0, .inl 0, [])]),
  (180, [(.iinc 6 1, 183, 6, 0, 0, 0, .inl 1, []),
    (.goto (-100), 186, 83, 0, 0, 0, .inl 0, [])]),
  (186, [(.aload_n 0, 187, 0, 0, 0, 0, .inl 0, []),
    (.getfield 114, 190, 11, 56, 2, 1, .inl 0, []),
    (.sipush 1024, 193, 0, 0, 0, 0, .inl 1024, []),
    (.iload_n 3, 194, 3, 0, 0, 0, .inl 0, []),
    (.imul, 195, 0, 0, 0, 0, .inl 0, []),
    (.iload 4, 197, 4, 0, 0, 0, .inl 0, []),
    (.iadd, 198, 0, 0, 0, 0, .inl 0, []),
    (.iload 5, 200, 5, 0, 0, 0, .inl 0, []),
    (.iastore, 201, 0, 0, 0, 0, .inl 0, []),
    (.iinc 4 1, 204, 4, 0, 0, 0, .inl 1, []),
    (.goto (-147), 207, 57, 0, 0, 0, .inl 0, [])]),
  (207, [(.iinc 3 (-1), 210, 3, 0, 0, 0, .inl (-1), []),
    (.goto (-160), 213, 50, 0, 0, 0, .inl 0, [])]),
  (213, [(.iconst 0, 214, 0, 0, 0, 0, .inl 0, []),
    (.istore_n 3, 215, 3, 0, 0, 0, .inl 0, []),
    (.iconst 0, 216, 0, 0, 0, 0, .inl 0, []),
    (.istore 4, 218, 4, 0, 0, 0, .inl 0, [])]),
  (218, [(.iload 4, 220, 4, 0, 0, 0, .inl 0, []),
    (.iload_n 1, 221, 1, 0, 0, 0, .inl 0, []),
    (.if_icmp .ge 167, 224, 388, 0, 0, 0, .inl 0, []),
    (.aload_n 0, 225, 0, 0, 0, 0, .inl 0, []),
    (.getfield 117, 228, 11, 57, 2, 1, .inl 0, []),
    (.iload 4, 230, 4, 0, 0, 0, .inl 0, []),
    (.iconst (-1), 231, 0, 0, 0, 0, .inl (-1), []),
    (.iastore, 232, 0, 0, 0, 0, .inl 0, []),
    (.iconst 0, 233, 0, 0, 0, 0, .inl 0, []),
    (.istore 5, 235, 5, 0, 0, 0, .inl 0, [])]),
  (235, [(.iload 5, 237, 5, 0, 0, 0, .inl 0, []),
    (.aload_n 0, 238, 0, 0, 0, 0, .inl 0, []),
    (.getfield 20, 241, 11, 12, 2, 1, .inl 0, []),
    (.iconst 5, 242, 0, 0, 0, 0, .inl 5, []),
    (.iaload, 243, 0, 0, 0, 0, .inl 0, []),
    (.if_icmp .ge 113, 246, 356, 0, 0, 0, .inl 0, []),
    (.aload_n 0, 247, 0, 0, 0, 0, .inl 0, []),
    (.getfield 117, 250, 11, 57, 2, 1, .inl 0, []),
    (.iload 4, 252, 4, 0, 0, 0, .inl 0, []),
    (.iaload, 253, 0, 0, 0, 0, .inl 0, []),
    (.ifCond .ge 103, 256, 356, 0, 0, 0, .inl 0, []),
    (.iload_n 3, 257, 3, 0, 0, 0, .inl 0, []),
    (.iload 5, 259, 5, 0, 0, 0, .inl 0, []),
    (.invokestatic 225, 262, 176, 2, 0, 1, .inl 0, []),
    (.ifCond .ne 88, 265, 350, 0, 0, 0, .inl 0, []),
    (.aload_n 0, 266, 0, 0, 0, 0, .inl 0, []),
    (.getfield 111, 269, 11, 55, 2, 1, .inl 0, []),
    (.bipush 10, 271, 0, 0, 0, 0, .inl 10, []),
    (.iload 4, 273, 4, 0, 0, 0, .inl 0, []),
    (.imul, 274, 0, 0, 0, 0, .inl 0, []),
    (.iload 5, 276, 5, 0, 0, 0, .inl 0, []),
    (.iadd, 277, 0, 0, 0, 0, .inl 0, []),
    (.iaload, 278, 0, 0, 0, 0, .inl 0, []),
    (.ldc_w 459, 281, 0, 0, 0, 0, .inl 100000, []),
    (.if_icmp .ne 6, 284, 287, 0, 0, 0, .inl 0, []),
    (.goto 66, 287, 350, 0, 0, 0, .inl 0, [])]),
  (287, [(.ldc_w 463, 290, 0, 0, 0, 0, .inl 1000000, []),
    (.aload_n 0, 291, 0, 0, 0, 0, .inl 0, []),
    (.getfield 111, 294, 11, 55, 2, 1, .inl 0, []),
    (.bipush 10, 296, 0, 0, 0, 0, .inl 10, []),
    (.iload 4, 298, 4, 0, 0, 0, .inl 0, []),
    (.imul, 299, 0, 0, 0, 0, .inl 0, []),
    (.iload 5, 301, 5, 0, 0, 0, .inl 0, []),
    (.iadd, 302, 0, 0, 0, 0, .inl 0, []),
    (.iaload, 303, 0, 0, 0, 0, .inl 0, []),
    (.isub, 304, 0, 0, 0, 0, .inl 0, []),
    (.aload_n 0, 305, 0, 0, 0, 0, .inl 0, []),
    (.getfield 114, 308, 11, 56, 2, 1, .inl 0, []),
    (.sipush 1024, 311, 0, 0, 0, 0, .inl 1024, []),
    (.iload 4, 313, 4, 0, 0, 0, .inl 0, []),
    (.iconst 1, 314, 0, 0, 0, 0, .inl 1, []),
    (.iadd, 315, 0, 0, 0, 0, .inl 0, []),
    (.imul, 316, 0, 0, 0, 0, .inl 0, []),
    (.iload_n 3, 317, 3, 0, 0, 0, .inl 0, []),
    (.iconst 1, 318, 0, 0, 0, 0, .inl 1, []),
    (.iload 5, 320, 5, 0, 0, 0, .inl 0, []),
    (.ishl, 321, 0, 0, 0, 0, .inl 0, []),
    (.ior, 322, 0, 0, 0, 0, .inl 0, []),
    (.iadd, 323, 0, 0, 0, 0, .inl 0, []),
    (.iaload, 324, 0, 0, 0, 0, .inl 0, []),
    (.iadd, 325, 0, 0, 0, 0, .inl 0, []),
    (.aload_n 0, 326, 0, 0, 0, 0, .inl 0, []),
    (.getfield 114, 329, 11, 56, 2, 1, .inl 0, []),
    (.sipush 1024, 332, 0, 0, 0, 0, .inl 1024, []),
    (.iload 4, 334, 4, 0, 0, 0, .inl 0, []),
    (.imul, 335, 0, 0, 0, 0, .inl 0, []),
    (.iload_n 3, 336, 3, 0, 0, 0, .inl 0, []),
    (.iadd, 337, 0, 0, 0, 0, .inl 0, []),
    (.iaload, 338, 0, 0, 0, 0, .inl 0, []),
    (.if_icmp .ne 12, 341, 350, 0, 0, 0, .inl 0, []),
    (.aload_n 0, 342, 0, 0, 0, 0, .inl 0, []),
    (.getfield 117, 345, 11, 57, 2, 1, .inl 0, []),
    (.iload 4, 347, 4, 0, 0, 0, .inl 0, []),
    (.iload 5, 349, 5, 0, 0, 0, .inl 0, []),
    (.iastore, 350, 0, 0, 0, 0, .inl 0, [])]),
  (350, [(.iinc 5 1, 353, 5, 0, 0, 0, .inl 1, []),
    (.goto (-118), 356, 235, 0, 0, 0, .inl 0, [])]),
  (356, [(.iload_n 3, 357, 3, 0, 0, 0, .inl 0, []),
    (.aload_n 0, 358, 0, 0, 0, 0, .inl 0, []),
    (.getfield 117, 361, 11, 57, 2, 1, .inl 0, []),
    (.iload 4, 363, 4, 0, 0, 0, .inl 0, []),
    (.iaload, 364, 0, 0, 0, 0, .inl 0, []),
    (.ifCond .ge 7, 367, 371, 0, 0, 0, .inl 0, []),
    (.iconst 0, 368, 0, 0, 0, 0, .inl 0, []),
    (.goto 12, 371, 380, 0, 0, 0, .inl 0, [])]),
  (371, [(.iconst 1, 372, 0, 0, 0, 0, .inl 1, []),
    (.aload_n 0, 373, 0, 0, 0, 0, .inl 0, []),
    (.getfield 117, 376, 11, 57, 2, 1, .inl 0, []),
    (.iload 4, 378, 4, 0, 0, 0, .inl 0, []),
    (.iaload, 379, 0, 0, 0, 0, .inl 0, []),
    (.ishl, 380, 0, 0, 0, 0, .inl 0, [])]),
  (380, [(.ior, 381, 0, 0, 0, 0, .inl 0, []),
    (.istore_n 3, 382, 3, 0, 0, 0, .inl 0, []),
    (.iinc 4 1, 385, 4, 0, 0, 0, .inl 1, []),
    (.goto (-167), 388, 218, 0, 0, 0, .inl 0, [])]),
  (388, [(.return_, 389, 0, 0, 0, 0, .inl 0, [])])]
def gT_X12_layPairs : gs_T := ([], gB_X12_layPairs, [(22, [0, 1, 2, 3]), (50, [0, 1, 2, 3]), (57, [0, 1, 2, 3, 4]), (83, [0, 1, 2, 3, 4, 5, 6]), (218, [0, 1, 3, 4]), (235, [0, 1, 3, 4, 5])])
set_option maxRecDepth 100000 in
def gB_X12_pairMany : List (Nat × List gs_N) := [(0, [(.iconst 0, 1, 0, 0, 0, 0, .inl 0, []),
    (.istore_n 1, 2, 1, 0, 0, 0, .inl 0, []),
    (.iconst 0, 3, 0, 0, 0, 0, .inl 0, []),
    (.istore_n 2, 4, 2, 0, 0, 0, .inl 0, [])]),
  (4, [(.iload_n 2, 5, 2, 0, 0, 0, .inl 0, []),
    (.aload_n 0, 6, 0, 0, 0, 0, .inl 0, []),
    (.getfield 20, 9, 11, 12, 2, 1, .inl 0, []),
    (.iconst 3, 10, 0, 0, 0, 0, .inl 3, []),
    (.iaload, 11, 0, 0, 0, 0, .inl 0, []),
    (.if_icmp .ge 26, 14, 37, 0, 0, 0, .inl 0, []),
    (.iload_n 1, 15, 1, 0, 0, 0, .inl 0, []),
    (.aload_n 0, 16, 0, 0, 0, 0, .inl 0, []),
    (.getfield 117, 19, 11, 57, 2, 1, .inl 0, []),
    (.iload_n 2, 20, 2, 0, 0, 0, .inl 0, []),
    (.iaload, 21, 0, 0, 0, 0, .inl 0, []),
    (.ifCond .lt 7, 24, 28, 0, 0, 0, .inl 0, []),
    (.iconst 1, 25, 0, 0, 0, 0, .inl 1, []),
    (.goto 4, 28, 29, 0, 0, 0, .inl 0, [])]),
  (28, [(.iconst 0, 29, 0, 0, 0, 0, .inl 0, [])]),
  (29, [(.iadd, 30, 0, 0, 0, 0, .inl 0, []),
    (.istore_n 1, 31, 1, 0, 0, 0, .inl 0, []),
    (.iinc 2 1, 34, 2, 0, 0, 0, .inl 1, []),
    (.goto (-30), 37, 4, 0, 0, 0, .inl 0, [])]),
  (37, [(.iload_n 1, 38, 1, 0, 0, 0, .inl 0, []),
    (.ireturn, 39, 0, 0, 0, 0, .inl 0, [])])]
def gT_X12_pairMany : gs_T := ([], gB_X12_pairMany, [(4, [0, 1, 2])])
set_option maxRecDepth 100000 in
def gB_X12_pairs : List (Nat × List gs_N) := [(0, [(.aload_n 0, 1, 0, 0, 0, 0, .inl 0, []),
    (.iconst 0, 2, 0, 0, 0, 0, .inl 0, []),
    (.putfield 129, 5, 11, 2, 0, 0, .inl 0, []),
    (.iload_n 1, 6, 1, 0, 0, 0, .inl 0, []),
    (.iconst 0, 7, 0, 0, 0, 0, .inl 0, []),
    (.iconst 1, 8, 0, 0, 0, 0, .inl 1, []),
    (.invokestatic 173, 11, 175, 3, 0, 1, .inl 0, []),
    (.ifCond .ne 5, 14, 16, 0, 0, 0, .inl 0, []),
    (.iconst (-1), 15, 0, 0, 0, 0, .inl (-1), []),
    (.ireturn, 16, 0, 0, 0, 0, .inl 0, [])]),
  (16, [(.aload_n 0, 17, 0, 0, 0, 0, .inl 0, []),
    (.invokevirtual 464, 20, 270, 1, 2, 11, .inl 0, []),
    (.iload_n 1, 21, 1, 0, 0, 0, .inl 0, []),
    (.ifCond .ne 8, 24, 29, 0, 0, 0, .inl 0, []),
    (.aload_n 0, 25, 0, 0, 0, 0, .inl 0, []),
    (.invokevirtual 467, 28, 271, 1, 0, 11, .inl 0, []),
    (.ireturn, 29, 0, 0, 0, 0, .inl 0, [])]),
  (29, [(.iconst 0, 30, 0, 0, 0, 0, .inl 0, []),
    (.istore_n 2, 31, 2, 0, 0, 0, .inl 0, []),
    (.iconst 0, 32, 0, 0, 0, 0, .inl 0, []),
    (.istore_n 3, 33, 3, 0, 0, 0, .inl 0, [])]),
  (33, [(.iload_n 3, 34, 3, 0, 0, 0, .inl 0, []),
    (.aload_n 0, 35, 0, 0, 0, 0, .inl 0, []),
    (.getfield 20, 38, 11, 12, 2, 1, .inl 0, []),
    (.iconst 3, 39, 0, 0, 0, 0, .inl 3, []),
    (.iaload, 40, 0, 0, 0, 0, .inl 0, []),
    (.if_icmp .ge 41, 43, 81, 0, 0, 0, .inl 0, []),
    (.iload_n 2, 44, 2, 0, 0, 0, .inl 0, []),
    (.aload_n 0, 45, 0, 0, 0, 0, .inl 0, []),
    (.getfield 117, 48, 11, 57, 2, 1, .inl 0, []),
    (.iload_n 3, 49, 3, 0, 0, 0, .inl 0, []),
    (.iaload, 50, 0, 0, 0, 0, .inl 0, []),
    (.ifCond .lt 22, 53, 72, 0, 0, 0, .inl 0, []),
    (.aload_n 0, 54, 0, 0, 0, 0, .inl 0, []),
    (.getfield 111, 57, 11, 55, 2, 1, .inl 0, []),
    (.bipush 10, 59, 0, 0, 0, 0, .inl 10, []),
    (.iload_n 3, 60, 3, 0, 0, 0, .inl 0, []),
    (.imul, 61, 0, 0, 0, 0, .inl 0, []),
    (.aload_n 0, 62, 0, 0, 0, 0, .inl 0, []),
    (.getfield 117, 65, 11, 57, 2, 1, .inl 0, []),
    (.iload_n 3, 66, 3, 0, 0, 0, .inl 0, []),
    (.iaload, 67, 0, 0, 0, 0, .inl 0, []),
    (.iadd, 68, 0, 0, 0, 0, .inl 0, []),
    (.iaload, 69, 0, 0, 0, 0, .inl 0, []),
    (.goto 4, 72, 73, 0, 0, 0, .inl 0, [])]),
  (72, [(.iconst 0, 73, 0, 0, 0, 0, .inl 0, [])]),
  (73, [(.iadd, 74, 0, 0, 0, 0, .inl 0, []),
    (.istore_n 2, 75, 2, 0, 0, 0, .inl 0, []),
    (.iinc 3 1, 78, 3, 0, 0, 0, .inl 1, []),
    (.goto (-45), 81, 33, 0, 0, 0, .inl 0, [])]),
  (81, [(.iload_n 2, 82, 2, 0, 0, 0, .inl 0, []),
    (.ireturn, 83, 0, 0, 0, 0, .inl 0, [])])]
def gT_X12_pairs : gs_T := ([], gB_X12_pairs, [(33, [0, 2, 3])])
set_option maxRecDepth 100000 in
def gB_X12_pair : List (Nat × List gs_N) := [(0, [(.aload_n 0, 1, 0, 0, 0, 0, .inl 0, []),
    (.iconst 0, 2, 0, 0, 0, 0, .inl 0, []),
    (.putfield 129, 5, 11, 2, 0, 0, .inl 0, []),
    (.aload_n 0, 6, 0, 0, 0, 0, .inl 0, []),
    (.iload_n 1, 7, 1, 0, 0, 0, .inl 0, []),
    (.invokevirtual 344, 10, 228, 2, 0, 11, .inl 0, []),
    (.ifCond .ne 5, 13, 15, 0, 0, 0, .inl 0, []),
    (.iconst (-1), 14, 0, 0, 0, 0, .inl (-1), []),
    (.ireturn, 15, 0, 0, 0, 0, .inl 0, [])]),
  (15, [(.aload_n 0, 16, 0, 0, 0, 0, .inl 0, []),
    (.invokevirtual 464, 19, 270, 1, 2, 11, .inl 0, []),
    (.aload_n 0, 20, 0, 0, 0, 0, .inl 0, []),
    (.getfield 117, 23, 11, 57, 2, 1, .inl 0, []),
    (.iload_n 1, 24, 1, 0, 0, 0, .inl 0, []),
    (.iaload, 25, 0, 0, 0, 0, .inl 0, []),
    (.ireturn, 26, 0, 0, 0, 0, .inl 0, [])])]
def gT_X12_pair : gs_T := ([], gB_X12_pair, [])
set_option maxRecDepth 100000 in
def gB_X12_isOne : List (Nat × List gs_N) := [(0, [(.aload_n 0, 1, 0, 0, 0, 0, .inl 0, []),
    (.iload_n 1, 2, 1, 0, 0, 0, .inl 0, []),
    (.invokevirtual 377, 5, 237, 2, 0, 11, .inl 0, []),
    (.ifCond .ne 36, 8, 41, 0, 0, 0, .inl 0, []),
    (.aload_n 0, 9, 0, 0, 0, 0, .inl 0, []),
    (.iload_n 2, 10, 2, 0, 0, 0, .inl 0, []),
    (.invokevirtual 377, 13, 237, 2, 0, 11, .inl 0, []),
    (.ifCond .ne 28, 16, 41, 0, 0, 0, .inl 0, []),
    (.aload_n 0, 17, 0, 0, 0, 0, .inl 0, []),
    (.getfield 59, 20, 11, 26, 2, 1, .inl 0, []),
    (.bipush 16, 22, 0, 0, 0, 0, .inl 16, []),
    (.iload_n 1, 23, 1, 0, 0, 0, .inl 0, []),
    (.imul, 24, 0, 0, 0, 0, .inl 0, []),
    (.iconst 1, 25, 0, 0, 0, 0, .inl 1, []),
    (.iadd, 26, 0, 0, 0, 0, .inl 0, []),
    (.iaload, 27, 0, 0, 0, 0, .inl 0, []),
    (.aload_n 0, 28, 0, 0, 0, 0, .inl 0, []),
    (.getfield 59, 31, 11, 26, 2, 1, .inl 0, []),
    (.bipush 16, 33, 0, 0, 0, 0, .inl 16, []),
    (.iload_n 2, 34, 2, 0, 0, 0, .inl 0, []),
    (.imul, 35, 0, 0, 0, 0, .inl 0, []),
    (.iconst 1, 36, 0, 0, 0, 0, .inl 1, []),
    (.iadd, 37, 0, 0, 0, 0, .inl 0, []),
    (.iaload, 38, 0, 0, 0, 0, .inl 0, []),
    (.if_icmp .eq 5, 41, 43, 0, 0, 0, .inl 0, [])]),
  (41, [(.iconst 0, 42, 0, 0, 0, 0, .inl 0, []),
    (.ireturn, 43, 1, 0, 0, 0, .inl 0, [])]),
  (43, [(.aload_n 0, 44, 0, 0, 0, 0, .inl 0, []),
    (.iload_n 1, 45, 1, 0, 0, 0, .inl 0, []),
    (.invokevirtual 384, 48, 243, 2, 0, 11, .inl 0, []),
    (.istore_n 3, 49, 3, 0, 0, 0, .inl 0, []),
    (.aload_n 0, 50, 0, 0, 0, 0, .inl 0, []),
    (.iload_n 2, 51, 2, 0, 0, 0, .inl 0, []),
    (.invokevirtual 384, 54, 243, 2, 0, 11, .inl 0, []),
    (.istore 4, 56, 4, 0, 0, 0, .inl 0, []),
    (.iload_n 3, 57, 3, 0, 0, 0, .inl 0, []),
    (.ifCond .lt 27, 60, 84, 0, 0, 0, .inl 0, []),
    (.iload 4, 62, 4, 0, 0, 0, .inl 0, []),
    (.ifCond .lt 22, 65, 84, 0, 0, 0, .inl 0, []),
    (.iload_n 3, 66, 3, 0, 0, 0, .inl 0, []),
    (.iload 4, 68, 4, 0, 0, 0, .inl 0, []),
    (.isub, 69, 0, 0, 0, 0, .inl 0, []),
    (.invokestatic 408, 72, 177, 1, 0, 1, .inl 0, []),
    (.iconst 5, 73, 0, 0, 0, 0, .inl 5, []),
    (.if_icmp .gt 7, 76, 80, 0, 0, 0, .inl 0, []),
    (.iconst 1, 77, 0, 0, 0, 0, .inl 1, []),
    (.goto 37, 80, 114, 0, 0, 0, .inl 0, [])]),
  (80, [(.iconst 0, 81, 0, 0, 0, 0, .inl 0, []),
    (.goto 33, 84, 114, 0, 0, 0, .inl 0, [])]),
  (84, [(.aload_n 0, 85, 0, 0, 0, 0, .inl 0, []),
    (.getfield 59, 88, 11, 26, 2, 1, .inl 0, []),
    (.bipush 16, 90, 0, 0, 0, 0, .inl 16, []),
    (.iload_n 1, 91, 1, 0, 0, 0, .inl 0, []),
    (.imul, 92, 0, 0, 0, 0, .inl 0, []),
    (.iconst 2, 93, 0, 0, 0, 0, .inl 2, []),
    (.iadd, 94, 0, 0, 0, 0, .inl 0, []),
    (.iaload, 95, 0, 0, 0, 0, .inl 0, []),
    (.aload_n 0, 96, 0, 0, 0, 0, .inl 0, []),
    (.getfield 59, 99, 11, 26, 2, 1, .inl 0, []),
    (.bipush 16, 101, 0, 0, 0, 0, .inl 16, []),
    (.iload_n 2, 102, 2, 0, 0, 0, .inl 0, []),
    (.imul, 103, 0, 0, 0, 0, .inl 0, []),
    (.iconst 2, 104, 0, 0, 0, 0, .inl 2, []),
    (.iadd, 105, 0, 0, 0, 0, .inl 0, []),
    (.iaload, 106, 0, 0, 0, 0, .inl 0, []),
    (.if_icmp .ne 7, 109, 113, 0, 0, 0, .inl 0, []),
    (.iconst 1, 110, 0, 0, 0, 0, .inl 1, []),
    (.goto 4, 113, 114, 0, 0, 0, .inl 0, [])]),
  (113, [(.iconst 0, 114, 0, 0, 0, 0, .inl 0, [])]),
  (114, [(.istore 5, 116, 5, 0, 0, 0, .inl 0, []),
    (.iload 5, 118, 5, 0, 0, 0, .inl 0, []),
    (.ifCond .ne 5, 121, 123, 0, 0, 0, .inl 0, []),
    (.iconst 0, 122, 0, 0, 0, 0, .inl 0, []),
    (.ireturn, 123, 1, 0, 0, 0, .inl 0, [])]),
  (123, [(.aload_n 0, 124, 0, 0, 0, 0, .inl 0, []),
    (.iload_n 1, 125, 1, 0, 0, 0, .inl 0, []),
    (.invokevirtual 399, 128, 251, 2, 0, 11, .inl 0, []),
    (.ifCond .eq 42, 131, 170, 0, 0, 0, .inl 0, []),
    (.aload_n 0, 132, 0, 0, 0, 0, .inl 0, []),
    (.iload_n 2, 133, 2, 0, 0, 0, .inl 0, []),
    (.invokevirtual 399, 136, 251, 2, 0, 11, .inl 0, []),
    (.ifCond .eq 34, 139, 170, 0, 0, 0, .inl 0, []),
    (.aload_n 0, 140, 0, 0, 0, 0, .inl 0, []),
    (.iload_n 1, 141, 1, 0, 0, 0, .inl 0, []),
    (.iconst 0, 142, 0, 0, 0, 0, .inl 0, []),
    (.invokevirtual 402, 145, 253, 3, 0, 11, .inl 0, []),
    (.aload_n 0, 146, 0, 0, 0, 0, .inl 0, []),
    (.iload_n 1, 147, 1, 0, 0, 0, .inl 0, []),
    (.iconst 0, 148, 0, 0, 0, 0, .inl 0, []),
    (.invokevirtual 405, 151, 254, 3, 0, 11, .inl 0, []),
    (.aload_n 0, 152, 0, 0, 0, 0, .inl 0, []),
    (.iload_n 2, 153, 2, 0, 0, 0, .inl 0, []),
    (.iconst 0, 154, 0, 0, 0, 0, .inl 0, []),
    (.invokevirtual 402, 157, 253, 3, 0, 11, .inl 0, []),
    (.aload_n 0, 158, 0, 0, 0, 0, .inl 0, []),
    (.iload_n 2, 159, 2, 0, 0, 0, .inl 0, []),
    (.iconst 0, 160, 0, 0, 0, 0, .inl 0, []),
    (.invokevirtual 405, 163, 254, 3, 0, 11, .inl 0, []),
    (.invokestatic 444, 166, 257, 4, 0, 1, .inl 0, []),
    (.iconst 3, 167, 0, 0, 0, 0, .inl 3, []),
    (.if_icmp .gt 7, 170, 174, 0, 0, 0, .inl 0, [])]),
  (170, [(.iconst 1, 171, 0, 0, 0, 0, .inl 1, []),
    (.goto 4, 174, 175, 0, 0, 0, .inl 0, [])]),
  (174, [(.iconst 0, 175, 0, 0, 0, 0, .inl 0, [])]),
  (175, [(.ireturn, 176, 1, 0, 0, 0, .inl 0, [])])]
def gT_X12_isOne : gs_T := ([], gB_X12_isOne, [(114, [0, 1, 2])])
set_option maxRecDepth 100000 in
def gB_X12_one : List (Nat × List gs_N) := [(0, [(.aload_n 0, 1, 0, 0, 0, 0, .inl 0, []),
    (.iconst 0, 2, 0, 0, 0, 0, .inl 0, []),
    (.putfield 129, 5, 11, 2, 0, 0, .inl 0, []),
    (.aload_n 0, 6, 0, 0, 0, 0, .inl 0, []),
    (.iload_n 1, 7, 1, 0, 0, 0, .inl 0, []),
    (.invokevirtual 344, 10, 228, 2, 0, 11, .inl 0, []),
    (.ifCond .eq 16, 13, 26, 0, 0, 0, .inl 0, []),
    (.aload_n 0, 14, 0, 0, 0, 0, .inl 0, []),
    (.iload_n 2, 15, 2, 0, 0, 0, .inl 0, []),
    (.invokevirtual 344, 18, 228, 2, 0, 11, .inl 0, []),
    (.ifCond .eq 8, 21, 26, 0, 0, 0, .inl 0, []),
    (.iload_n 1, 22, 1, 0, 0, 0, .inl 0, []),
    (.iload_n 2, 23, 2, 0, 0, 0, .inl 0, []),
    (.if_icmp .ne 7, 26, 30, 0, 0, 0, .inl 0, [])]),
  (26, [(.iconst (-1), 27, 0, 0, 0, 0, .inl (-1), []),
    (.goto 17, 30, 44, 0, 0, 0, .inl 0, [])]),
  (30, [(.aload_n 0, 31, 0, 0, 0, 0, .inl 0, []),
    (.iload_n 1, 32, 1, 0, 0, 0, .inl 0, []),
    (.iload_n 2, 33, 2, 0, 0, 0, .inl 0, []),
    (.invokevirtual 470, 36, 274, 3, 0, 11, .inl 0, []),
    (.ifCond .eq 7, 39, 43, 0, 0, 0, .inl 0, []),
    (.iconst 1, 40, 0, 0, 0, 0, .inl 1, []),
    (.goto 4, 43, 44, 0, 0, 0, .inl 0, [])]),
  (43, [(.iconst 0, 44, 0, 0, 0, 0, .inl 0, [])]),
  (44, [(.ireturn, 45, 0, 0, 0, 0, .inl 0, [])])]
def gT_X12_one : gs_T := ([], gB_X12_one, [])
set_option maxRecDepth 100000 in
def gB_X12_known : List (Nat × List gs_N) := [(0, [(.aload_n 0, 1, 0, 0, 0, 0, .inl 0, []),
    (.iconst 0, 2, 0, 0, 0, 0, .inl 0, []),
    (.putfield 129, 5, 11, 2, 0, 0, .inl 0, []),
    (.iload_n 1, 6, 1, 0, 0, 0, .inl 0, []),
    (.iconst (-1), 7, 0, 0, 0, 0, .inl (-1), []),
    (.aload_n 0, 8, 0, 0, 0, 0, .inl 0, []),
    (.getfield 20, 11, 11, 12, 2, 1, .inl 0, []),
    (.iconst 3, 12, 0, 0, 0, 0, .inl 3, []),
    (.iaload, 13, 0, 0, 0, 0, .inl 0, []),
    (.invokestatic 173, 16, 175, 3, 0, 1, .inl 0, []),
    (.ifCond .ne 5, 19, 21, 0, 0, 0, .inl 0, []),
    (.iconst 0, 20, 0, 0, 0, 0, .inl 0, []),
    (.ireturn, 21, 1, 0, 0, 0, .inl 0, [])]),
  (21, [(.aload_n 0, 22, 0, 0, 0, 0, .inl 0, []),
    (.iload_n 1, 23, 1, 0, 0, 0, .inl 0, []),
    (.putfield 89, 26, 11, 37, 0, 0, .inl 0, []),
    (.iconst 1, 27, 0, 0, 0, 0, .inl 1, []),
    (.ireturn, 28, 1, 0, 0, 0, .inl 0, [])])]
def gT_X12_known : gs_T := ([], gB_X12_known, [])
set_option maxRecDepth 100000 in
def gB_X12_layEvents : List (Nat × List gs_N) := [(0, [(.aload_n 0, 1, 0, 0, 0, 0, .inl 0, []),
    (.getfield 20, 4, 11, 12, 2, 1, .inl 0, []),
    (.iconst 3, 5, 0, 0, 0, 0, .inl 3, []),
    (.iaload, 6, 0, 0, 0, 0, .inl 0, []),
    (.istore_n 1, 7, 1, 0, 0, 0, .inl 0, []),
    (.iconst 0, 8, 0, 0, 0, 0, .inl 0, []),
    (.istore_n 2, 9, 2, 0, 0, 0, .inl 0, [])]),
  (9, [(.iload_n 2, 10, 2, 0, 0, 0, .inl 0, []),
    (.iload_n 1, 11, 1, 0, 0, 0, .inl 0, []),
    (.if_icmp .ge 28, 14, 39, 0, 0, 0, .inl 0, []),
    (.aload_n 0, 15, 0, 0, 0, 0, .inl 0, []),
    (.getfield 120, 18, 11, 58, 2, 1, .inl 0, []),
    (.iload_n 2, 19, 2, 0, 0, 0, .inl 0, []),
    (.aload_n 0, 20, 0, 0, 0, 0, .inl 0, []),
    (.iload_n 2, 21, 2, 0, 0, 0, .inl 0, []),
    (.invokevirtual 456, 24, 268, 2, 0, 11, .inl 0, []),
    (.ifCond .eq 7, 27, 31, 0, 0, 0, .inl 0, []),
    (.iload_n 2, 28, 2, 0, 0, 0, .inl 0, []),
    (.goto 4, 31, 32, 0, 0, 0, .inl 0, [])]),
  (31, [(.iconst (-1), 32, 0, 0, 0, 0, .inl (-1), [])]),
  (32, [(.iastore, 33, 0, 0, 0, 0, .inl 0, []),
    (.iinc 2 1, 36, 2, 0, 0, 0, .inl 1, []),
    (.goto (-27), 39, 9, 0, 0, 0, .inl 0, [])]),
  (39, [(.iconst 1, 40, 0, 0, 0, 0, .inl 1, []),
    (.istore_n 2, 41, 2, 0, 0, 0, .inl 0, [])]),
  (41, [(.iload_n 2, 42, 2, 0, 0, 0, .inl 0, []),
    (.ifCond .eq 105, 45, 147, 0, 0, 0, .inl 0, []),
    (.iconst 0, 46, 0, 0, 0, 0, .inl 0, []),
    (.istore_n 2, 47, 2, 0, 0, 0, .inl 0, []),
    (.iconst 0, 48, 0, 0, 0, 0, .inl 0, []),
    (.istore_n 3, 49, 3, 0, 0, 0, .inl 0, [])]),
  (49, [(.iload_n 3, 50, 3, 0, 0, 0, .inl 0, []),
    (.iload_n 1, 51, 1, 0, 0, 0, .inl 0, []),
    (.if_icmp .ge 93, 54, 144, 0, 0, 0, .inl 0, []),
    (.iconst 0, 55, 0, 0, 0, 0, .inl 0, []),
    (.istore 4, 57, 4, 0, 0, 0, .inl 0, [])]),
  (57, [(.iload 4, 59, 4, 0, 0, 0, .inl 0, []),
    (.iload_n 1, 60, 1, 0, 0, 0, .inl 0, []),
    (.if_icmp .ge 78, 63, 138, 0, 0, 0, .inl 0, []),
    (.iload_n 3, 64, 3, 0, 0, 0, .inl 0, []),
    (.iload 4, 66, 4, 0, 0, 0, .inl 0, []),
    (.if_icmp .eq 66, 69, 132, 0, 0, 0, .inl 0, []),
    (.aload_n 0, 70, 0, 0, 0, 0, .inl 0, []),
    (.getfield 120, 73, 11, 58, 2, 1, .inl 0, []),
    (.iload_n 3, 74, 3, 0, 0, 0, .inl 0, []),
    (.iaload, 75, 0, 0, 0, 0, .inl 0, []),
    (.ifCond .lt 57, 78, 132, 0, 0, 0, .inl 0, []),
    (.aload_n 0, 79, 0, 0, 0, 0, .inl 0, []),
    (.getfield 120, 82, 11, 58, 2, 1, .inl 0, []),
    (.iload 4, 84, 4, 0, 0, 0, .inl 0, []),
    (.iaload, 85, 0, 0, 0, 0, .inl 0, []),
    (.ifCond .lt 47, 88, 132, 0, 0, 0, .inl 0, []),
    (.aload_n 0, 89, 0, 0, 0, 0, .inl 0, []),
    (.getfield 120, 92, 11, 58, 2, 1, .inl 0, []),
    (.iload_n 3, 93, 3, 0, 0, 0, .inl 0, []),
    (.iaload, 94, 0, 0, 0, 0, .inl 0, []),
    (.aload_n 0, 95, 0, 0, 0, 0, .inl 0, []),
    (.getfield 120, 98, 11, 58, 2, 1, .inl 0, []),
    (.iload 4, 100, 4, 0, 0, 0, .inl 0, []),
    (.iaload, 101, 0, 0, 0, 0, .inl 0, []),
    (.if_icmp .ge 31, 104, 132, 0, 0, 0, .inl 0, []),
    (.aload_n 0, 105, 0, 0, 0, 0, .inl 0, []),
    (.iload_n 3, 106, 3, 0, 0, 0, .inl 0, []),
    (.iload 4, 108, 4, 0, 0, 0, .inl 0, []),
    (.invokevirtual 470, 111, 274, 3, 0, 11, .inl 0, []),
    (.ifCond .ne 6, 114, 117, 0, 0, 0, .inl 0, []),
    (.goto 18, 117, 132, 0, 0, 0, .inl 0, [])]),
  (117, [(.aload_n 0, 118, 0, 0, 0, 0, .inl 0, []),
    (.getfield 120, 121, 11, 58, 2, 1, .inl 0, []),
    (.iload 4, 123, 4, 0, 0, 0, .inl 0, []),
    (.aload_n 0, 124, 0, 0, 0, 0, .inl 0, []),
    (.getfield 120, 127, 11, 58, 2, 1, .inl 0, []),
    (.iload_n 3, 128, 3, 0, 0, 0, .inl 0, []),
    (.iaload, 129, 0, 0, 0, 0, .inl 0, []),
    (.iastore, 130, 0, 0, 0, 0, .inl 0, []),
    (.iconst 1, 131, 0, 0, 0, 0, .inl 1, []),
    (.istore_n 2, 132, 2, 0, 0, 0, .inl 0, [])]),
  (132, [(.iinc 4 1, 135, 4, 0, 0, 0, .inl 1, []),
    (.goto (-78), 138, 57, 0, 0, 0, .inl 0, [])]),
  (138, [(.iinc 3 1, 141, 3, 0, 0, 0, .inl 1, []),
    (.goto (-92), 144, 49, 0, 0, 0, .inl 0, [])]),
  (144, [(.goto (-103), 147, 41, 0, 0, 0, .inl 0, [])]),
  (147, [(.return_, 148, 0, 0, 0, 0, .inl 0, [])])]
def gT_X12_layEvents : gs_T := ([], gB_X12_layEvents, [(9, [0, 1, 2]), (41, [0, 1, 2]), (49, [0, 1, 2, 3]), (57, [0, 1, 2, 3, 4])])
set_option maxRecDepth 100000 in
def gB_X12_event : List (Nat × List gs_N) := [(0, [(.aload_n 0, 1, 0, 0, 0, 0, .inl 0, []),
    (.iconst 0, 2, 0, 0, 0, 0, .inl 0, []),
    (.putfield 129, 5, 11, 2, 0, 0, .inl 0, []),
    (.aload_n 0, 6, 0, 0, 0, 0, .inl 0, []),
    (.iload_n 1, 7, 1, 0, 0, 0, .inl 0, []),
    (.invokevirtual 344, 10, 228, 2, 0, 11, .inl 0, []),
    (.ifCond .ne 5, 13, 15, 0, 0, 0, .inl 0, []),
    (.iconst (-1), 14, 0, 0, 0, 0, .inl (-1), []),
    (.ireturn, 15, 0, 0, 0, 0, .inl 0, [])]),
  (15, [(.aload_n 0, 16, 0, 0, 0, 0, .inl 0, []),
    (.invokevirtual 473, 19, 277, 1, 2, 11, .inl 0, []),
    (.aload_n 0, 20, 0, 0, 0, 0, .inl 0, []),
    (.getfield 120, 23, 11, 58, 2, 1, .inl 0, []),
    (.iload_n 1, 24, 1, 0, 0, 0, .inl 0, []),
    (.iaload, 25, 0, 0, 0, 0, .inl 0, []),
    (.ireturn, 26, 0, 0, 0, 0, .inl 0, [])])]
def gT_X12_event : gs_T := ([], gB_X12_event, [])
set_option maxRecDepth 100000 in
def gB_X12_events : List (Nat × List gs_N) := [(0, [(.aload_n 0, 1, 0, 0, 0, 0, .inl 0, []),
    (.iconst 0, 2, 0, 0, 0, 0, .inl 0, []),
    (.putfield 129, 5, 11, 2, 0, 0, .inl 0, []),
    (.aload_n 0, 6, 0, 0, 0, 0, .inl 0, []),
    (.invokevirtual 473, 9, 277, 1, 2, 11, .inl 0, []),
    (.iconst 0, 10, 0, 0, 0, 0, .inl 0, []),
    (.istore_n 1, 11, 1, 0, 0, 0, .inl 0, []),
    (.iconst 0, 12, 0, 0, 0, 0, .inl 0, []),
    (.istore_n 2, 13, 2, 0, 0, 0, .inl 0, [])]),
  (13, [(.iload_n 2, 14, 2, 0, 0, 0, .inl 0, []),
    (.aload_n 0, 15, 0, 0, 0, 0, .inl 0, []),
    (.getfield 20, 18, 11, 12, 2, 1, .inl 0, []),
    (.iconst 3, 19, 0, 0, 0, 0, .inl 3, []),
    (.iaload, 20, 0, 0, 0, 0, .inl 0, []),
    (.if_icmp .ge 27, 23, 47, 0, 0, 0, .inl 0, []),
    (.iload_n 1, 24, 1, 0, 0, 0, .inl 0, []),
    (.aload_n 0, 25, 0, 0, 0, 0, .inl 0, []),
    (.getfield 120, 28, 11, 58, 2, 1, .inl 0, []),
    (.iload_n 2, 29, 2, 0, 0, 0, .inl 0, []),
    (.iaload, 30, 0, 0, 0, 0, .inl 0, []),
    (.iload_n 2, 31, 2, 0, 0, 0, .inl 0, []),
    (.if_icmp .ne 7, 34, 38, 0, 0, 0, .inl 0, []),
    (.iconst 1, 35, 0, 0, 0, 0, .inl 1, []),
    (.goto 4, 38, 39, 0, 0, 0, .inl 0, [])]),
  (38, [(.iconst 0, 39, 0, 0, 0, 0, .inl 0, [])]),
  (39, [(.iadd, 40, 0, 0, 0, 0, .inl 0, []),
    (.istore_n 1, 41, 1, 0, 0, 0, .inl 0, []),
    (.iinc 2 1, 44, 2, 0, 0, 0, .inl 1, []),
    (.goto (-31), 47, 13, 0, 0, 0, .inl 0, [])]),
  (47, [(.iload_n 1, 48, 1, 0, 0, 0, .inl 0, []),
    (.ireturn, 49, 0, 0, 0, 0, .inl 0, [])])]
def gT_X12_events : gs_T := ([], gB_X12_events, [(13, [0, 1, 2])])
set_option maxRecDepth 100000 in
def gB_X12_slipsOf : List (Nat × List gs_N) := [(0, [(.iconst 0, 1, 0, 0, 0, 0, .inl 0, []),
    (.istore_n 3, 2, 3, 0, 0, 0, .inl 0, []),
    (.iconst 2, 3, 0, 0, 0, 0, .inl 2, []),
    (.istore 4, 5, 4, 0, 0, 0, .inl 0, [])]),
  (5, [(.iload 4, 7, 4, 0, 0, 0, .inl 0, []),
    (.bipush 11, 9, 0, 0, 0, 0, .inl 11, []),
    (.if_icmp .ge 44, 12, 53, 0, 0, 0, .inl 0, []),
    (.iload_n 3, 13, 3, 0, 0, 0, .inl 0, []),
    (.aload_n 0, 14, 0, 0, 0, 0, .inl 0, []),
    (.getfield 59, 17, 11, 26, 2, 1, .inl 0, []),
    (.bipush 16, 19, 0, 0, 0, 0, .inl 16, []),
    (.iload_n 1, 20, 1, 0, 0, 0, .inl 0, []),
    (.imul, 21, 0, 0, 0, 0, .inl 0, []),
    (.iload 4, 23, 4, 0, 0, 0, .inl 0, []),
    (.iadd, 24, 0, 0, 0, 0, .inl 0, []),
    (.iaload, 25, 0, 0, 0, 0, .inl 0, []),
    (.aload_n 0, 26, 0, 0, 0, 0, .inl 0, []),
    (.getfield 59, 29, 11, 26, 2, 1, .inl 0, []),
    (.bipush 16, 31, 0, 0, 0, 0, .inl 16, []),
    (.iload_n 2, 32, 2, 0, 0, 0, .inl 0, []),
    (.imul, 33, 0, 0, 0, 0, .inl 0, []),
    (.iload 4, 35, 4, 0, 0, 0, .inl 0, []),
    (.iadd, 36, 0, 0, 0, 0, .inl 0, []),
    (.iaload, 37, 0, 0, 0, 0, .inl 0, []),
    (.if_icmp .ne 7, 40, 44, 0, 0, 0, .inl 0, []),
    (.iconst 0, 41, 0, 0, 0, 0, .inl 0, []),
    (.goto 4, 44, 45, 0, 0, 0, .inl 0, [])]),
  (44, [(.iconst 1, 45, 0, 0, 0, 0, .inl 1, [])]),
  (45, [(.iadd, 46, 0, 0, 0, 0, .inl 0, []),
    (.istore_n 3, 47, 3, 0, 0, 0, .inl 0, []),
    (.iinc 4 1, 50, 4, 0, 0, 0, .inl 1, []),
    (.goto (-45), 53, 5, 0, 0, 0, .inl 0, [])]),
  (53, [(.iload_n 3, 54, 3, 0, 0, 0, .inl 0, []),
    (.ireturn, 55, 0, 0, 0, 0, .inl 0, [])])]
def gT_X12_slipsOf : gs_T := ([], gB_X12_slipsOf, [(5, [0, 1, 2, 3, 4])])
set_option maxRecDepth 100000 in
def gB_X12_slips : List (Nat × List gs_N) := [(0, [(.aload_n 0, 1, 0, 0, 0, 0, .inl 0, []),
    (.iconst 0, 2, 0, 0, 0, 0, .inl 0, []),
    (.putfield 129, 5, 11, 2, 0, 0, .inl 0, []),
    (.aload_n 0, 6, 0, 0, 0, 0, .inl 0, []),
    (.iload_n 1, 7, 1, 0, 0, 0, .inl 0, []),
    (.invokevirtual 344, 10, 228, 2, 0, 11, .inl 0, []),
    (.ifCond .eq 16, 13, 26, 0, 0, 0, .inl 0, []),
    (.aload_n 0, 14, 0, 0, 0, 0, .inl 0, []),
    (.iload_n 2, 15, 2, 0, 0, 0, .inl 0, []),
    (.invokevirtual 344, 18, 228, 2, 0, 11, .inl 0, []),
    (.ifCond .eq 8, 21, 26, 0, 0, 0, .inl 0, []),
    (.iload_n 1, 22, 1, 0, 0, 0, .inl 0, []),
    (.iload_n 2, 23, 2, 0, 0, 0, .inl 0, []),
    (.if_icmp .ne 7, 26, 30, 0, 0, 0, .inl 0, [])]),
  (26, [(.iconst (-1), 27, 0, 0, 0, 0, .inl (-1), []),
    (.goto 9, 30, 36, 0, 0, 0, .inl 0, [])]),
  (30, [(.aload_n 0, 31, 0, 0, 0, 0, .inl 0, []),
    (.iload_n 1, 32, 1, 0, 0, 0, .inl 0, []),
    (.iload_n 2, 33, 2, 0, 0, 0, .inl 0, []),
    (.invokevirtual 476, 36, 280, 3, 0, 11, .inl 0, [])]),
  (36, [(.ireturn, 37, 0, 0, 0, 0, .inl 0, [])])]
def gT_X12_slips : gs_T := ([], gB_X12_slips, [])
set_option maxRecDepth 100000 in
def gB_X12_isFrom : List (Nat × List gs_N) := [(0, [(.aload_n 0, 1, 0, 0, 0, 0, .inl 0, []),
    (.getfield 56, 4, 11, 25, 2, 1, .inl 0, []),
    (.iload_n 1, 5, 1, 0, 0, 0, .inl 0, []),
    (.iaload, 6, 0, 0, 0, 0, .inl 0, []),
    (.istore_n 3, 7, 3, 0, 0, 0, .inl 0, [])]),
  (7, [(.iload_n 3, 8, 3, 0, 0, 0, .inl 0, []),
    (.ifCond .lt 18, 11, 26, 0, 0, 0, .inl 0, []),
    (.iload_n 3, 12, 3, 0, 0, 0, .inl 0, []),
    (.iload_n 2, 13, 2, 0, 0, 0, .inl 0, []),
    (.if_icmp .eq 13, 16, 26, 0, 0, 0, .inl 0, []),
    (.aload_n 0, 17, 0, 0, 0, 0, .inl 0, []),
    (.getfield 56, 20, 11, 25, 2, 1, .inl 0, []),
    (.iload_n 3, 21, 3, 0, 0, 0, .inl 0, []),
    (.iaload, 22, 0, 0, 0, 0, .inl 0, []),
    (.istore_n 3, 23, 3, 0, 0, 0, .inl 0, []),
    (.goto (-16), 26, 7, 0, 0, 0, .inl 0, [])]),
  (26, [(.iload_n 3, 27, 3, 0, 0, 0, .inl 0, []),
    (.ifCond .lt 7, 30, 34, 0, 0, 0, .inl 0, []),
    (.iconst 1, 31, 0, 0, 0, 0, .inl 1, []),
    (.goto 4, 34, 35, 0, 0, 0, .inl 0, [])]),
  (34, [(.iconst 0, 35, 0, 0, 0, 0, .inl 0, [])]),
  (35, [(.ireturn, 36, 1, 0, 0, 0, .inl 0, [])])]
def gT_X12_isFrom : gs_T := ([], gB_X12_isFrom, [(7, [0, 2, 3])])
set_option maxRecDepth 100000 in
def gB_X12_from : List (Nat × List gs_N) := [(0, [(.aload_n 0, 1, 0, 0, 0, 0, .inl 0, []),
    (.iconst 0, 2, 0, 0, 0, 0, .inl 0, []),
    (.putfield 129, 5, 11, 2, 0, 0, .inl 0, []),
    (.iload_n 1, 6, 1, 0, 0, 0, .inl 0, []),
    (.iconst 0, 7, 0, 0, 0, 0, .inl 0, []),
    (.aload_n 0, 8, 0, 0, 0, 0, .inl 0, []),
    (.getfield 20, 11, 11, 12, 2, 1, .inl 0, []),
    (.iconst 2, 12, 0, 0, 0, 0, .inl 2, []),
    (.iaload, 13, 0, 0, 0, 0, .inl 0, []),
    (.iconst 1, 14, 0, 0, 0, 0, .inl 1, []),
    (.isub, 15, 0, 0, 0, 0, .inl 0, []),
    (.invokestatic 173, 18, 175, 3, 0, 1, .inl 0, []),
    (.ifCond .eq 19, 21, 37, 0, 0, 0, .inl 0, []),
    (.iload_n 2, 22, 2, 0, 0, 0, .inl 0, []),
    (.iconst 0, 23, 0, 0, 0, 0, .inl 0, []),
    (.aload_n 0, 24, 0, 0, 0, 0, .inl 0, []),
    (.getfield 20, 27, 11, 12, 2, 1, .inl 0, []),
    (.iconst 2, 28, 0, 0, 0, 0, .inl 2, []),
    (.iaload, 29, 0, 0, 0, 0, .inl 0, []),
    (.iconst 1, 30, 0, 0, 0, 0, .inl 1, []),
    (.isub, 31, 0, 0, 0, 0, .inl 0, []),
    (.invokestatic 173, 34, 175, 3, 0, 1, .inl 0, []),
    (.ifCond .ne 5, 37, 39, 0, 0, 0, .inl 0, [])]),
  (37, [(.iconst (-1), 38, 0, 0, 0, 0, .inl (-1), []),
    (.ireturn, 39, 0, 0, 0, 0, .inl 0, [])]),
  (39, [(.aload_n 0, 40, 0, 0, 0, 0, .inl 0, []),
    (.iload_n 1, 41, 1, 0, 0, 0, .inl 0, []),
    (.iload_n 2, 42, 2, 0, 0, 0, .inl 0, []),
    (.invokevirtual 479, 45, 282, 3, 0, 11, .inl 0, []),
    (.ifCond .eq 7, 48, 52, 0, 0, 0, .inl 0, []),
    (.iconst 1, 49, 0, 0, 0, 0, .inl 1, []),
    (.goto 4, 52, 53, 0, 0, 0, .inl 0, [])]),
  (52, [(.iconst 0, 53, 0, 0, 0, 0, .inl 0, [])]),
  (53, [(.ireturn, 54, 0, 0, 0, 0, .inl 0, [])])]
def gT_X12_from : gs_T := ([], gB_X12_from, [])
set_option maxRecDepth 100000 in
def gB_X12_copiedOf : List (Nat × List gs_N) := [(0, [(.iconst (-1), 1, 0, 0, 0, 0, .inl (-1), []),
    (.istore_n 2, 2, 2, 0, 0, 0, .inl 0, []),
    (.aload_n 0, 3, 0, 0, 0, 0, .inl 0, []),
    (.getfield 120, 6, 11, 58, 2, 1, .inl 0, []),
    (.iload_n 1, 7, 1, 0, 0, 0, .inl 0, []),
    (.iaload, 8, 0, 0, 0, 0, .inl 0, []),
    (.ifCond .lt 18, 11, 26, 0, 0, 0, .inl 0, []),
    (.aload_n 0, 12, 0, 0, 0, 0, .inl 0, []),
    (.getfield 59, 15, 11, 26, 2, 1, .inl 0, []),
    (.bipush 16, 17, 0, 0, 0, 0, .inl 16, []),
    (.iload_n 1, 18, 1, 0, 0, 0, .inl 0, []),
    (.imul, 19, 0, 0, 0, 0, .inl 0, []),
    (.bipush 12, 21, 0, 0, 0, 0, .inl 12, []),
    (.iadd, 22, 0, 0, 0, 0, .inl 0, []),
    (.iaload, 23, 0, 0, 0, 0, .inl 0, []),
    (.ifCond .ge 5, 26, 28, 0, 0, 0, .inl 0, [])]),
  (26, [(.iconst (-1), 27, 0, 0, 0, 0, .inl (-1), []),
    (.ireturn, 28, 0, 0, 0, 0, .inl 0, [])]),
  (28, [(.iconst 0, 29, 0, 0, 0, 0, .inl 0, []),
    (.istore_n 3, 30, 3, 0, 0, 0, .inl 0, [])]),
  (30, [(.iload_n 3, 31, 3, 0, 0, 0, .inl 0, []),
    (.aload_n 0, 32, 0, 0, 0, 0, .inl 0, []),
    (.getfield 20, 35, 11, 12, 2, 1, .inl 0, []),
    (.iconst 3, 36, 0, 0, 0, 0, .inl 3, []),
    (.iaload, 37, 0, 0, 0, 0, .inl 0, []),
    (.if_icmp .ge 100, 40, 137, 0, 0, 0, .inl 0, []),
    (.iload_n 3, 41, 3, 0, 0, 0, .inl 0, []),
    (.iload_n 1, 42, 1, 0, 0, 0, .inl 0, []),
    (.if_icmp .eq 89, 45, 131, 0, 0, 0, .inl 0, []),
    (.aload_n 0, 46, 0, 0, 0, 0, .inl 0, []),
    (.getfield 120, 49, 11, 58, 2, 1, .inl 0, []),
    (.iload_n 3, 50, 3, 0, 0, 0, .inl 0, []),
    (.iaload, 51, 0, 0, 0, 0, .inl 0, []),
    (.aload_n 0, 52, 0, 0, 0, 0, .inl 0, []),
    (.getfield 120, 55, 11, 58, 2, 1, .inl 0, []),
    (.iload_n 1, 56, 1, 0, 0, 0, .inl 0, []),
    (.iaload, 57, 0, 0, 0, 0, .inl 0, []),
    (.if_icmp .ne 74, 60, 131, 0, 0, 0, .inl 0, []),
    (.aload_n 0, 61, 0, 0, 0, 0, .inl 0, []),
    (.getfield 59, 64, 11, 26, 2, 1, .inl 0, []),
    (.bipush 16, 66, 0, 0, 0, 0, .inl 16, []),
    (.iload_n 3, 67, 3, 0, 0, 0, .inl 0, []),
    (.imul, 68, 0, 0, 0, 0, .inl 0, []),
    (.bipush 12, 70, 0, 0, 0, 0, .inl 12, []),
    (.iadd, 71, 0, 0, 0, 0, .inl 0, []),
    (.iaload, 72, 0, 0, 0, 0, .inl 0, []),
    (.ifCond .lt 59, 75, 131, 0, 0, 0, .inl 0, []),
    (.aload_n 0, 76, 0, 0, 0, 0, .inl 0, []),
    (.aload_n 0, 77, 0, 0, 0, 0, .inl 0, []),
    (.getfield 59, 80, 11, 26, 2, 1, .inl 0, []),
    (.bipush 16, 82, 0, 0, 0, 0, .inl 16, []),
    (.iload_n 1, 83, 1, 0, 0, 0, .inl 0, []),
    (.imul, 84, 0, 0, 0, 0, .inl 0, []),
    (.bipush 12, 86, 0, 0, 0, 0, .inl 12, []),
    (.iadd, 87, 0, 0, 0, 0, .inl 0, []),
    (.iaload, 88, 0, 0, 0, 0, .inl 0, []),
    (.aload_n 0, 89, 0, 0, 0, 0, .inl 0, []),
    (.getfield 59, 92, 11, 26, 2, 1, .inl 0, []),
    (.bipush 16, 94, 0, 0, 0, 0, .inl 16, []),
    (.iload_n 3, 95, 3, 0, 0, 0, .inl 0, []),
    (.imul, 96, 0, 0, 0, 0, .inl 0, []),
    (.bipush 12, 98, 0, 0, 0, 0, .inl 12, []),
    (.iadd, 99, 0, 0, 0, 0, .inl 0, []),
    (.iaload, 100, 0, 0, 0, 0, .inl 0, []),
    (.invokevirtual 479, 103, 282, 3, 0, 11, .inl 0, []),
    (.ifCond .ne 6, 106, 109, 0, 0, 0, .inl 0, []),
    (.goto 25, 109, 131, 0, 0, 0, .inl 0, [])]),
  (109, [(.iload_n 2, 110, 2, 0, 0, 0, .inl 0, []),
    (.iconst (-1), 111, 0, 0, 0, 0, .inl (-1), []),
    (.if_icmp .eq 18, 114, 129, 0, 0, 0, .inl 0, []),
    (.aload_n 0, 115, 0, 0, 0, 0, .inl 0, []),
    (.iload_n 1, 116, 1, 0, 0, 0, .inl 0, []),
    (.iload_n 3, 117, 3, 0, 0, 0, .inl 0, []),
    (.invokevirtual 476, 120, 280, 3, 0, 11, .inl 0, []),
    (.aload_n 0, 121, 0, 0, 0, 0, .inl 0, []),
    (.iload_n 1, 122, 1, 0, 0, 0, .inl 0, []),
    (.iload_n 2, 123, 2, 0, 0, 0, .inl 0, []),
    (.invokevirtual 476, 126, 280, 3, 0, 11, .inl 0, []),
    (.if_icmp .ge 5, 129, 131, 0, 0, 0, .inl 0, [])]),
  (129, [(.iload_n 3, 130, 3, 0, 0, 0, .inl 0, []),
    (.istore_n 2, 131, 2, 0, 0, 0, .inl 0, [])]),
  (131, [(.iinc 3 1, 134, 3, 0, 0, 0, .inl 1, []),
    (.goto (-104), 137, 30, 0, 0, 0, .inl 0, [])]),
  (137, [(.iload_n 2, 138, 2, 0, 0, 0, .inl 0, []),
    (.ireturn, 139, 0, 0, 0, 0, .inl 0, [])])]
def gT_X12_copiedOf : gs_T := ([], gB_X12_copiedOf, [(30, [0, 1, 2, 3])])
set_option maxRecDepth 100000 in
def gB_X12_copied : List (Nat × List gs_N) := [(0, [(.aload_n 0, 1, 0, 0, 0, 0, .inl 0, []),
    (.iconst 0, 2, 0, 0, 0, 0, .inl 0, []),
    (.putfield 129, 5, 11, 2, 0, 0, .inl 0, []),
    (.aload_n 0, 6, 0, 0, 0, 0, .inl 0, []),
    (.iload_n 1, 7, 1, 0, 0, 0, .inl 0, []),
    (.invokevirtual 344, 10, 228, 2, 0, 11, .inl 0, []),
    (.ifCond .ne 5, 13, 15, 0, 0, 0, .inl 0, []),
    (.iconst (-1), 14, 0, 0, 0, 0, .inl (-1), []),
    (.ireturn, 15, 0, 0, 0, 0, .inl 0, [])]),
  (15, [(.aload_n 0, 16, 0, 0, 0, 0, .inl 0, []),
    (.invokevirtual 473, 19, 277, 1, 2, 11, .inl 0, []),
    (.aload_n 0, 20, 0, 0, 0, 0, .inl 0, []),
    (.iload_n 1, 21, 1, 0, 0, 0, .inl 0, []),
    (.invokevirtual 482, 24, 284, 2, 0, 11, .inl 0, []),
    (.ireturn, 25, 0, 0, 0, 0, .inl 0, [])])]
def gT_X12_copied : gs_T := ([], gB_X12_copied, [])
set_option maxRecDepth 100000 in
def gB_X12_worth : List (Nat × List gs_N) := [(0, [(.aload_n 0, 1, 0, 0, 0, 0, .inl 0, []),
    (.iconst 0, 2, 0, 0, 0, 0, .inl 0, []),
    (.putfield 129, 5, 11, 2, 0, 0, .inl 0, []),
    (.aload_n 0, 6, 0, 0, 0, 0, .inl 0, []),
    (.iload_n 1, 7, 1, 0, 0, 0, .inl 0, []),
    (.invokevirtual 344, 10, 228, 2, 0, 11, .inl 0, []),
    (.ifCond .eq 12, 13, 22, 0, 0, 0, .inl 0, []),
    (.iload_n 2, 14, 2, 0, 0, 0, .inl 0, []),
    (.iconst 0, 15, 0, 0, 0, 0, .inl 0, []),
    (.iconst 1, 16, 0, 0, 0, 0, .inl 1, []),
    (.invokestatic 173, 19, 175, 3, 0, 1, .inl 0, []),
    (.ifCond .ne 7, 22, 26, 0, 0, 0, .inl 0, [])]),
  (22, [(.ldc2_w 355, 25, 0, 0, 0, 0, .inr (.inl (-1)), []),
    (.lreturn, 26, 0, 0, 0, 0, .inl 0, [])]),
  (26, [(.aload_n 0, 27, 0, 0, 0, 0, .inl 0, []),
    (.invokevirtual 473, 30, 277, 1, 2, 11, .inl 0, []),
    (.aload_n 0, 31, 0, 0, 0, 0, .inl 0, []),
    (.getfield 120, 34, 11, 58, 2, 1, .inl 0, []),
    (.iload_n 1, 35, 1, 0, 0, 0, .inl 0, []),
    (.iaload, 36, 0, 0, 0, 0, .inl 0, []),
    (.ifCond .ge 7, 39, 43, 0, 0, 0, .inl 0, []),
    (.ldc2_w 355, 42, 0, 0, 0, 0, .inr (.inl (-1)), []),
    (.lreturn, 43, 0, 0, 0, 0, .inl 0, [])]),
  (43, [(.lconst 1, 44, 0, 0, 0, 0, .inr (.inl 1), []),
    (.lstore_n 3, 45, 3, 0, 0, 0, .inl 0, []),
    (.lconst 1, 46, 0, 0, 0, 0, .inr (.inl 1), []),
    (.lstore 5, 48, 5, 0, 0, 0, .inl 0, []),
    (.iconst 0, 49, 0, 0, 0, 0, .inl 0, []),
    (.istore 7, 51, 7, 0, 0, 0, .inl 0, [])]),
  (51, [(.iload 7, 53, 7, 0, 0, 0, .inl 0, []),
    (.aload_n 0, 54, 0, 0, 0, 0, .inl 0, []),
    (.getfield 20, 57, 11, 12, 2, 1, .inl 0, []),
    (.iconst 3, 58, 0, 0, 0, 0, .inl 3, []),
    (.iaload, 59, 0, 0, 0, 0, .inl 0, []),
    (.if_icmp .ge 66, 62, 125, 0, 0, 0, .inl 0, []),
    (.aload_n 0, 63, 0, 0, 0, 0, .inl 0, []),
    (.getfield 120, 66, 11, 58, 2, 1, .inl 0, []),
    (.iload 7, 68, 7, 0, 0, 0, .inl 0, []),
    (.iaload, 69, 0, 0, 0, 0, .inl 0, []),
    (.aload_n 0, 70, 0, 0, 0, 0, .inl 0, []),
    (.getfield 120, 73, 11, 58, 2, 1, .inl 0, []),
    (.iload_n 1, 74, 1, 0, 0, 0, .inl 0, []),
    (.iaload, 75, 0, 0, 0, 0, .inl 0, []),
    (.if_icmp .ne 44, 78, 119, 0, 0, 0, .inl 0, []),
    (.aload_n 0, 79, 0, 0, 0, 0, .inl 0, []),
    (.iload 7, 81, 7, 0, 0, 0, .inl 0, []),
    (.invokevirtual 482, 84, 284, 2, 0, 11, .inl 0, []),
    (.ifCond .lt 6, 87, 90, 0, 0, 0, .inl 0, []),
    (.goto 32, 90, 119, 0, 0, 0, .inl 0, [])]),
  (90, [(.lload_n 3, 91, 3, 0, 0, 0, .inl 0, []),
    (.ldc2_w 485, 94, 0, 0, 0, 0, .inr (.inl 10), []),
    (.lmul, 95, 0, 0, 0, 0, .inl 0, []),
    (.lstore_n 3, 96, 3, 0, 0, 0, .inl 0, []),
    (.lload 5, 98, 5, 0, 0, 0, .inl 0, []),
    (.ldc2_w 485, 101, 0, 0, 0, 0, .inr (.inl 10), []),
    (.aload_n 0, 102, 0, 0, 0, 0, .inl 0, []),
    (.getfield 59, 105, 11, 26, 2, 1, .inl 0, []),
    (.bipush 16, 107, 0, 0, 0, 0, .inl 16, []),
    (.iload 7, 109, 7, 0, 0, 0, .inl 0, []),
    (.imul, 110, 0, 0, 0, 0, .inl 0, []),
    (.bipush 11, 112, 0, 0, 0, 0, .inl 11, []),
    (.iadd, 113, 0, 0, 0, 0, .inl 0, []),
    (.iaload, 114, 0, 0, 0, 0, .inl 0, []),
    (.i2l, 115, 0, 0, 0, 0, .inl 0, []),
    (.lsub, 116, 0, 0, 0, 0, .inl 0, []),
    (.lmul, 117, 0, 0, 0, 0, .inl 0, []),
    (.lstore 5, 119, 5, 0, 0, 0, .inl 0, [])]),
  (119, [(.iinc 7 1, 122, 7, 0, 0, 0, .inl 1, []),
    (.goto (-71), 125, 51, 0, 0, 0, .inl 0, [])]),
  (125, [(.lload_n 3, 126, 3, 0, 0, 0, .inl 0, []),
    (.lload 5, 128, 5, 0, 0, 0, .inl 0, []),
    (.lsub, 129, 0, 0, 0, 0, .inl 0, []),
    (.lload_n 3, 130, 3, 0, 0, 0, .inl 0, []),
    (.iload_n 2, 131, 2, 0, 0, 0, .inl 0, []),
    (.invokestatic 360, 134, 233, 3, 1, 1, .inl 0, []),
    (.lreturn, 135, 0, 0, 0, 0, .inl 0, [])])]
def gT_X12_worth : gs_T := ([], gB_X12_worth, [(51, [0, 1, 2, 3, 5, 7])])
set_option maxRecDepth 100000 in
def gB_X12_goers : List (Nat × List gs_N) := [(0, [(.iconst 0, 1, 0, 0, 0, 0, .inl 0, []),
    (.istore_n 2, 2, 2, 0, 0, 0, .inl 0, []),
    (.iconst 0, 3, 0, 0, 0, 0, .inl 0, []),
    (.istore_n 3, 4, 3, 0, 0, 0, .inl 0, [])]),
  (4, [(.iload_n 3, 5, 3, 0, 0, 0, .inl 0, []),
    (.aload_n 0, 6, 0, 0, 0, 0, .inl 0, []),
    (.getfield 20, 9, 11, 12, 2, 1, .inl 0, []),
    (.iconst 3, 10, 0, 0, 0, 0, .inl 3, []),
    (.iaload, 11, 0, 0, 0, 0, .inl 0, []),
    (.if_icmp .ge 36, 14, 47, 0, 0, 0, .inl 0, []),
    (.iload_n 2, 15, 2, 0, 0, 0, .inl 0, []),
    (.aload_n 0, 16, 0, 0, 0, 0, .inl 0, []),
    (.getfield 111, 19, 11, 55, 2, 1, .inl 0, []),
    (.bipush 10, 21, 0, 0, 0, 0, .inl 10, []),
    (.iload_n 3, 22, 3, 0, 0, 0, .inl 0, []),
    (.imul, 23, 0, 0, 0, 0, .inl 0, []),
    (.iload_n 1, 24, 1, 0, 0, 0, .inl 0, []),
    (.iadd, 25, 0, 0, 0, 0, .inl 0, []),
    (.iaload, 26, 0, 0, 0, 0, .inl 0, []),
    (.ldc_w 459, 29, 0, 0, 0, 0, .inl 100000, []),
    (.if_icmp .ge 9, 32, 38, 0, 0, 0, .inl 0, []),
    (.iconst 1, 33, 0, 0, 0, 0, .inl 1, []),
    (.iload_n 3, 34, 3, 0, 0, 0, .inl 0, []),
    (.ishl, 35, 0, 0, 0, 0, .inl 0, []),
    (.goto 4, 38, 39, 0, 0, 0, .inl 0, [])]),
  (38, [(.iconst 0, 39, 0, 0, 0, 0, .inl 0, [])]),
  (39, [(.ior, 40, 0, 0, 0, 0, .inl 0, []),
    (.istore_n 2, 41, 2, 0, 0, 0, .inl 0, []),
    (.iinc 3 1, 44, 3, 0, 0, 0, .inl 1, []),
    (.goto (-40), 47, 4, 0, 0, 0, .inl 0, [])]),
  (47, [(.iload_n 2, 48, 2, 0, 0, 0, .inl 0, []),
    (.ireturn, 49, 0, 0, 0, 0, .inl 0, [])])]
def gT_X12_goers : gs_T := ([], gB_X12_goers, [(4, [0, 1, 2, 3])])
set_option maxRecDepth 100000 in
def gB_X12_goesWith : List (Nat × List gs_N) := [(0, [(.iconst 0, 1, 0, 0, 0, 0, .inl 0, []),
    (.istore_n 2, 2, 2, 0, 0, 0, .inl 0, []),
    (.iconst 0, 3, 0, 0, 0, 0, .inl 0, []),
    (.istore_n 3, 4, 3, 0, 0, 0, .inl 0, [])]),
  (4, [(.iload_n 3, 5, 3, 0, 0, 0, .inl 0, []),
    (.aload_n 0, 6, 0, 0, 0, 0, .inl 0, []),
    (.getfield 20, 9, 11, 12, 2, 1, .inl 0, []),
    (.iconst 5, 10, 0, 0, 0, 0, .inl 5, []),
    (.iaload, 11, 0, 0, 0, 0, .inl 0, []),
    (.if_icmp .ge 34, 14, 45, 0, 0, 0, .inl 0, []),
    (.iload_n 2, 15, 2, 0, 0, 0, .inl 0, []),
    (.aload_n 0, 16, 0, 0, 0, 0, .inl 0, []),
    (.getfield 111, 19, 11, 55, 2, 1, .inl 0, []),
    (.bipush 10, 21, 0, 0, 0, 0, .inl 10, []),
    (.iload_n 1, 22, 1, 0, 0, 0, .inl 0, []),
    (.imul, 23, 0, 0, 0, 0, .inl 0, []),
    (.iload_n 3, 24, 3, 0, 0, 0, .inl 0, []),
    (.iadd, 25, 0, 0, 0, 0, .inl 0, []),
    (.iaload, 26, 0, 0, 0, 0, .inl 0, []),
    (.ldc_w 459, 29, 0, 0, 0, 0, .inl 100000, []),
    (.if_icmp .ge 7, 32, 36, 0, 0, 0, .inl 0, []),
    (.iconst 1, 33, 0, 0, 0, 0, .inl 1, []),
    (.goto 4, 36, 37, 0, 0, 0, .inl 0, [])]),
  (36, [(.iconst 0, 37, 0, 0, 0, 0, .inl 0, [])]),
  (37, [(.iadd, 38, 0, 0, 0, 0, .inl 0, []),
    (.istore_n 2, 39, 2, 0, 0, 0, .inl 0, []),
    (.iinc 3 1, 42, 3, 0, 0, 0, .inl 1, []),
    (.goto (-38), 45, 4, 0, 0, 0, .inl 0, [])]),
  (45, [(.iload_n 2, 46, 2, 0, 0, 0, .inl 0, []),
    (.ireturn, 47, 0, 0, 0, 0, .inl 0, [])])]
def gT_X12_goesWith : gs_T := ([], gB_X12_goesWith, [(4, [0, 1, 2, 3])])
set_option maxRecDepth 100000 in
def gB_X12_said : List (Nat × List gs_N) := [(0, [(.aload_n 0, 1, 0, 0, 0, 0, .inl 0, []),
    (.iconst 0, 2, 0, 0, 0, 0, .inl 0, []),
    (.putfield 129, 5, 11, 2, 0, 0, .inl 0, []),
    (.aload_n 0, 6, 0, 0, 0, 0, .inl 0, []),
    (.iload_n 1, 7, 1, 0, 0, 0, .inl 0, []),
    (.invokevirtual 431, 10, 229, 2, 0, 11, .inl 0, []),
    (.ifCond .ne 5, 13, 15, 0, 0, 0, .inl 0, []),
    (.iconst (-1), 14, 0, 0, 0, 0, .inl (-1), []),
    (.ireturn, 15, 0, 0, 0, 0, .inl 0, [])]),
  (15, [(.aload_n 0, 16, 0, 0, 0, 0, .inl 0, []),
    (.invokevirtual 464, 19, 270, 1, 2, 11, .inl 0, []),
    (.aload_n 0, 20, 0, 0, 0, 0, .inl 0, []),
    (.iload_n 1, 21, 1, 0, 0, 0, .inl 0, []),
    (.invokevirtual 487, 24, 287, 2, 0, 11, .inl 0, []),
    (.istore_n 2, 25, 2, 0, 0, 0, .inl 0, []),
    (.iload_n 2, 26, 2, 0, 0, 0, .inl 0, []),
    (.ifCond .ne 5, 29, 31, 0, 0, 0, .inl 0, []),
    (.iconst 0, 30, 0, 0, 0, 0, .inl 0, []),
    (.ireturn, 31, 0, 0, 0, 0, .inl 0, [])]),
  (31, [(.iconst (-1), 32, 0, 0, 0, 0, .inl (-1), []),
    (.istore_n 3, 33, 3, 0, 0, 0, .inl 0, []),
    (.iconst 0, 34, 0, 0, 0, 0, .inl 0, []),
    (.istore 4, 36, 4, 0, 0, 0, .inl 0, [])]),
  (36, [(.iload 4, 38, 4, 0, 0, 0, .inl 0, []),
    (.aload_n 0, 39, 0, 0, 0, 0, .inl 0, []),
    (.getfield 20, 42, 11, 12, 2, 1, .inl 0, []),
    (.iconst 3, 43, 0, 0, 0, 0, .inl 3, []),
    (.iaload, 44, 0, 0, 0, 0, .inl 0, []),
    (.if_icmp .ge 27, 47, 71, 0, 0, 0, .inl 0, []),
    (.aload_n 0, 48, 0, 0, 0, 0, .inl 0, []),
    (.getfield 117, 51, 11, 57, 2, 1, .inl 0, []),
    (.iload 4, 53, 4, 0, 0, 0, .inl 0, []),
    (.iaload, 54, 0, 0, 0, 0, .inl 0, []),
    (.iload_n 1, 55, 1, 0, 0, 0, .inl 0, []),
    (.if_icmp .ne 8, 58, 63, 0, 0, 0, .inl 0, []),
    (.iload 4, 60, 4, 0, 0, 0, .inl 0, []),
    (.goto 4, 63, 64, 0, 0, 0, .inl 0, [])]),
  (63, [(.iload_n 3, 64, 3, 0, 0, 0, .inl 0, [])]),
  (64, [(.istore_n 3, 65, 3, 0, 0, 0, .inl 0, []),
    (.iinc 4 1, 68, 4, 0, 0, 0, .inl 1, []),
    (.goto (-32), 71, 36, 0, 0, 0, .inl 0, [])]),
  (71, [(.iload_n 3, 72, 3, 0, 0, 0, .inl 0, []),
    (.ifCond .ge 5, 75, 77, 0, 0, 0, .inl 0, []),
    (.iconst 1, 76, 0, 0, 0, 0, .inl 1, []),
    (.ireturn, 77, 0, 0, 0, 0, .inl 0, [])]),
  (77, [(.iload_n 2, 78, 2, 0, 0, 0, .inl 0, []),
    (.invokestatic 393, 81, 249, 1, 0, 1, .inl 0, []),
    (.iconst 1, 82, 0, 0, 0, 0, .inl 1, []),
    (.if_icmp .le 7, 85, 89, 0, 0, 0, .inl 0, []),
    (.iconst 2, 86, 0, 0, 0, 0, .inl 2, []),
    (.goto 17, 89, 103, 0, 0, 0, .inl 0, [])]),
  (89, [(.aload_n 0, 90, 0, 0, 0, 0, .inl 0, []),
    (.iload_n 3, 91, 3, 0, 0, 0, .inl 0, []),
    (.invokevirtual 490, 94, 288, 2, 0, 11, .inl 0, []),
    (.iconst 1, 95, 0, 0, 0, 0, .inl 1, []),
    (.if_icmp .le 7, 98, 102, 0, 0, 0, .inl 0, []),
    (.iconst 3, 99, 0, 0, 0, 0, .inl 3, []),
    (.goto 4, 102, 103, 0, 0, 0, .inl 0, [])]),
  (102, [(.iconst 4, 103, 0, 0, 0, 0, .inl 4, [])]),
  (103, [(.ireturn, 104, 0, 0, 0, 0, .inl 0, [])])]
def gT_X12_said : gs_T := ([], gB_X12_said, [(36, [0, 1, 2, 3, 4])])
end
section
set_option maxRecDepth 100000 in
def gB_X12_shareOf : List (Nat × List gs_N) := [(0, [(.iconst 0, 1, 0, 0, 0, 0, .inl 0, []),
    (.istore_n 2, 2, 2, 0, 0, 0, .inl 0, []),
    (.iconst 0, 3, 0, 0, 0, 0, .inl 0, []),
    (.istore_n 3, 4, 3, 0, 0, 0, .inl 0, [])]),
  (4, [(.iload_n 3, 5, 3, 0, 0, 0, .inl 0, []),
    (.aload_n 0, 6, 0, 0, 0, 0, .inl 0, []),
    (.getfield 20, 9, 11, 12, 2, 1, .inl 0, []),
    (.bipush 7, 11, 0, 0, 0, 0, .inl 7, []),
    (.iaload, 12, 0, 0, 0, 0, .inl 0, []),
    (.if_icmp .ge 63, 15, 75, 0, 0, 0, .inl 0, []),
    (.iload_n 1, 16, 1, 0, 0, 0, .inl 0, []),
    (.aload_n 0, 17, 0, 0, 0, 0, .inl 0, []),
    (.getfield 77, 20, 11, 32, 2, 1, .inl 0, []),
    (.iconst 3, 21, 0, 0, 0, 0, .inl 3, []),
    (.iload_n 3, 22, 3, 0, 0, 0, .inl 0, []),
    (.imul, 23, 0, 0, 0, 0, .inl 0, []),
    (.iaload, 24, 0, 0, 0, 0, .inl 0, []),
    (.aload_n 0, 25, 0, 0, 0, 0, .inl 0, []),
    (.getfield 77, 28, 11, 32, 2, 1, .inl 0, []),
    (.iconst 3, 29, 0, 0, 0, 0, .inl 3, []),
    (.iload_n 3, 30, 3, 0, 0, 0, .inl 0, []),
    (.imul, 31, 0, 0, 0, 0, .inl 0, []),
    (.iconst 1, 32, 0, 0, 0, 0, .inl 1, []),
    (.iadd, 33, 0, 0, 0, 0, .inl 0, []),
    (.iaload, 34, 0, 0, 0, 0, .inl 0, []),
    (.invokestatic 173, 37, 175, 3, 0, 1, .inl 0, []),
    (.ifCond .eq 30, 40, 67, 0, 0, 0, .inl 0, []),
    (.aload_n 0, 41, 0, 0, 0, 0, .inl 0, []),
    (.getfield 77, 44, 11, 32, 2, 1, .inl 0, []),
    (.iconst 3, 45, 0, 0, 0, 0, .inl 3, []),
    (.iload_n 3, 46, 3, 0, 0, 0, .inl 0, []),
    (.imul, 47, 0, 0, 0, 0, .inl 0, []),
    (.iconst 2, 48, 0, 0, 0, 0, .inl 2, []),
    (.iadd, 49, 0, 0, 0, 0, .inl 0, []),
    (.iaload, 50, 0, 0, 0, 0, .inl 0, []),
    (.iload_n 2, 51, 2, 0, 0, 0, .inl 0, []),
    (.if_icmp .le 16, 54, 67, 0, 0, 0, .inl 0, []),
    (.aload_n 0, 55, 0, 0, 0, 0, .inl 0, []),
    (.getfield 77, 58, 11, 32, 2, 1, .inl 0, []),
    (.iconst 3, 59, 0, 0, 0, 0, .inl 3, []),
    (.iload_n 3, 60, 3, 0, 0, 0, .inl 0, []),
    (.imul, 61, 0, 0, 0, 0, .inl 0, []),
    (.iconst 2, 62, 0, 0, 0, 0, .inl 2, []),
    (.iadd, 63, 0, 0, 0, 0, .inl 0, []),
    (.iaload, 64, 0, 0, 0, 0, .inl 0, []),
    (.goto 4, 67, 68, 0, 0, 0, .inl 0, [])]),
  (67, [(.iload_n 2, 68, 2, 0, 0, 0, .inl 0, [])]),
  (68, [(.istore_n 2, 69, 2, 0, 0, 0, .inl 0, []),
    (.iinc 3 1, 72, 3, 0, 0, 0, .inl 1, []),
    (.goto (-68), 75, 4, 0, 0, 0, .inl 0, [])]),
  (75, [(.iload_n 2, 76, 2, 0, 0, 0, .inl 0, []),
    (.ireturn, 77, 0, 0, 0, 0, .inl 0, [])])]
def gT_X12_shareOf : gs_T := ([], gB_X12_shareOf, [(4, [0, 1, 2, 3])])
set_option maxRecDepth 100000 in
def gB_X12_share : List (Nat × List gs_N) := [(0, [(.aload_n 0, 1, 0, 0, 0, 0, .inl 0, []),
    (.iconst 0, 2, 0, 0, 0, 0, .inl 0, []),
    (.putfield 129, 5, 11, 2, 0, 0, .inl 0, []),
    (.iload_n 1, 6, 1, 0, 0, 0, .inl 0, []),
    (.iconst 0, 7, 0, 0, 0, 0, .inl 0, []),
    (.sipush 1999, 10, 0, 0, 0, 0, .inl 1999, []),
    (.invokestatic 173, 13, 175, 3, 0, 1, .inl 0, []),
    (.ifCond .eq 11, 16, 24, 0, 0, 0, .inl 0, []),
    (.aload_n 0, 17, 0, 0, 0, 0, .inl 0, []),
    (.iload_n 1, 18, 1, 0, 0, 0, .inl 0, []),
    (.invokevirtual 493, 21, 290, 2, 0, 11, .inl 0, []),
    (.goto 4, 24, 25, 0, 0, 0, .inl 0, [])]),
  (24, [(.iconst (-1), 25, 0, 0, 0, 0, .inl (-1), [])]),
  (25, [(.ireturn, 26, 0, 0, 0, 0, .inl 0, [])])]
def gT_X12_share : gs_T := ([], gB_X12_share, [])
set_option maxRecDepth 100000 in
def gB_X12_many : List (Nat × List gs_N) := [(0, [(.aload_n 0, 1, 0, 0, 0, 0, .inl 0, []),
    (.iconst 0, 2, 0, 0, 0, 0, .inl 0, []),
    (.putfield 129, 5, 11, 2, 0, 0, .inl 0, []),
    (.iload_n 1, 6, 1, 0, 0, 0, .inl 0, []),
    (.iconst (-1), 7, 0, 0, 0, 0, .inl (-1), []),
    (.if_icmp .lt 46, 10, 53, 0, 0, 0, .inl 0, []),
    (.iload_n 1, 11, 1, 0, 0, 0, .inl 0, []),
    (.aload_n 0, 12, 0, 0, 0, 0, .inl 0, []),
    (.getfield 20, 15, 11, 12, 2, 1, .inl 0, []),
    (.bipush 6, 17, 0, 0, 0, 0, .inl 6, []),
    (.iaload, 18, 0, 0, 0, 0, .inl 0, []),
    (.if_icmp .ge 35, 21, 53, 0, 0, 0, .inl 0, []),
    (.iload_n 2, 22, 2, 0, 0, 0, .inl 0, []),
    (.iconst 0, 23, 0, 0, 0, 0, .inl 0, []),
    (.sipush 1999, 26, 0, 0, 0, 0, .inl 1999, []),
    (.invokestatic 173, 29, 175, 3, 0, 1, .inl 0, []),
    (.ifCond .eq 24, 32, 53, 0, 0, 0, .inl 0, []),
    (.iload_n 3, 33, 3, 0, 0, 0, .inl 0, []),
    (.iload_n 2, 34, 2, 0, 0, 0, .inl 0, []),
    (.sipush 1999, 37, 0, 0, 0, 0, .inl 1999, []),
    (.invokestatic 173, 40, 175, 3, 0, 1, .inl 0, []),
    (.ifCond .eq 13, 43, 53, 0, 0, 0, .inl 0, []),
    (.iload 4, 45, 4, 0, 0, 0, .inl 0, []),
    (.iconst 0, 46, 0, 0, 0, 0, .inl 0, []),
    (.iconst 1, 47, 0, 0, 0, 0, .inl 1, []),
    (.invokestatic 173, 50, 175, 3, 0, 1, .inl 0, []),
    (.ifCond .ne 7, 53, 57, 0, 0, 0, .inl 0, [])]),
  (53, [(.ldc2_w 355, 56, 0, 0, 0, 0, .inr (.inl (-1)), []),
    (.lreturn, 57, 0, 0, 0, 0, .inl 0, [])]),
  (57, [(.aload_n 0, 58, 0, 0, 0, 0, .inl 0, []),
    (.invokevirtual 473, 61, 277, 1, 2, 11, .inl 0, []),
    (.lconst 0, 62, 0, 0, 0, 0, .inr (.inl 0), []),
    (.lstore 5, 64, 5, 0, 0, 0, .inl 0, []),
    (.iconst 0, 65, 0, 0, 0, 0, .inl 0, []),
    (.istore 7, 67, 7, 0, 0, 0, .inl 0, [])]),
  (67, [(.iload 7, 69, 7, 0, 0, 0, .inl 0, []),
    (.aload_n 0, 70, 0, 0, 0, 0, .inl 0, []),
    (.getfield 20, 73, 11, 12, 2, 1, .inl 0, []),
    (.iconst 3, 74, 0, 0, 0, 0, .inl 3, []),
    (.iaload, 75, 0, 0, 0, 0, .inl 0, []),
    (.if_icmp .ge 142, 78, 217, 0, 0, 0, .inl 0, []),
    (.iconst 0, 79, 0, 0, 0, 0, .inl 0, []),
    (.istore 8, 81, 8, 0, 0, 0, .inl 0, []),
    (.iconst 0, 82, 0, 0, 0, 0, .inl 0, []),
    (.istore 9, 84, 9, 0, 0, 0, .inl 0, [])]),
  (84, [(.iload 9, 86, 9, 0, 0, 0, .inl 0, []),
    (.aload_n 0, 87, 0, 0, 0, 0, .inl 0, []),
    (.getfield 20, 90, 11, 12, 2, 1, .inl 0, []),
    (.iconst 3, 91, 0, 0, 0, 0, .inl 3, []),
    (.iaload, 92, 0, 0, 0, 0, .inl 0, []),
    (.if_icmp .ge 104, 95, 196, 0, 0, 0, .inl 0, []),
    (.aload_n 0, 96, 0, 0, 0, 0, .inl 0, []),
    (.getfield 120, 99, 11, 58, 2, 1, .inl 0, []),
    (.iload 7, 101, 7, 0, 0, 0, .inl 0, []),
    (.iaload, 102, 0, 0, 0, 0, .inl 0, []),
    (.iload 7, 104, 7, 0, 0, 0, .inl 0, []),
    (.if_icmp .ne 92, 107, 196, 0, 0, 0, .inl 0, []),
    (.aload_n 0, 108, 0, 0, 0, 0, .inl 0, []),
    (.getfield 120, 111, 11, 58, 2, 1, .inl 0, []),
    (.iload 9, 113, 9, 0, 0, 0, .inl 0, []),
    (.iaload, 114, 0, 0, 0, 0, .inl 0, []),
    (.iload 7, 116, 7, 0, 0, 0, .inl 0, []),
    (.if_icmp .ne 74, 119, 190, 0, 0, 0, .inl 0, []),
    (.aload_n 0, 120, 0, 0, 0, 0, .inl 0, []),
    (.iload 9, 122, 9, 0, 0, 0, .inl 0, []),
    (.invokevirtual 377, 125, 237, 2, 0, 11, .inl 0, []),
    (.ifCond .ne 65, 128, 190, 0, 0, 0, .inl 0, []),
    (.iload_n 1, 129, 1, 0, 0, 0, .inl 0, []),
    (.ifCond .lt 16, 132, 145, 0, 0, 0, .inl 0, []),
    (.aload_n 0, 133, 0, 0, 0, 0, .inl 0, []),
    (.iload 9, 135, 9, 0, 0, 0, .inl 0, []),
    (.invokevirtual 347, 138, 227, 2, 0, 11, .inl 0, []),
    (.iload_n 1, 139, 1, 0, 0, 0, .inl 0, []),
    (.if_icmp .eq 6, 142, 145, 0, 0, 0, .inl 0, []),
    (.goto 48, 145, 190, 0, 0, 0, .inl 0, [])]),
  (145, [(.aload_n 0, 146, 0, 0, 0, 0, .inl 0, []),
    (.getfield 59, 149, 11, 26, 2, 1, .inl 0, []),
    (.bipush 16, 151, 0, 0, 0, 0, .inl 16, []),
    (.iload 9, 153, 9, 0, 0, 0, .inl 0, []),
    (.imul, 154, 0, 0, 0, 0, .inl 0, []),
    (.iconst 1, 155, 0, 0, 0, 0, .inl 1, []),
    (.iadd, 156, 0, 0, 0, 0, .inl 0, []),
    (.iaload, 157, 0, 0, 0, 0, .inl 0, []),
    (.istore 10, 159, 10, 0, 0, 0, .inl 0, []),
    (.iload 8, 161, 8, 0, 0, 0, .inl 0, []),
    (.ifCond .ne 22, 164, 183, 0, 0, 0, .inl 0, []),
    (.iload 10, 166, 10, 0, 0, 0, .inl 0, []),
    (.iload_n 2, 167, 2, 0, 0, 0, .inl 0, []),
    (.iload_n 3, 168, 3, 0, 0, 0, .inl 0, []),
    (.invokestatic 173, 171, 175, 3, 0, 1, .inl 0, []),
    (.ifCond .eq 16, 174, 187, 0, 0, 0, .inl 0, []),
    (.aload_n 0, 175, 0, 0, 0, 0, .inl 0, []),
    (.iload 10, 177, 10, 0, 0, 0, .inl 0, []),
    (.invokevirtual 493, 180, 290, 2, 0, 11, .inl 0, []),
    (.ifCond .le 7, 183, 187, 0, 0, 0, .inl 0, [])]),
  (183, [(.iconst 1, 184, 0, 0, 0, 0, .inl 1, []),
    (.goto 4, 187, 188, 0, 0, 0, .inl 0, [])]),
  (187, [(.iconst 0, 188, 0, 0, 0, 0, .inl 0, [])]),
  (188, [(.istore 8, 190, 8, 0, 0, 0, .inl 0, [])]),
  (190, [(.iinc 9 1, 193, 9, 0, 0, 0, .inl 1, []),
    (.goto (-109), 196, 84, 0, 0, 0, .inl 0, [])]),
  (196, [(.lload 5, 198, 5, 0, 0, 0, .inl 0, []),
    (.iload 8, 200, 8, 0, 0, 0, .inl 0, []),
    (.ifCond .eq 7, 203, 207, 0, 0, 0, .inl 0, []),
    (.lconst 1, 204, 0, 0, 0, 0, .inr (.inl 1), []),
    (.goto 4, 207, 208, 0, 0, 0, .inl 0, [])]),
  (207, [(.lconst 0, 208, 0, 0, 0, 0, .inr (.inl 0), [])]),
  (208, [(.ladd, 209, 0, 0, 0, 0, .inl 0, []),
    (.lstore 5, 211, 5, 0, 0, 0, .inl 0, []),
    (.iinc 7 1, 214, 7, 0, 0, 0, .inl 1, []),
    (.goto (-147), 217, 67, 0, 0, 0, .inl 0, [])]),
  (217, [(.lconst 0, 218, 0, 0, 0, 0, .inr (.inl 0), []),
    (.lstore 7, 220, 7, 0, 0, 0, .inl 0, []),
    (.iload_n 2, 221, 2, 0, 0, 0, .inl 0, []),
    (.istore 9, 223, 9, 0, 0, 0, .inl 0, [])]),
  (223, [(.iload 9, 225, 9, 0, 0, 0, .inl 0, []),
    (.iload_n 3, 226, 3, 0, 0, 0, .inl 0, []),
    (.if_icmp .gt 21, 229, 247, 0, 0, 0, .inl 0, []),
    (.lload 7, 231, 7, 0, 0, 0, .inl 0, []),
    (.aload_n 0, 232, 0, 0, 0, 0, .inl 0, []),
    (.iload 9, 234, 9, 0, 0, 0, .inl 0, []),
    (.invokevirtual 493, 237, 290, 2, 0, 11, .inl 0, []),
    (.i2l, 238, 0, 0, 0, 0, .inl 0, []),
    (.ladd, 239, 0, 0, 0, 0, .inl 0, []),
    (.lstore 7, 241, 7, 0, 0, 0, .inl 0, []),
    (.iinc 9 1, 244, 9, 0, 0, 0, .inl 1, []),
    (.goto (-21), 247, 223, 0, 0, 0, .inl 0, [])]),
  (247, [(.lload 5, 249, 5, 0, 0, 0, .inl 0, []),
    (.ldc2_w 485, 252, 0, 0, 0, 0, .inr (.inl 10), []),
    (.lmul, 253, 0, 0, 0, 0, .inl 0, []),
    (.iload_n 3, 254, 3, 0, 0, 0, .inl 0, []),
    (.iload_n 2, 255, 2, 0, 0, 0, .inl 0, []),
    (.isub, 256, 0, 0, 0, 0, .inl 0, []),
    (.iconst 1, 257, 0, 0, 0, 0, .inl 1, []),
    (.iadd, 258, 0, 0, 0, 0, .inl 0, []),
    (.i2l, 259, 0, 0, 0, 0, .inl 0, []),
    (.lmul, 260, 0, 0, 0, 0, .inl 0, []),
    (.lload 7, 262, 7, 0, 0, 0, .inl 0, []),
    (.iload 4, 264, 4, 0, 0, 0, .inl 0, []),
    (.invokestatic 360, 267, 233, 3, 1, 1, .inl 0, []),
    (.lreturn, 268, 0, 0, 0, 0, .inl 0, [])])]
def gT_X12_many : gs_T := ([], gB_X12_many, [(67, [0, 1, 2, 3, 4, 5, 7]), (84, [0, 1, 2, 3, 4, 5, 7, 8, 9]), (223, [0, 2, 3, 4, 5, 7, 9])])
set_option maxRecDepth 100000 in
def gB_X12_sunOf : List (Nat × List gs_N) := [(0, [(.iload_n 0, 1, 0, 0, 0, 0, .inl 0, []),
    (.sipush 354, 4, 0, 0, 0, 0, .inl 354, []),
    (.irem, 5, 0, 0, 0, 0, .inl 0, []),
    (.bipush 120, 7, 0, 0, 0, 0, .inl 120, []),
    (.imul, 8, 0, 0, 0, 0, .inl 0, []),
    (.sipush 354, 11, 0, 0, 0, 0, .inl 354, []),
    (.idiv, 12, 0, 0, 0, 0, .inl 0, []),
    (.ireturn, 13, 0, 0, 0, 0, .inl 0, [])])]
def gT_X12_sunOf : gs_T := ([], gB_X12_sunOf, [])
set_option maxRecDepth 100000 in
def gB_X12_seenOf : List (Nat × List gs_N) := [(0, [(.iconst 0, 1, 0, 0, 0, 0, .inl 0, []),
    (.istore_n 1, 2, 1, 0, 0, 0, .inl 0, []),
    (.iconst 1, 3, 0, 0, 0, 0, .inl 1, []),
    (.istore_n 2, 4, 2, 0, 0, 0, .inl 0, [])]),
  (4, [(.iload_n 2, 5, 2, 0, 0, 0, .inl 0, []),
    (.bipush 13, 7, 0, 0, 0, 0, .inl 13, []),
    (.if_icmp .ge 41, 10, 48, 0, 0, 0, .inl 0, []),
    (.iload_n 1, 11, 1, 0, 0, 0, .inl 0, []),
    (.iload_n 0, 12, 0, 0, 0, 0, .inl 0, []),
    (.iconst 0, 13, 0, 0, 0, 0, .inl 0, []),
    (.iload_n 2, 14, 2, 0, 0, 0, .inl 0, []),
    (.invokestatic 374, 17, 241, 2, 0, 1, .inl 0, []),
    (.bipush 14, 19, 0, 0, 0, 0, .inl 14, []),
    (.iadd, 20, 0, 0, 0, 0, .inl 0, []),
    (.invokestatic 496, 23, 293, 1, 0, 1, .inl 0, []),
    (.invokestatic 411, 26, 256, 2, 0, 1, .inl 0, []),
    (.bipush 10, 28, 0, 0, 0, 0, .inl 10, []),
    (.if_icmp .le 11, 31, 39, 0, 0, 0, .inl 0, []),
    (.iconst 1, 32, 0, 0, 0, 0, .inl 1, []),
    (.iload_n 2, 33, 2, 0, 0, 0, .inl 0, []),
    (.iconst 1, 34, 0, 0, 0, 0, .inl 1, []),
    (.isub, 35, 0, 0, 0, 0, .inl 0, []),
    (.ishl, 36, 0, 0, 0, 0, .inl 0, []),
    (.goto 4, 39, 40, 0, 0, 0, .inl 0, [])]),
  (39, [(.iconst 0, 40, 0, 0, 0, 0, .inl 0, [])]),
  (40, [(.ior, 41, 0, 0, 0, 0, .inl 0, []),
    (.istore_n 1, 42, 1, 0, 0, 0, .inl 0, []),
    (.iinc 2 1, 45, 2, 0, 0, 0, .inl 1, []),
    (.goto (-41), 48, 4, 0, 0, 0, .inl 0, [])]),
  (48, [(.iload_n 1, 49, 1, 0, 0, 0, .inl 0, []),
    (.ireturn, 50, 0, 0, 0, 0, .inl 0, [])])]
def gT_X12_seenOf : gs_T := ([], gB_X12_seenOf, [(4, [0, 1, 2])])
set_option maxRecDepth 100000 in
def gB_X12_untold : List (Nat × List gs_N) := [(0, [(.aload_n 0, 1, 0, 0, 0, 0, .inl 0, []),
    (.iconst 0, 2, 0, 0, 0, 0, .inl 0, []),
    (.putfield 129, 5, 11, 2, 0, 0, .inl 0, []),
    (.aload_n 0, 6, 0, 0, 0, 0, .inl 0, []),
    (.iload_n 1, 7, 1, 0, 0, 0, .inl 0, []),
    (.invokevirtual 431, 10, 229, 2, 0, 11, .inl 0, []),
    (.ifCond .eq 12, 13, 22, 0, 0, 0, .inl 0, []),
    (.iload_n 2, 14, 2, 0, 0, 0, .inl 0, []),
    (.iconst 0, 15, 0, 0, 0, 0, .inl 0, []),
    (.iconst 1, 16, 0, 0, 0, 0, .inl 1, []),
    (.invokestatic 173, 19, 175, 3, 0, 1, .inl 0, []),
    (.ifCond .ne 7, 22, 26, 0, 0, 0, .inl 0, [])]),
  (22, [(.ldc2_w 355, 25, 0, 0, 0, 0, .inr (.inl (-1)), []),
    (.lreturn, 26, 0, 0, 0, 0, .inl 0, [])]),
  (26, [(.aload_n 0, 27, 0, 0, 0, 0, .inl 0, []),
    (.iload_n 1, 28, 1, 0, 0, 0, .inl 0, []),
    (.invokevirtual 435, 31, 261, 2, 2, 11, .inl 0, []),
    (.aload_n 0, 32, 0, 0, 0, 0, .inl 0, []),
    (.getfield 62, 35, 11, 27, 2, 1, .inl 0, []),
    (.bipush 9, 37, 0, 0, 0, 0, .inl 9, []),
    (.iload_n 1, 38, 1, 0, 0, 0, .inl 0, []),
    (.imul, 39, 0, 0, 0, 0, .inl 0, []),
    (.iaload, 40, 0, 0, 0, 0, .inl 0, []),
    (.invokestatic 499, 43, 294, 1, 0, 1, .inl 0, []),
    (.invokestatic 393, 46, 249, 1, 0, 1, .inl 0, []),
    (.i2l, 47, 0, 0, 0, 0, .inl 0, []),
    (.lstore_n 3, 48, 3, 0, 0, 0, .inl 0, []),
    (.lconst 0, 49, 0, 0, 0, 0, .inr (.inl 0), []),
    (.lstore 5, 51, 5, 0, 0, 0, .inl 0, []),
    (.lconst 0, 52, 0, 0, 0, 0, .inr (.inl 0), []),
    (.lstore 7, 54, 7, 0, 0, 0, .inl 0, []),
    (.aload_n 0, 55, 0, 0, 0, 0, .inl 0, []),
    (.getfield 421, 58, 11, 49, 0, 0, .inl 0, []),
    (.ifCond .le 10, 61, 68, 0, 0, 0, .inl 0, []),
    (.aload_n 0, 62, 0, 0, 0, 0, .inl 0, []),
    (.getfield 421, 65, 11, 49, 0, 0, .inl 0, []),
    (.goto 4, 68, 69, 0, 0, 0, .inl 0, [])]),
  (68, [(.iconst 0, 69, 0, 0, 0, 0, .inl 0, [])]),
  (69, [(.istore 9, 71, 9, 0, 0, 0, .inl 0, [])]),
  (71, [(.iload 9, 73, 9, 0, 0, 0, .inl 0, []),
    (.aload_n 0, 74, 0, 0, 0, 0, .inl 0, []),
    (.getfield 424, 77, 11, 50, 0, 0, .inl 0, []),
    (.if_icmp .gt 43, 80, 120, 0, 0, 0, .inl 0, []),
    (.iload 9, 82, 9, 0, 0, 0, .inl 0, []),
    (.sipush 2000, 85, 0, 0, 0, 0, .inl 2000, []),
    (.if_icmp .ge 35, 88, 120, 0, 0, 0, .inl 0, []),
    (.lload 5, 90, 5, 0, 0, 0, .inl 0, []),
    (.ldc2_w 502, 93, 0, 0, 0, 0, .inr (.inl 120), []),
    (.aload_n 0, 94, 0, 0, 0, 0, .inl 0, []),
    (.iload 9, 96, 9, 0, 0, 0, .inl 0, []),
    (.invokevirtual 493, 99, 290, 2, 0, 11, .inl 0, []),
    (.i2l, 100, 0, 0, 0, 0, .inl 0, []),
    (.lload_n 3, 101, 3, 0, 0, 0, .inl 0, []),
    (.lmul, 102, 0, 0, 0, 0, .inl 0, []),
    (.lsub, 103, 0, 0, 0, 0, .inl 0, []),
    (.ladd, 104, 0, 0, 0, 0, .inl 0, []),
    (.lstore 5, 106, 5, 0, 0, 0, .inl 0, []),
    (.lload 7, 108, 7, 0, 0, 0, .inl 0, []),
    (.ldc2_w 502, 111, 0, 0, 0, 0, .inr (.inl 120), []),
    (.ladd, 112, 0, 0, 0, 0, .inl 0, []),
    (.lstore 7, 114, 7, 0, 0, 0, .inl 0, []),
    (.iinc 9 1, 117, 9, 0, 0, 0, .inl 1, []),
    (.goto (-46), 120, 71, 0, 0, 0, .inl 0, [])]),
  (120, [(.lload 5, 122, 5, 0, 0, 0, .inl 0, []),
    (.lload 7, 124, 7, 0, 0, 0, .inl 0, []),
    (.iload_n 2, 125, 2, 0, 0, 0, .inl 0, []),
    (.invokestatic 360, 128, 233, 3, 1, 1, .inl 0, []),
    (.lreturn, 129, 0, 0, 0, 0, .inl 0, [])])]
def gT_X12_untold : gs_T := ([], gB_X12_untold, [(71, [0, 2, 3, 5, 7, 9])])
set_option maxRecDepth 100000 in
def gB_X12_next : List (Nat × List gs_N) := [(0, [(.aload_n 0, 1, 0, 0, 0, 0, .inl 0, []),
    (.iconst 0, 2, 0, 0, 0, 0, .inl 0, []),
    (.putfield 129, 5, 11, 2, 0, 0, .inl 0, []),
    (.iload_n 1, 6, 1, 0, 0, 0, .inl 0, []),
    (.iconst 0, 7, 0, 0, 0, 0, .inl 0, []),
    (.sipush 2999, 10, 0, 0, 0, 0, .inl 2999, []),
    (.invokestatic 173, 13, 175, 3, 0, 1, .inl 0, []),
    (.ifCond .eq 12, 16, 25, 0, 0, 0, .inl 0, []),
    (.iload_n 2, 17, 2, 0, 0, 0, .inl 0, []),
    (.iconst 0, 18, 0, 0, 0, 0, .inl 0, []),
    (.iconst 1, 19, 0, 0, 0, 0, .inl 1, []),
    (.invokestatic 173, 22, 175, 3, 0, 1, .inl 0, []),
    (.ifCond .ne 5, 25, 27, 0, 0, 0, .inl 0, [])]),
  (25, [(.iconst (-1), 26, 0, 0, 0, 0, .inl (-1), []),
    (.ireturn, 27, 0, 0, 0, 0, .inl 0, [])]),
  (27, [(.iconst (-1), 28, 0, 0, 0, 0, .inl (-1), []),
    (.istore_n 3, 29, 3, 0, 0, 0, .inl 0, []),
    (.iconst 0, 30, 0, 0, 0, 0, .inl 0, []),
    (.istore 4, 32, 4, 0, 0, 0, .inl 0, []),
    (.iconst 0, 33, 0, 0, 0, 0, .inl 0, []),
    (.istore 5, 35, 5, 0, 0, 0, .inl 0, [])]),
  (35, [(.iload 5, 37, 5, 0, 0, 0, .inl 0, []),
    (.aload_n 0, 38, 0, 0, 0, 0, .inl 0, []),
    (.getfield 20, 41, 11, 12, 2, 1, .inl 0, []),
    (.iconst 5, 42, 0, 0, 0, 0, .inl 5, []),
    (.iaload, 43, 0, 0, 0, 0, .inl 0, []),
    (.if_icmp .ge 168, 46, 211, 0, 0, 0, .inl 0, []),
    (.bipush 9, 48, 0, 0, 0, 0, .inl 9, []),
    (.iload 5, 50, 5, 0, 0, 0, .inl 0, []),
    (.imul, 51, 0, 0, 0, 0, .inl 0, []),
    (.istore 6, 53, 6, 0, 0, 0, .inl 0, []),
    (.aload_n 0, 54, 0, 0, 0, 0, .inl 0, []),
    (.getfield 62, 57, 11, 27, 2, 1, .inl 0, []),
    (.iload 6, 59, 6, 0, 0, 0, .inl 0, []),
    (.iconst 4, 60, 0, 0, 0, 0, .inl 4, []),
    (.iadd, 61, 0, 0, 0, 0, .inl 0, []),
    (.iaload, 62, 0, 0, 0, 0, .inl 0, []),
    (.istore 7, 64, 7, 0, 0, 0, .inl 0, []),
    (.iload 7, 66, 7, 0, 0, 0, .inl 0, []),
    (.iload_n 1, 67, 1, 0, 0, 0, .inl 0, []),
    (.if_icmp .lt 6, 70, 73, 0, 0, 0, .inl 0, []),
    (.goto 135, 73, 205, 0, 0, 0, .inl 0, [])]),
  (73, [(.aload_n 0, 74, 0, 0, 0, 0, .inl 0, []),
    (.iload 5, 76, 5, 0, 0, 0, .inl 0, []),
    (.invokevirtual 435, 79, 261, 2, 2, 11, .inl 0, []),
    (.aload_n 0, 80, 0, 0, 0, 0, .inl 0, []),
    (.getfield 424, 83, 11, 50, 0, 0, .inl 0, []),
    (.aload_n 0, 84, 0, 0, 0, 0, .inl 0, []),
    (.getfield 421, 87, 11, 49, 0, 0, .inl 0, []),
    (.isub, 88, 0, 0, 0, 0, .inl 0, []),
    (.istore 8, 90, 8, 0, 0, 0, .inl 0, []),
    (.aload_n 0, 91, 0, 0, 0, 0, .inl 0, []),
    (.getfield 62, 94, 11, 27, 2, 1, .inl 0, []),
    (.iload 6, 96, 6, 0, 0, 0, .inl 0, []),
    (.iconst 5, 97, 0, 0, 0, 0, .inl 5, []),
    (.iadd, 98, 0, 0, 0, 0, .inl 0, []),
    (.iaload, 99, 0, 0, 0, 0, .inl 0, []),
    (.aload_n 0, 100, 0, 0, 0, 0, .inl 0, []),
    (.getfield 62, 103, 11, 27, 2, 1, .inl 0, []),
    (.iload 6, 105, 6, 0, 0, 0, .inl 0, []),
    (.iconst 5, 106, 0, 0, 0, 0, .inl 5, []),
    (.iadd, 107, 0, 0, 0, 0, .inl 0, []),
    (.iaload, 108, 0, 0, 0, 0, .inl 0, []),
    (.aload_n 0, 109, 0, 0, 0, 0, .inl 0, []),
    (.getfield 62, 112, 11, 27, 2, 1, .inl 0, []),
    (.iload 6, 114, 6, 0, 0, 0, .inl 0, []),
    (.iconst 3, 115, 0, 0, 0, 0, .inl 3, []),
    (.iadd, 116, 0, 0, 0, 0, .inl 0, []),
    (.iaload, 117, 0, 0, 0, 0, .inl 0, []),
    (.isub, 118, 0, 0, 0, 0, .inl 0, []),
    (.iload_n 1, 119, 1, 0, 0, 0, .inl 0, []),
    (.iload 7, 121, 7, 0, 0, 0, .inl 0, []),
    (.isub, 122, 0, 0, 0, 0, .inl 0, []),
    (.imul, 123, 0, 0, 0, 0, .inl 0, []),
    (.iload 7, 125, 7, 0, 0, 0, .inl 0, []),
    (.aload_n 0, 126, 0, 0, 0, 0, .inl 0, []),
    (.getfield 62, 129, 11, 27, 2, 1, .inl 0, []),
    (.iload 6, 131, 6, 0, 0, 0, .inl 0, []),
    (.iconst 2, 132, 0, 0, 0, 0, .inl 2, []),
    (.iadd, 133, 0, 0, 0, 0, .inl 0, []),
    (.iaload, 134, 0, 0, 0, 0, .inl 0, []),
    (.isub, 135, 0, 0, 0, 0, .inl 0, []),
    (.idiv, 136, 0, 0, 0, 0, .inl 0, []),
    (.iadd, 137, 0, 0, 0, 0, .inl 0, []),
    (.istore 9, 139, 9, 0, 0, 0, .inl 0, []),
    (.aload_n 0, 140, 0, 0, 0, 0, .inl 0, []),
    (.aload_n 0, 141, 0, 0, 0, 0, .inl 0, []),
    (.getfield 62, 144, 11, 27, 2, 1, .inl 0, []),
    (.iload 6, 146, 6, 0, 0, 0, .inl 0, []),
    (.iconst 2, 147, 0, 0, 0, 0, .inl 2, []),
    (.iadd, 148, 0, 0, 0, 0, .inl 0, []),
    (.iaload, 149, 0, 0, 0, 0, .inl 0, []),
    (.aload_n 0, 150, 0, 0, 0, 0, .inl 0, []),
    (.getfield 62, 153, 11, 27, 2, 1, .inl 0, []),
    (.iload 6, 155, 6, 0, 0, 0, .inl 0, []),
    (.iconst 3, 156, 0, 0, 0, 0, .inl 3, []),
    (.iadd, 157, 0, 0, 0, 0, .inl 0, []),
    (.iaload, 158, 0, 0, 0, 0, .inl 0, []),
    (.iload_n 1, 159, 1, 0, 0, 0, .inl 0, []),
    (.iload 9, 161, 9, 0, 0, 0, .inl 0, []),
    (.aload_n 0, 162, 0, 0, 0, 0, .inl 0, []),
    (.getfield 62, 165, 11, 27, 2, 1, .inl 0, []),
    (.iload 6, 167, 6, 0, 0, 0, .inl 0, []),
    (.bipush 6, 169, 0, 0, 0, 0, .inl 6, []),
    (.iadd, 170, 0, 0, 0, 0, .inl 0, []),
    (.iaload, 171, 0, 0, 0, 0, .inl 0, []),
    (.invokevirtual 427, 174, 260, 6, 2, 11, .inl 0, []),
    (.iload 8, 176, 8, 0, 0, 0, .inl 0, []),
    (.aload_n 0, 177, 0, 0, 0, 0, .inl 0, []),
    (.getfield 424, 180, 11, 50, 0, 0, .inl 0, []),
    (.aload_n 0, 181, 0, 0, 0, 0, .inl 0, []),
    (.getfield 421, 184, 11, 49, 0, 0, .inl 0, []),
    (.isub, 185, 0, 0, 0, 0, .inl 0, []),
    (.isub, 186, 0, 0, 0, 0, .inl 0, []),
    (.istore 10, 188, 10, 0, 0, 0, .inl 0, []),
    (.iload 10, 190, 10, 0, 0, 0, .inl 0, []),
    (.iload 4, 192, 4, 0, 0, 0, .inl 0, []),
    (.if_icmp .gt 6, 195, 198, 0, 0, 0, .inl 0, []),
    (.goto 10, 198, 205, 0, 0, 0, .inl 0, [])]),
  (198, [(.iload 5, 200, 5, 0, 0, 0, .inl 0, []),
    (.istore_n 3, 201, 3, 0, 0, 0, .inl 0, []),
    (.iload 10, 203, 10, 0, 0, 0, .inl 0, []),
    (.istore 4, 205, 4, 0, 0, 0, .inl 0, [])]),
  (205, [(.iinc 5 1, 208, 5, 0, 0, 0, .inl 1, []),
    (.goto (-173), 211, 35, 0, 0, 0, .inl 0, [])]),
  (211, [(.iload_n 2, 212, 2, 0, 0, 0, .inl 0, []),
    (.ifCond .eq 7, 215, 219, 0, 0, 0, .inl 0, []),
    (.iload_n 3, 216, 3, 0, 0, 0, .inl 0, []),
    (.ifCond .ge 7, 219, 223, 0, 0, 0, .inl 0, [])]),
  (219, [(.iload_n 3, 220, 3, 0, 0, 0, .inl 0, []),
    (.goto 5, 223, 225, 0, 0, 0, .inl 0, [])]),
  (223, [(.iload 4, 225, 4, 0, 0, 0, .inl 0, [])]),
  (225, [(.ireturn, 226, 0, 0, 0, 0, .inl 0, [])])]
def gT_X12_next : gs_T := ([], gB_X12_next, [(35, [0, 1, 2, 3, 4, 5])])
set_option maxRecDepth 100000 in
def gB_X12_chanceFor : List (Nat × List gs_N) := [(0, [(.iconst 2, 1, 0, 0, 0, 0, .inl 2, []),
    (.iload_n 2, 2, 2, 0, 0, 0, .inl 0, []),
    (.imul, 3, 0, 0, 0, 0, .inl 0, []),
    (.iconst 1, 4, 0, 0, 0, 0, .inl 1, []),
    (.iadd, 5, 0, 0, 0, 0, .inl 0, []),
    (.bipush 120, 7, 0, 0, 0, 0, .inl 120, []),
    (.if_icmp .ge 11, 10, 18, 0, 0, 0, .inl 0, []),
    (.iconst 2, 11, 0, 0, 0, 0, .inl 2, []),
    (.iload_n 2, 12, 2, 0, 0, 0, .inl 0, []),
    (.imul, 13, 0, 0, 0, 0, .inl 0, []),
    (.iconst 1, 14, 0, 0, 0, 0, .inl 1, []),
    (.iadd, 15, 0, 0, 0, 0, .inl 0, []),
    (.goto 5, 18, 20, 0, 0, 0, .inl 0, [])]),
  (18, [(.bipush 120, 20, 0, 0, 0, 0, .inl 120, [])]),
  (20, [(.istore_n 3, 21, 3, 0, 0, 0, .inl 0, []),
    (.aload_n 0, 22, 0, 0, 0, 0, .inl 0, []),
    (.getfield 62, 25, 11, 27, 2, 1, .inl 0, []),
    (.bipush 9, 27, 0, 0, 0, 0, .inl 9, []),
    (.iload_n 1, 28, 1, 0, 0, 0, .inl 0, []),
    (.imul, 29, 0, 0, 0, 0, .inl 0, []),
    (.iconst 1, 30, 0, 0, 0, 0, .inl 1, []),
    (.iadd, 31, 0, 0, 0, 0, .inl 0, []),
    (.iaload, 32, 0, 0, 0, 0, .inl 0, []),
    (.iload_n 2, 33, 2, 0, 0, 0, .inl 0, []),
    (.if_icmp .le 19, 36, 52, 0, 0, 0, .inl 0, []),
    (.aload_n 0, 37, 0, 0, 0, 0, .inl 0, []),
    (.getfield 62, 40, 11, 27, 2, 1, .inl 0, []),
    (.bipush 9, 42, 0, 0, 0, 0, .inl 9, []),
    (.iload_n 1, 43, 1, 0, 0, 0, .inl 0, []),
    (.imul, 44, 0, 0, 0, 0, .inl 0, []),
    (.iconst 1, 45, 0, 0, 0, 0, .inl 1, []),
    (.iadd, 46, 0, 0, 0, 0, .inl 0, []),
    (.iaload, 47, 0, 0, 0, 0, .inl 0, []),
    (.iload_n 2, 48, 2, 0, 0, 0, .inl 0, []),
    (.isub, 49, 0, 0, 0, 0, .inl 0, []),
    (.goto 4, 52, 53, 0, 0, 0, .inl 0, [])]),
  (52, [(.iconst 0, 53, 0, 0, 0, 0, .inl 0, [])]),
  (53, [(.istore 4, 55, 4, 0, 0, 0, .inl 0, []),
    (.aload_n 0, 56, 0, 0, 0, 0, .inl 0, []),
    (.getfield 62, 59, 11, 27, 2, 1, .inl 0, []),
    (.bipush 9, 61, 0, 0, 0, 0, .inl 9, []),
    (.iload_n 1, 62, 1, 0, 0, 0, .inl 0, []),
    (.imul, 63, 0, 0, 0, 0, .inl 0, []),
    (.iconst 1, 64, 0, 0, 0, 0, .inl 1, []),
    (.iadd, 65, 0, 0, 0, 0, .inl 0, []),
    (.iaload, 66, 0, 0, 0, 0, .inl 0, []),
    (.iload_n 2, 67, 2, 0, 0, 0, .inl 0, []),
    (.iadd, 68, 0, 0, 0, 0, .inl 0, []),
    (.bipush 59, 70, 0, 0, 0, 0, .inl 59, []),
    (.if_icmp .ge 19, 73, 89, 0, 0, 0, .inl 0, []),
    (.aload_n 0, 74, 0, 0, 0, 0, .inl 0, []),
    (.getfield 62, 77, 11, 27, 2, 1, .inl 0, []),
    (.bipush 9, 79, 0, 0, 0, 0, .inl 9, []),
    (.iload_n 1, 80, 1, 0, 0, 0, .inl 0, []),
    (.imul, 81, 0, 0, 0, 0, .inl 0, []),
    (.iconst 1, 82, 0, 0, 0, 0, .inl 1, []),
    (.iadd, 83, 0, 0, 0, 0, .inl 0, []),
    (.iaload, 84, 0, 0, 0, 0, .inl 0, []),
    (.iload_n 2, 85, 2, 0, 0, 0, .inl 0, []),
    (.iadd, 86, 0, 0, 0, 0, .inl 0, []),
    (.goto 5, 89, 91, 0, 0, 0, .inl 0, [])]),
  (89, [(.bipush 59, 91, 0, 0, 0, 0, .inl 59, [])]),
  (91, [(.istore 5, 93, 5, 0, 0, 0, .inl 0, []),
    (.iload_n 3, 94, 3, 0, 0, 0, .inl 0, []),
    (.iload 5, 96, 5, 0, 0, 0, .inl 0, []),
    (.iload 4, 98, 4, 0, 0, 0, .inl 0, []),
    (.isub, 99, 0, 0, 0, 0, .inl 0, []),
    (.iconst 1, 100, 0, 0, 0, 0, .inl 1, []),
    (.iadd, 101, 0, 0, 0, 0, .inl 0, []),
    (.imul, 102, 0, 0, 0, 0, .inl 0, []),
    (.ireturn, 103, 0, 0, 0, 0, .inl 0, [])])]
def gT_X12_chanceFor : gs_T := ([], gB_X12_chanceFor, [])
set_option maxRecDepth 100000 in
def gB_X12_chance : List (Nat × List gs_N) := [(0, [(.aload_n 0, 1, 0, 0, 0, 0, .inl 0, []),
    (.iconst 0, 2, 0, 0, 0, 0, .inl 0, []),
    (.putfield 129, 5, 11, 2, 0, 0, .inl 0, []),
    (.iload_n 1, 6, 1, 0, 0, 0, .inl 0, []),
    (.iconst 0, 7, 0, 0, 0, 0, .inl 0, []),
    (.bipush 60, 9, 0, 0, 0, 0, .inl 60, []),
    (.invokestatic 173, 12, 175, 3, 0, 1, .inl 0, []),
    (.ifCond .eq 12, 15, 24, 0, 0, 0, .inl 0, []),
    (.iload_n 2, 16, 2, 0, 0, 0, .inl 0, []),
    (.iconst 0, 17, 0, 0, 0, 0, .inl 0, []),
    (.iconst 1, 18, 0, 0, 0, 0, .inl 1, []),
    (.invokestatic 173, 21, 175, 3, 0, 1, .inl 0, []),
    (.ifCond .ne 5, 24, 26, 0, 0, 0, .inl 0, [])]),
  (24, [(.iconst (-1), 25, 0, 0, 0, 0, .inl (-1), []),
    (.ireturn, 26, 0, 0, 0, 0, .inl 0, [])]),
  (26, [(.lconst 0, 27, 0, 0, 0, 0, .inr (.inl 0), []),
    (.lstore_n 3, 28, 3, 0, 0, 0, .inl 0, []),
    (.iconst 0, 29, 0, 0, 0, 0, .inl 0, []),
    (.istore 5, 31, 5, 0, 0, 0, .inl 0, [])]),
  (31, [(.iload 5, 33, 5, 0, 0, 0, .inl 0, []),
    (.aload_n 0, 34, 0, 0, 0, 0, .inl 0, []),
    (.getfield 20, 37, 11, 12, 2, 1, .inl 0, []),
    (.iconst 5, 38, 0, 0, 0, 0, .inl 5, []),
    (.iaload, 39, 0, 0, 0, 0, .inl 0, []),
    (.if_icmp .ge 20, 42, 59, 0, 0, 0, .inl 0, []),
    (.lload_n 3, 43, 3, 0, 0, 0, .inl 0, []),
    (.aload_n 0, 44, 0, 0, 0, 0, .inl 0, []),
    (.iload 5, 46, 5, 0, 0, 0, .inl 0, []),
    (.iload_n 1, 47, 1, 0, 0, 0, .inl 0, []),
    (.invokevirtual 504, 50, 297, 3, 0, 11, .inl 0, []),
    (.i2l, 51, 0, 0, 0, 0, .inl 0, []),
    (.ladd, 52, 0, 0, 0, 0, .inl 0, []),
    (.lstore_n 3, 53, 3, 0, 0, 0, .inl 0, []),
    (.iinc 5 1, 56, 5, 0, 0, 0, .inl 1, []),
    (.goto (-25), 59, 31, 0, 0, 0, .inl 0, [])]),
  (59, [(.lload_n 3, 60, 3, 0, 0, 0, .inl 0, []),
    (.ldc2_w 507, 63, 0, 0, 0, 0, .inr (.inl 7200), []),
    (.iload_n 2, 64, 2, 0, 0, 0, .inl 0, []),
    (.invokestatic 360, 67, 233, 3, 1, 1, .inl 0, []),
    (.l2i, 68, 0, 0, 0, 0, .inl 0, []),
    (.ireturn, 69, 0, 0, 0, 0, .inl 0, [])])]
def gT_X12_chance : gs_T := ([], gB_X12_chance, [(31, [0, 1, 2, 3, 5])])
set_option maxRecDepth 100000 in
def gB_X12_sun : List (Nat × List gs_N) := [(0, [(.aload_n 0, 1, 0, 0, 0, 0, .inl 0, []),
    (.iconst 0, 2, 0, 0, 0, 0, .inl 0, []),
    (.putfield 129, 5, 11, 2, 0, 0, .inl 0, []),
    (.iload_n 1, 6, 1, 0, 0, 0, .inl 0, []),
    (.invokestatic 368, 9, 239, 1, 0, 1, .inl 0, []),
    (.ifCond .eq 10, 12, 19, 0, 0, 0, .inl 0, []),
    (.iload_n 1, 13, 1, 0, 0, 0, .inl 0, []),
    (.invokestatic 496, 16, 293, 1, 0, 1, .inl 0, []),
    (.goto 4, 19, 20, 0, 0, 0, .inl 0, [])]),
  (19, [(.iconst (-1), 20, 0, 0, 0, 0, .inl (-1), [])]),
  (20, [(.ireturn, 21, 0, 0, 0, 0, .inl 0, [])])]
def gT_X12_sun : gs_T := ([], gB_X12_sun, [])
set_option maxRecDepth 100000 in
def gB_X12_hidden : List (Nat × List gs_N) := [(0, [(.aload_n 0, 1, 0, 0, 0, 0, .inl 0, []),
    (.iconst 0, 2, 0, 0, 0, 0, .inl 0, []),
    (.putfield 129, 5, 11, 2, 0, 0, .inl 0, []),
    (.aload_n 0, 6, 0, 0, 0, 0, .inl 0, []),
    (.iload_n 1, 7, 1, 0, 0, 0, .inl 0, []),
    (.invokevirtual 344, 10, 228, 2, 0, 11, .inl 0, []),
    (.ifCond .eq 19, 13, 29, 0, 0, 0, .inl 0, []),
    (.aload_n 0, 14, 0, 0, 0, 0, .inl 0, []),
    (.iload_n 1, 15, 1, 0, 0, 0, .inl 0, []),
    (.invokevirtual 399, 18, 251, 2, 0, 11, .inl 0, []),
    (.ifCond .eq 11, 21, 29, 0, 0, 0, .inl 0, []),
    (.aload_n 0, 22, 0, 0, 0, 0, .inl 0, []),
    (.iload_n 1, 23, 1, 0, 0, 0, .inl 0, []),
    (.invokevirtual 384, 26, 243, 2, 0, 11, .inl 0, []),
    (.ifCond .ge 5, 29, 31, 0, 0, 0, .inl 0, [])]),
  (29, [(.iconst (-1), 30, 0, 0, 0, 0, .inl (-1), []),
    (.ireturn, 31, 0, 0, 0, 0, .inl 0, [])]),
  (31, [(.aload_n 0, 32, 0, 0, 0, 0, .inl 0, []),
    (.iload_n 1, 33, 1, 0, 0, 0, .inl 0, []),
    (.iconst 0, 34, 0, 0, 0, 0, .inl 0, []),
    (.invokevirtual 402, 37, 253, 3, 0, 11, .inl 0, []),
    (.aload_n 0, 38, 0, 0, 0, 0, .inl 0, []),
    (.iload_n 1, 39, 1, 0, 0, 0, .inl 0, []),
    (.invokevirtual 384, 42, 243, 2, 0, 11, .inl 0, []),
    (.invokestatic 496, 45, 293, 1, 0, 1, .inl 0, []),
    (.invokestatic 411, 48, 256, 2, 0, 1, .inl 0, []),
    (.bipush 10, 50, 0, 0, 0, 0, .inl 10, []),
    (.if_icmp .gt 7, 53, 57, 0, 0, 0, .inl 0, []),
    (.iconst 1, 54, 0, 0, 0, 0, .inl 1, []),
    (.goto 4, 57, 58, 0, 0, 0, .inl 0, [])]),
  (57, [(.iconst 0, 58, 0, 0, 0, 0, .inl 0, [])]),
  (58, [(.ireturn, 59, 0, 0, 0, 0, .inl 0, [])])]
def gT_X12_hidden : gs_T := ([], gB_X12_hidden, [])
set_option maxRecDepth 100000 in
def gB_X12_seen : List (Nat × List gs_N) := [(0, [(.aload_n 0, 1, 0, 0, 0, 0, .inl 0, []),
    (.iconst 0, 2, 0, 0, 0, 0, .inl 0, []),
    (.putfield 129, 5, 11, 2, 0, 0, .inl 0, []),
    (.iload_n 1, 6, 1, 0, 0, 0, .inl 0, []),
    (.iconst 0, 7, 0, 0, 0, 0, .inl 0, []),
    (.bipush 119, 9, 0, 0, 0, 0, .inl 119, []),
    (.invokestatic 173, 12, 175, 3, 0, 1, .inl 0, []),
    (.ifCond .eq 10, 15, 22, 0, 0, 0, .inl 0, []),
    (.iload_n 1, 16, 1, 0, 0, 0, .inl 0, []),
    (.invokestatic 499, 19, 294, 1, 0, 1, .inl 0, []),
    (.goto 4, 22, 23, 0, 0, 0, .inl 0, [])]),
  (22, [(.iconst (-1), 23, 0, 0, 0, 0, .inl (-1), [])]),
  (23, [(.ireturn, 24, 0, 0, 0, 0, .inl 0, [])])]
def gT_X12_seen : gs_T := ([], gB_X12_seen, [])
set_option maxRecDepth 100000 in
def gB_X12_doubt : List (Nat × List gs_N) := [(0, [(.aload_n 0, 1, 0, 0, 0, 0, .inl 0, []),
    (.iconst 0, 2, 0, 0, 0, 0, .inl 0, []),
    (.putfield 129, 5, 11, 2, 0, 0, .inl 0, []),
    (.aload_n 0, 6, 0, 0, 0, 0, .inl 0, []),
    (.iload_n 1, 7, 1, 0, 0, 0, .inl 0, []),
    (.invokevirtual 344, 10, 228, 2, 0, 11, .inl 0, []),
    (.ifCond .eq 15, 13, 25, 0, 0, 0, .inl 0, []),
    (.aload_n 0, 14, 0, 0, 0, 0, .inl 0, []),
    (.getfield 193, 17, 11, 36, 0, 0, .inl 0, []),
    (.iload_n 1, 18, 1, 0, 0, 0, .inl 0, []),
    (.invokestatic 225, 21, 176, 2, 0, 1, .inl 0, []),
    (.iload_n 2, 22, 2, 0, 0, 0, .inl 0, []),
    (.if_icmp .ne 5, 25, 27, 0, 0, 0, .inl 0, [])]),
  (25, [(.iconst 0, 26, 0, 0, 0, 0, .inl 0, []),
    (.ireturn, 27, 1, 0, 0, 0, .inl 0, [])]),
  (27, [(.aload_n 0, 28, 0, 0, 0, 0, .inl 0, []),
    (.dup, 29, 0, 0, 0, 0, .inl 0, []),
    (.getfield 193, 32, 11, 36, 0, 0, .inl 0, []),
    (.iconst 1, 33, 0, 0, 0, 0, .inl 1, []),
    (.iload_n 1, 34, 1, 0, 0, 0, .inl 0, []),
    (.ishl, 35, 0, 0, 0, 0, .inl 0, []),
    (.ixor, 36, 0, 0, 0, 0, .inl 0, []),
    (.putfield 193, 39, 11, 36, 0, 0, .inl 0, []),
    (.iconst 1, 40, 0, 0, 0, 0, .inl 1, []),
    (.ireturn, 41, 1, 0, 0, 0, .inl 0, [])])]
def gT_X12_doubt : gs_T := ([], gB_X12_doubt, [])
set_option maxRecDepth 100000 in
def gB_X12_doubted : List (Nat × List gs_N) := [(0, [(.aload_n 0, 1, 0, 0, 0, 0, .inl 0, []),
    (.iconst 0, 2, 0, 0, 0, 0, .inl 0, []),
    (.putfield 129, 5, 11, 2, 0, 0, .inl 0, []),
    (.aload_n 0, 6, 0, 0, 0, 0, .inl 0, []),
    (.getfield 193, 9, 11, 36, 0, 0, .inl 0, []),
    (.ireturn, 10, 0, 0, 0, 0, .inl 0, [])])]
def gT_X12_doubted : gs_T := ([], gB_X12_doubted, [])
set_option maxRecDepth 100000 in
def gB_X12_drawn : List (Nat × List gs_N) := [(0, [(.aload_n 0, 1, 0, 0, 0, 0, .inl 0, []),
    (.aload_n 0, 2, 0, 0, 0, 0, .inl 0, []),
    (.getfield 509, 5, 11, 59, 1, 0, .inl 0, []),
    (.ldc2_w 513, 8, 0, 0, 0, 0, .inr (.inl 1103515245), []),
    (.lmul, 9, 0, 0, 0, 0, .inl 0, []),
    (.ldc2_w 515, 12, 0, 0, 0, 0, .inr (.inl 12345), []),
    (.ladd, 13, 0, 0, 0, 0, .inl 0, []),
    (.ldc2_w 517, 16, 0, 0, 0, 0, .inr (.inl 2147483647), []),
    (.land, 17, 0, 0, 0, 0, .inl 0, []),
    (.putfield 509, 20, 11, 59, 1, 0, .inl 0, []),
    (.aload_n 0, 21, 0, 0, 0, 0, .inl 0, []),
    (.getfield 509, 24, 11, 59, 1, 0, .inl 0, []),
    (.ldc2_w 519, 27, 0, 0, 0, 0, .inr (.inl 65536), []),
    (.ldiv, 28, 0, 0, 0, 0, .inl 0, []),
    (.iload_n 1, 29, 1, 0, 0, 0, .inl 0, []),
    (.i2l, 30, 0, 0, 0, 0, .inl 0, []),
    (.lrem, 31, 0, 0, 0, 0, .inl 0, []),
    (.l2i, 32, 0, 0, 0, 0, .inl 0, []),
    (.ireturn, 33, 0, 0, 0, 0, .inl 0, [])])]
def gT_X12_drawn : gs_T := ([], gB_X12_drawn, [])
set_option maxRecDepth 100000 in
def gB_X12_draws : List (Nat × List gs_N) := [(0, [(.aload_n 0, 1, 0, 0, 0, 0, .inl 0, []),
    (.iconst 0, 2, 0, 0, 0, 0, .inl 0, []),
    (.putfield 129, 5, 11, 2, 0, 0, .inl 0, []),
    (.iload_n 1, 6, 1, 0, 0, 0, .inl 0, []),
    (.ifCond .lt 24, 9, 30, 0, 0, 0, .inl 0, []),
    (.iload_n 2, 10, 2, 0, 0, 0, .inl 0, []),
    (.iconst 1, 11, 0, 0, 0, 0, .inl 1, []),
    (.sipush 500, 14, 0, 0, 0, 0, .inl 500, []),
    (.invokestatic 173, 17, 175, 3, 0, 1, .inl 0, []),
    (.ifCond .eq 13, 20, 30, 0, 0, 0, .inl 0, []),
    (.iload_n 3, 21, 3, 0, 0, 0, .inl 0, []),
    (.iconst 0, 22, 0, 0, 0, 0, .inl 0, []),
    (.bipush 60, 24, 0, 0, 0, 0, .inl 60, []),
    (.invokestatic 173, 27, 175, 3, 0, 1, .inl 0, []),
    (.ifCond .ne 5, 30, 32, 0, 0, 0, .inl 0, [])]),
  (30, [(.iconst (-1), 31, 0, 0, 0, 0, .inl (-1), []),
    (.ireturn, 32, 0, 0, 0, 0, .inl 0, [])]),
  (32, [(.aload_n 0, 33, 0, 0, 0, 0, .inl 0, []),
    (.iload_n 1, 34, 1, 0, 0, 0, .inl 0, []),
    (.i2l, 35, 0, 0, 0, 0, .inl 0, []),
    (.putfield 509, 38, 11, 59, 1, 0, .inl 0, []),
    (.iconst 0, 39, 0, 0, 0, 0, .inl 0, []),
    (.istore 4, 41, 4, 0, 0, 0, .inl 0, []),
    (.iconst 0, 42, 0, 0, 0, 0, .inl 0, []),
    (.istore 5, 44, 5, 0, 0, 0, .inl 0, [])]),
  (44, [(.iload 5, 46, 5, 0, 0, 0, .inl 0, []),
    (.iload_n 2, 47, 2, 0, 0, 0, .inl 0, []),
    (.if_icmp .ge 108, 50, 155, 0, 0, 0, .inl 0, []),
    (.aload_n 0, 51, 0, 0, 0, 0, .inl 0, []),
    (.bipush 120, 53, 0, 0, 0, 0, .inl 120, []),
    (.invokevirtual 521, 56, 304, 2, 0, 11, .inl 0, []),
    (.istore 6, 58, 6, 0, 0, 0, .inl 0, []),
    (.aload_n 0, 59, 0, 0, 0, 0, .inl 0, []),
    (.bipush 60, 61, 0, 0, 0, 0, .inl 60, []),
    (.invokevirtual 521, 64, 304, 2, 0, 11, .inl 0, []),
    (.istore 7, 66, 7, 0, 0, 0, .inl 0, []),
    (.iconst 0, 67, 0, 0, 0, 0, .inl 0, []),
    (.istore 8, 69, 8, 0, 0, 0, .inl 0, []),
    (.iconst 0, 70, 0, 0, 0, 0, .inl 0, []),
    (.istore 9, 72, 9, 0, 0, 0, .inl 0, [])]),
  (72, [(.iload 9, 74, 9, 0, 0, 0, .inl 0, []),
    (.aload_n 0, 75, 0, 0, 0, 0, .inl 0, []),
    (.getfield 20, 78, 11, 12, 2, 1, .inl 0, []),
    (.iconst 5, 79, 0, 0, 0, 0, .inl 5, []),
    (.iaload, 80, 0, 0, 0, 0, .inl 0, []),
    (.if_icmp .ge 54, 83, 134, 0, 0, 0, .inl 0, []),
    (.iload 8, 85, 8, 0, 0, 0, .inl 0, []),
    (.ifCond .ne 36, 88, 121, 0, 0, 0, .inl 0, []),
    (.iload 6, 90, 6, 0, 0, 0, .inl 0, []),
    (.iload 7, 92, 7, 0, 0, 0, .inl 0, []),
    (.aload_n 0, 93, 0, 0, 0, 0, .inl 0, []),
    (.getfield 62, 96, 11, 27, 2, 1, .inl 0, []),
    (.bipush 9, 98, 0, 0, 0, 0, .inl 9, []),
    (.iload 9, 100, 9, 0, 0, 0, .inl 0, []),
    (.imul, 101, 0, 0, 0, 0, .inl 0, []),
    (.iaload, 102, 0, 0, 0, 0, .inl 0, []),
    (.aload_n 0, 103, 0, 0, 0, 0, .inl 0, []),
    (.getfield 62, 106, 11, 27, 2, 1, .inl 0, []),
    (.bipush 9, 108, 0, 0, 0, 0, .inl 9, []),
    (.iload 9, 110, 9, 0, 0, 0, .inl 0, []),
    (.imul, 111, 0, 0, 0, 0, .inl 0, []),
    (.iconst 1, 112, 0, 0, 0, 0, .inl 1, []),
    (.iadd, 113, 0, 0, 0, 0, .inl 0, []),
    (.iaload, 114, 0, 0, 0, 0, .inl 0, []),
    (.invokestatic 444, 117, 257, 4, 0, 1, .inl 0, []),
    (.iload_n 3, 118, 3, 0, 0, 0, .inl 0, []),
    (.if_icmp .gt 7, 121, 125, 0, 0, 0, .inl 0, [])]),
  (121, [(.iconst 1, 122, 0, 0, 0, 0, .inl 1, []),
    (.goto 4, 125, 126, 0, 0, 0, .inl 0, [])]),
  (125, [(.iconst 0, 126, 0, 0, 0, 0, .inl 0, [])]),
  (126, [(.istore 8, 128, 8, 0, 0, 0, .inl 0, []),
    (.iinc 9 1, 131, 9, 0, 0, 0, .inl 1, []),
    (.goto (-59), 134, 72, 0, 0, 0, .inl 0, [])]),
  (134, [(.iload 4, 136, 4, 0, 0, 0, .inl 0, []),
    (.iload 8, 138, 8, 0, 0, 0, .inl 0, []),
    (.ifCond .eq 7, 141, 145, 0, 0, 0, .inl 0, []),
    (.iconst 1, 142, 0, 0, 0, 0, .inl 1, []),
    (.goto 4, 145, 146, 0, 0, 0, .inl 0, [])]),
  (145, [(.iconst 0, 146, 0, 0, 0, 0, .inl 0, [])]),
  (146, [(.iadd, 147, 0, 0, 0, 0, .inl 0, []),
    (.istore 4, 149, 4, 0, 0, 0, .inl 0, []),
    (.iinc 5 1, 152, 5, 0, 0, 0, .inl 1, []),
    (.goto (-108), 155, 44, 0, 0, 0, .inl 0, [])]),
  (155, [(.iload 4, 157, 4, 0, 0, 0, .inl 0, []),
    (.ireturn, 158, 0, 0, 0, 0, .inl 0, [])])]
def gT_X12_draws : gs_T := ([], gB_X12_draws, [(44, [0, 2, 3, 4, 5]), (72, [0, 2, 3, 4, 5, 6, 7, 8, 9])])
set_option maxRecDepth 100000 in
def gB_X12_luck : List (Nat × List gs_N) := [(0, [(.aload_n 0, 1, 0, 0, 0, 0, .inl 0, []),
    (.iconst 0, 2, 0, 0, 0, 0, .inl 0, []),
    (.putfield 129, 5, 11, 2, 0, 0, .inl 0, []),
    (.iload_n 1, 6, 1, 0, 0, 0, .inl 0, []),
    (.ifCond .lt 13, 9, 19, 0, 0, 0, .inl 0, []),
    (.iload_n 2, 10, 2, 0, 0, 0, .inl 0, []),
    (.iconst 1, 11, 0, 0, 0, 0, .inl 1, []),
    (.bipush 20, 13, 0, 0, 0, 0, .inl 20, []),
    (.invokestatic 173, 16, 175, 3, 0, 1, .inl 0, []),
    (.ifCond .ne 5, 19, 21, 0, 0, 0, .inl 0, [])]),
  (19, [(.iconst (-1), 20, 0, 0, 0, 0, .inl (-1), []),
    (.ireturn, 21, 0, 0, 0, 0, .inl 0, [])]),
  (21, [(.aload_n 0, 22, 0, 0, 0, 0, .inl 0, []),
    (.invokevirtual 464, 25, 270, 1, 2, 11, .inl 0, []),
    (.aload_n 0, 26, 0, 0, 0, 0, .inl 0, []),
    (.invokevirtual 467, 29, 271, 1, 0, 11, .inl 0, []),
    (.istore_n 3, 30, 3, 0, 0, 0, .inl 0, []),
    (.aload_n 0, 31, 0, 0, 0, 0, .inl 0, []),
    (.iload_n 1, 32, 1, 0, 0, 0, .inl 0, []),
    (.i2l, 33, 0, 0, 0, 0, .inl 0, []),
    (.putfield 509, 36, 11, 59, 1, 0, .inl 0, []),
    (.aload_n 0, 37, 0, 0, 0, 0, .inl 0, []),
    (.iconst 1, 38, 0, 0, 0, 0, .inl 1, []),
    (.putfield 441, 41, 11, 51, 3, 0, .inl 0, []),
    (.iconst 0, 42, 0, 0, 0, 0, .inl 0, []),
    (.istore 4, 44, 4, 0, 0, 0, .inl 0, []),
    (.iconst 0, 45, 0, 0, 0, 0, .inl 0, []),
    (.istore 5, 47, 5, 0, 0, 0, .inl 0, [])]),
  (47, [(.iload 5, 49, 5, 0, 0, 0, .inl 0, []),
    (.iload_n 2, 50, 2, 0, 0, 0, .inl 0, []),
    (.if_icmp .ge 89, 53, 139, 0, 0, 0, .inl 0, []),
    (.iconst 0, 54, 0, 0, 0, 0, .inl 0, []),
    (.istore 6, 56, 6, 0, 0, 0, .inl 0, [])]),
  (56, [(.iload 6, 58, 6, 0, 0, 0, .inl 0, []),
    (.aload_n 0, 59, 0, 0, 0, 0, .inl 0, []),
    (.getfield 20, 62, 11, 12, 2, 1, .inl 0, []),
    (.iconst 3, 63, 0, 0, 0, 0, .inl 3, []),
    (.iaload, 64, 0, 0, 0, 0, .inl 0, []),
    (.if_icmp .ge 47, 67, 111, 0, 0, 0, .inl 0, []),
    (.aload_n 0, 68, 0, 0, 0, 0, .inl 0, []),
    (.iload 6, 70, 6, 0, 0, 0, .inl 0, []),
    (.invokevirtual 399, 73, 251, 2, 0, 11, .inl 0, []),
    (.ifCond .ne 6, 76, 79, 0, 0, 0, .inl 0, []),
    (.goto 29, 79, 105, 0, 0, 0, .inl 0, [])]),
  (79, [(.aload_n 0, 80, 0, 0, 0, 0, .inl 0, []),
    (.getfield 105, 83, 11, 52, 2, 1, .inl 0, []),
    (.iload 6, 85, 6, 0, 0, 0, .inl 0, []),
    (.aload_n 0, 86, 0, 0, 0, 0, .inl 0, []),
    (.bipush 120, 88, 0, 0, 0, 0, .inl 120, []),
    (.invokevirtual 521, 91, 304, 2, 0, 11, .inl 0, []),
    (.iastore, 92, 0, 0, 0, 0, .inl 0, []),
    (.aload_n 0, 93, 0, 0, 0, 0, .inl 0, []),
    (.getfield 108, 96, 11, 53, 2, 1, .inl 0, []),
    (.iload 6, 98, 6, 0, 0, 0, .inl 0, []),
    (.aload_n 0, 99, 0, 0, 0, 0, .inl 0, []),
    (.bipush 60, 101, 0, 0, 0, 0, .inl 60, []),
    (.invokevirtual 521, 104, 304, 2, 0, 11, .inl 0, []),
    (.iastore, 105, 0, 0, 0, 0, .inl 0, [])]),
  (105, [(.iinc 6 1, 108, 6, 0, 0, 0, .inl 1, []),
    (.goto (-52), 111, 56, 0, 0, 0, .inl 0, [])]),
  (111, [(.aload_n 0, 112, 0, 0, 0, 0, .inl 0, []),
    (.invokevirtual 464, 115, 270, 1, 2, 11, .inl 0, []),
    (.iload 4, 117, 4, 0, 0, 0, .inl 0, []),
    (.aload_n 0, 118, 0, 0, 0, 0, .inl 0, []),
    (.invokevirtual 467, 121, 271, 1, 0, 11, .inl 0, []),
    (.iload_n 3, 122, 3, 0, 0, 0, .inl 0, []),
    (.if_icmp .lt 7, 125, 129, 0, 0, 0, .inl 0, []),
    (.iconst 1, 126, 0, 0, 0, 0, .inl 1, []),
    (.goto 4, 129, 130, 0, 0, 0, .inl 0, [])]),
  (129, [(.iconst 0, 130, 0, 0, 0, 0, .inl 0, [])]),
  (130, [(.iadd, 131, 0, 0, 0, 0, .inl 0, []),
    (.istore 4, 133, 4, 0, 0, 0, .inl 0, []),
    (.iinc 5 1, 136, 5, 0, 0, 0, .inl 1, []),
    (.goto (-89), 139, 47, 0, 0, 0, .inl 0, [])]),
  (139, [(.aload_n 0, 140, 0, 0, 0, 0, .inl 0, []),
    (.iconst 0, 141, 0, 0, 0, 0, .inl 0, []),
    (.putfield 441, 144, 11, 51, 3, 0, .inl 0, []),
    (.iload 4, 146, 4, 0, 0, 0, .inl 0, []),
    (.ireturn, 147, 0, 0, 0, 0, .inl 0, [])])]
def gT_X12_luck : gs_T := ([], gB_X12_luck, [(47, [0, 2, 3, 4, 5]), (56, [0, 2, 3, 4, 5, 6])])
set_option maxRecDepth 100000 in
def gB_X12_count : List (Nat × List gs_N) := [(0, [(.aload_n 0, 1, 0, 0, 0, 0, .inl 0, []),
    (.iconst 0, 2, 0, 0, 0, 0, .inl 0, []),
    (.putfield 129, 5, 11, 2, 0, 0, .inl 0, []),
    (.iload_n 1, 6, 1, 0, 0, 0, .inl 0, []),
    (.tableswitch 158 0 12 #[66, 73, 80, 87, 94, 102, 110, 118, 125, 132, 139, 146, 153], 72, 164, 66, 0, 0, .inl 0, [(0, 72), (1, 79), (2, 86), (3, 93), (4, 100), (5, 108), (6, 116), (7, 124), (8, 131), (9, 138), (10, 145), (11, 152), (12, 159)])]),
  (72, [(.aload_n 0, 73, 0, 0, 0, 0, .inl 0, []),
    (.getfield 20, 76, 11, 12, 2, 1, .inl 0, []),
    (.iconst 0, 77, 0, 0, 0, 0, .inl 0, []),
    (.iaload, 78, 0, 0, 0, 0, .inl 0, []),
    (.ireturn, 79, 0, 0, 0, 0, .inl 0, [])]),
  (79, [(.aload_n 0, 80, 0, 0, 0, 0, .inl 0, []),
    (.getfield 20, 83, 11, 12, 2, 1, .inl 0, []),
    (.iconst 1, 84, 0, 0, 0, 0, .inl 1, []),
    (.iaload, 85, 0, 0, 0, 0, .inl 0, []),
    (.ireturn, 86, 0, 0, 0, 0, .inl 0, [])]),
  (86, [(.aload_n 0, 87, 0, 0, 0, 0, .inl 0, []),
    (.getfield 20, 90, 11, 12, 2, 1, .inl 0, []),
    (.iconst 3, 91, 0, 0, 0, 0, .inl 3, []),
    (.iaload, 92, 0, 0, 0, 0, .inl 0, []),
    (.ireturn, 93, 0, 0, 0, 0, .inl 0, [])]),
  (93, [(.aload_n 0, 94, 0, 0, 0, 0, .inl 0, []),
    (.getfield 20, 97, 11, 12, 2, 1, .inl 0, []),
    (.iconst 5, 98, 0, 0, 0, 0, .inl 5, []),
    (.iaload, 99, 0, 0, 0, 0, .inl 0, []),
    (.ireturn, 100, 0, 0, 0, 0, .inl 0, [])]),
  (100, [(.aload_n 0, 101, 0, 0, 0, 0, .inl 0, []),
    (.getfield 20, 104, 11, 12, 2, 1, .inl 0, []),
    (.bipush 6, 106, 0, 0, 0, 0, .inl 6, []),
    (.iaload, 107, 0, 0, 0, 0, .inl 0, []),
    (.ireturn, 108, 0, 0, 0, 0, .inl 0, [])]),
  (108, [(.aload_n 0, 109, 0, 0, 0, 0, .inl 0, []),
    (.getfield 20, 112, 11, 12, 2, 1, .inl 0, []),
    (.bipush 7, 114, 0, 0, 0, 0, .inl 7, []),
    (.iaload, 115, 0, 0, 0, 0, .inl 0, []),
    (.ireturn, 116, 0, 0, 0, 0, .inl 0, [])]),
  (116, [(.aload_n 0, 117, 0, 0, 0, 0, .inl 0, []),
    (.getfield 20, 120, 11, 12, 2, 1, .inl 0, []),
    (.bipush 8, 122, 0, 0, 0, 0, .inl 8, []),
    (.iaload, 123, 0, 0, 0, 0, .inl 0, []),
    (.ireturn, 124, 0, 0, 0, 0, .inl 0, [])]),
  (124, [(.aload_n 0, 125, 0, 0, 0, 0, .inl 0, []),
    (.getfield 29, 128, 11, 15, 2, 1, .inl 0, []),
    (.iconst 0, 129, 0, 0, 0, 0, .inl 0, []),
    (.iaload, 130, 0, 0, 0, 0, .inl 0, []),
    (.ireturn, 131, 0, 0, 0, 0, .inl 0, [])]),
  (131, [(.aload_n 0, 132, 0, 0, 0, 0, .inl 0, []),
    (.getfield 29, 135, 11, 15, 2, 1, .inl 0, []),
    (.iconst 1, 136, 0, 0, 0, 0, .inl 1, []),
    (.iaload, 137, 0, 0, 0, 0, .inl 0, []),
    (.ireturn, 138, 0, 0, 0, 0, .inl 0, [])]),
  (138, [(.aload_n 0, 139, 0, 0, 0, 0, .inl 0, []),
    (.getfield 29, 142, 11, 15, 2, 1, .inl 0, []),
    (.iconst 2, 143, 0, 0, 0, 0, .inl 2, []),
    (.iaload, 144, 0, 0, 0, 0, .inl 0, []),
    (.ireturn, 145, 0, 0, 0, 0, .inl 0, [])]),
  (145, [(.aload_n 0, 146, 0, 0, 0, 0, .inl 0, []),
    (.getfield 29, 149, 11, 15, 2, 1, .inl 0, []),
    (.iconst 3, 150, 0, 0, 0, 0, .inl 3, []),
    (.iaload, 151, 0, 0, 0, 0, .inl 0, []),
    (.ireturn, 152, 0, 0, 0, 0, .inl 0, [])]),
  (152, [(.aload_n 0, 153, 0, 0, 0, 0, .inl 0, []),
    (.getfield 20, 156, 11, 12, 2, 1, .inl 0, []),
    (.iconst 2, 157, 0, 0, 0, 0, .inl 2, []),
    (.iaload, 158, 0, 0, 0, 0, .inl 0, []),
    (.ireturn, 159, 0, 0, 0, 0, .inl 0, [])]),
  (159, [(.aload_n 0, 160, 0, 0, 0, 0, .inl 0, []),
    (.invokevirtual 453, 163, 267, 1, 0, 11, .inl 0, []),
    (.ireturn, 164, 0, 0, 0, 0, .inl 0, [])]),
  (164, [(.iconst (-1), 165, 0, 0, 0, 0, .inl (-1), []),
    (.ireturn, 166, 0, 0, 0, 0, .inl 0, [])])]
def gT_X12_count : gs_T := ([], gB_X12_count, [])
set_option maxRecDepth 100000 in
def gB_J6_bitCount_0f7a4 : List (Nat × List gs_N) := [(0, [(.iload_n 0, 1, 0, 0, 0, 0, .inl 0, []),
    (.iload_n 0, 2, 0, 0, 0, 0, .inl 0, []),
    (.iconst 1, 3, 0, 0, 0, 0, .inl 1, []),
    (.iushr, 4, 0, 0, 0, 0, .inl 0, []),
    (.ldc_w 265, 7, 0, 0, 0, 0, .inl 1431655765, []),
    (.iand, 8, 0, 0, 0, 0, .inl 0, []),
    (.isub, 9, 0, 0, 0, 0, .inl 0, []),
    (.istore_n 0, 10, 0, 0, 0, 0, .inl 0, []),
    (.iload_n 0, 11, 0, 0, 0, 0, .inl 0, []),
    (.ldc_w 266, 14, 0, 0, 0, 0, .inl 858993459, []),
    (.iand, 15, 0, 0, 0, 0, .inl 0, []),
    (.iload_n 0, 16, 0, 0, 0, 0, .inl 0, []),
    (.iconst 2, 17, 0, 0, 0, 0, .inl 2, []),
    (.iushr, 18, 0, 0, 0, 0, .inl 0, []),
    (.ldc_w 266, 21, 0, 0, 0, 0, .inl 858993459, []),
    (.iand, 22, 0, 0, 0, 0, .inl 0, []),
    (.iadd, 23, 0, 0, 0, 0, .inl 0, []),
    (.istore_n 0, 24, 0, 0, 0, 0, .inl 0, []),
    (.iload_n 0, 25, 0, 0, 0, 0, .inl 0, []),
    (.iload_n 0, 26, 0, 0, 0, 0, .inl 0, []),
    (.iconst 4, 27, 0, 0, 0, 0, .inl 4, []),
    (.iushr, 28, 0, 0, 0, 0, .inl 0, []),
    (.iadd, 29, 0, 0, 0, 0, .inl 0, []),
    (.ldc_w 267, 32, 0, 0, 0, 0, .inl 1431655765, []),
    (.iand, 33, 0, 0, 0, 0, .inl 0, []),
    (.istore_n 0, 34, 0, 0, 0, 0, .inl 0, []),
    (.iload_n 0, 35, 0, 0, 0, 0, .inl 0, []),
    (.iload_n 0, 36, 0, 0, 0, 0, .inl 0, []),
    (.bipush 8, 38, 0, 0, 0, 0, .inl 8, []),
    (.iushr, 39, 0, 0, 0, 0, .inl 0, []),
    (.iadd, 40, 0, 0, 0, 0, .inl 0, []),
    (.istore_n 0, 41, 0, 0, 0, 0, .inl 0, []),
    (.iload_n 0, 42, 0, 0, 0, 0, .inl 0, []),
    (.iload_n 0, 43, 0, 0, 0, 0, .inl 0, []),
    (.bipush 16, 45, 0, 0, 0, 0, .inl 16, []),
    (.iushr, 46, 0, 0, 0, 0, .inl 0, []),
    (.iadd, 47, 0, 0, 0, 0, .inl 0, []),
    (.istore_n 0, 48, 0, 0, 0, 0, .inl 0, []),
    (.iload_n 0, 49, 0, 0, 0, 0, .inl 0, []),
    (.bipush 63, 51, 0, 0, 0, 0, .inl 63, []),
    (.iand, 52, 0, 0, 0, 0, .inl 0, []),
    (.ireturn, 53, 0, 0, 0, 0, .inl 0, [])])]
def gT_J6_bitCount_0f7a4 : gs_T := ([], gB_J6_bitCount_0f7a4, [])
set_option maxRecDepth 100000 in
def gB_J9_floorMod_7cf53 : List (Nat × List gs_N) := [(0, [(.iload_n 0, 1, 0, 0, 0, 0, .inl 0, []),
    (.iload_n 1, 2, 1, 0, 0, 0, .inl 0, []),
    (.irem, 3, 0, 0, 0, 0, .inl 0, []),
    (.istore_n 2, 4, 2, 0, 0, 0, .inl 0, []),
    (.iload_n 0, 5, 0, 0, 0, 0, .inl 0, []),
    (.iload_n 1, 6, 1, 0, 0, 0, .inl 0, []),
    (.ixor, 7, 0, 0, 0, 0, .inl 0, []),
    (.ifCond .ge 11, 10, 18, 0, 0, 0, .inl 0, []),
    (.iload_n 2, 11, 2, 0, 0, 0, .inl 0, []),
    (.ifCond .eq 7, 14, 18, 0, 0, 0, .inl 0, []),
    (.iload_n 2, 15, 2, 0, 0, 0, .inl 0, []),
    (.iload_n 1, 16, 1, 0, 0, 0, .inl 0, []),
    (.iadd, 17, 0, 0, 0, 0, .inl 0, []),
    (.ireturn, 18, 0, 0, 0, 0, .inl 0, [])]),
  (18, [(.iload_n 2, 19, 2, 0, 0, 0, .inl 0, []),
    (.ireturn, 20, 0, 0, 0, 0, .inl 0, [])])]
def gT_J9_floorMod_7cf53 : gs_T := ([], gB_J9_floorMod_7cf53, [])
set_option maxRecDepth 100000 in
def gB_J9_abs_0f7a4 : List (Nat × List gs_N) := [(0, [(.iload_n 0, 1, 0, 0, 0, 0, .inl 0, []),
    (.ifCond .ge 8, 4, 9, 0, 0, 0, .inl 0, []),
    (.iload_n 0, 5, 0, 0, 0, 0, .inl 0, []),
    (.ineg, 6, 0, 0, 0, 0, .inl 0, []),
    (.goto 4, 9, 10, 0, 0, 0, .inl 0, [])]),
  (9, [(.iload_n 0, 10, 0, 0, 0, 0, .inl 0, [])]),
  (10, [(.ireturn, 11, 0, 0, 0, 0, .inl 0, [])])]
def gT_J9_abs_0f7a4 : gs_T := ([], gB_J9_abs_0f7a4, [])
set_option maxRecDepth 100000 in
def gB_J9_abs_067f4 : List (Nat × List gs_N) := [(0, [(.lload_n 0, 1, 0, 0, 0, 0, .inl 0, []),
    (.lconst 0, 2, 0, 0, 0, 0, .inr (.inl 0), []),
    (.lcmp, 3, 0, 0, 0, 0, .inl 0, []),
    (.ifCond .ge 8, 6, 11, 0, 0, 0, .inl 0, []),
    (.lload_n 0, 7, 0, 0, 0, 0, .inl 0, []),
    (.lneg, 8, 0, 0, 0, 0, .inl 0, []),
    (.goto 4, 11, 12, 0, 0, 0, .inl 0, [])]),
  (11, [(.lload_n 0, 12, 0, 0, 0, 0, .inl 0, [])]),
  (12, [(.lreturn, 13, 0, 0, 0, 0, .inl 0, [])])]
def gT_J9_abs_067f4 : gs_T := ([], gB_J9_abs_067f4, [])
set_option maxRecDepth 100000 in
def gB_J9_max_7cf53 : List (Nat × List gs_N) := [(0, [(.iload_n 0, 1, 0, 0, 0, 0, .inl 0, []),
    (.iload_n 1, 2, 1, 0, 0, 0, .inl 0, []),
    (.if_icmp .lt 7, 5, 9, 0, 0, 0, .inl 0, []),
    (.iload_n 0, 6, 0, 0, 0, 0, .inl 0, []),
    (.goto 4, 9, 10, 0, 0, 0, .inl 0, [])]),
  (9, [(.iload_n 1, 10, 1, 0, 0, 0, .inl 0, [])]),
  (10, [(.ireturn, 11, 0, 0, 0, 0, .inl 0, [])])]
def gT_J9_max_7cf53 : gs_T := ([], gB_J9_max_7cf53, [])
set_option maxRecDepth 100000 in
def gB_J9_max_f86c9 : List (Nat × List gs_N) := [(0, [(.lload_n 0, 1, 0, 0, 0, 0, .inl 0, []),
    (.lload_n 2, 2, 2, 0, 0, 0, .inl 0, []),
    (.lcmp, 3, 0, 0, 0, 0, .inl 0, []),
    (.ifCond .lt 7, 6, 10, 0, 0, 0, .inl 0, []),
    (.lload_n 0, 7, 0, 0, 0, 0, .inl 0, []),
    (.goto 4, 10, 11, 0, 0, 0, .inl 0, [])]),
  (10, [(.lload_n 2, 11, 2, 0, 0, 0, .inl 0, [])]),
  (11, [(.lreturn, 12, 0, 0, 0, 0, .inl 0, [])])]
def gT_J9_max_f86c9 : gs_T := ([], gB_J9_max_f86c9, [])
set_option maxRecDepth 100000 in
def gB_J9_min_7cf53 : List (Nat × List gs_N) := [(0, [(.iload_n 0, 1, 0, 0, 0, 0, .inl 0, []),
    (.iload_n 1, 2, 1, 0, 0, 0, .inl 0, []),
    (.if_icmp .gt 7, 5, 9, 0, 0, 0, .inl 0, []),
    (.iload_n 0, 6, 0, 0, 0, 0, .inl 0, []),
    (.goto 4, 9, 10, 0, 0, 0, .inl 0, [])]),
  (9, [(.iload_n 1, 10, 1, 0, 0, 0, .inl 0, [])]),
  (10, [(.ireturn, 11, 0, 0, 0, 0, .inl 0, [])])]
def gT_J9_min_7cf53 : gs_T := ([], gB_J9_min_7cf53, [])
set_option maxRecDepth 100000 in
def gB_J9_min_f86c9 : List (Nat × List gs_N) := [(0, [(.lload_n 0, 1, 0, 0, 0, 0, .inl 0, []),
    (.lload_n 2, 2, 2, 0, 0, 0, .inl 0, []),
    (.lcmp, 3, 0, 0, 0, 0, .inl 0, []),
    (.ifCond .gt 7, 6, 10, 0, 0, 0, .inl 0, []),
    (.lload_n 0, 7, 0, 0, 0, 0, .inl 0, []),
    (.goto 4, 10, 11, 0, 0, 0, .inl 0, [])]),
  (10, [(.lload_n 2, 11, 2, 0, 0, 0, .inl 0, [])]),
  (11, [(.lreturn, 12, 0, 0, 0, 0, .inl 0, [])])]
def gT_J9_min_f86c9 : gs_T := ([], gB_J9_min_f86c9, [])
set_option maxRecDepth 100000 in
def gB_J7_fill_d0a16 : List (Nat × List gs_N) := [(0, [(.iconst 0, 1, 0, 0, 0, 0, .inl 0, []),
    (.istore_n 3, 2, 3, 0, 0, 0, .inl 0, []),
    (.aload_n 0, 3, 0, 0, 0, 0, .inl 0, []),
    (.arraylength, 4, 0, 0, 0, 0, .inl 0, []),
    (.istore 4, 6, 4, 0, 0, 0, .inl 0, [])]),
  (6, [(.iload_n 3, 7, 3, 0, 0, 0, .inl 0, []),
    (.iload 4, 9, 4, 0, 0, 0, .inl 0, []),
    (.if_icmp .ge 13, 12, 22, 0, 0, 0, .inl 0, []),
    (.aload_n 0, 13, 0, 0, 0, 0, .inl 0, []),
    (.iload_n 3, 14, 3, 0, 0, 0, .inl 0, []),
    (.lload_n 1, 15, 1, 0, 0, 0, .inl 0, []),
    (.lastore, 16, 0, 0, 0, 0, .inl 0, []),
    (.iinc 3 1, 19, 3, 0, 0, 0, .inl 1, []),
    (.goto (-13), 22, 6, 0, 0, 0, .inl 0, [])]),
  (22, [(.return_, 23, 0, 0, 0, 0, .inl 0, [])])]
def gT_J7_fill_d0a16 : gs_T := ([], gB_J7_fill_d0a16, [(6, [0, 1, 3, 4])])
set_option maxRecDepth 100000 in
def gB_J7_fill_53178 : List (Nat × List gs_N) := [(0, [(.iconst 0, 1, 0, 0, 0, 0, .inl 0, []),
    (.istore_n 2, 2, 2, 0, 0, 0, .inl 0, []),
    (.aload_n 0, 3, 0, 0, 0, 0, .inl 0, []),
    (.arraylength, 4, 0, 0, 0, 0, .inl 0, []),
    (.istore_n 3, 5, 3, 0, 0, 0, .inl 0, [])]),
  (5, [(.iload_n 2, 6, 2, 0, 0, 0, .inl 0, []),
    (.iload_n 3, 7, 3, 0, 0, 0, .inl 0, []),
    (.if_icmp .ge 13, 10, 20, 0, 0, 0, .inl 0, []),
    (.aload_n 0, 11, 0, 0, 0, 0, .inl 0, []),
    (.iload_n 2, 12, 2, 0, 0, 0, .inl 0, []),
    (.iload_n 1, 13, 1, 0, 0, 0, .inl 0, []),
    (.iastore, 14, 0, 0, 0, 0, .inl 0, []),
    (.iinc 2 1, 17, 2, 0, 0, 0, .inl 1, []),
    (.goto (-12), 20, 5, 0, 0, 0, .inl 0, [])]),
  (20, [(.return_, 21, 0, 0, 0, 0, .inl 0, [])])]
def gT_J7_fill_53178 : gs_T := ([], gB_J7_fill_53178, [(5, [0, 1, 2, 3])])
set_option maxRecDepth 100000 in
def gB_L_look : List (Nat × List gs_N) := [(0, [(.aload_n 3, 1, 3, 0, 0, 0, .inl 0, []),
    (.iconst 0, 2, 0, 0, 0, 0, .inl 0, []),
    (.aload_n 0, 3, 0, 0, 0, 0, .inl 0, []),
    (.iload_n 1, 4, 1, 0, 0, 0, .inl 0, []),
    (.iload_n 2, 5, 2, 0, 0, 0, .inl 0, []),
    (.invokevirtual 7, 8, 121, 3, 0, 10, .inl 0, []),
    (.i2l, 9, 0, 0, 0, 0, .inl 0, []),
    (.lastore, 10, 0, 0, 0, 0, .inl 0, []),
    (.goto 11, 13, 21, 0, 0, 0, .inl 0, [])]),
  (15, [(.iconst 1, 16, 0, 0, 0, 0, .inl 1, []),
    (.ireturn, 17, 0, 0, 0, 0, .inl 0, [])]),
  (19, [(.iconst 2, 20, 0, 0, 0, 0, .inl 2, []),
    (.ireturn, 21, 0, 0, 0, 0, .inl 0, [])]),
  (21, [(.iconst 0, 22, 0, 0, 0, 0, .inl 0, []),
    (.ireturn, 23, 0, 0, 0, 0, .inl 0, [])])]
def gT_L_look : gs_T := ([(0, 10, 13, 1, 15, 4, 13), (0, 10, 17, 2, 19, 4, 15)], gB_L_look, [])
set_option maxRecDepth 100000 in
def gB_L_law : List (Nat × List gs_N) := [(0, [(.new 8, 3, 10, 10, 0, 0, .inl 0, []),
    (.dup, 4, 0, 0, 0, 0, .inl 0, []),
    (.invokespecial 17, 7, 116, 1, 2, 2, .inl 0, []),
    (.astore_n 1, 8, 1, 0, 0, 0, .inl 0, []),
    (.new 18, 11, 11, 60, 0, 0, .inl 0, []),
    (.dup, 12, 0, 0, 0, 0, .inl 0, []),
    (.invokespecial 20, 15, 172, 1, 2, 2, .inl 0, []),
    (.astore_n 2, 16, 2, 0, 0, 0, .inl 0, []),
    (.iconst 1, 17, 0, 0, 0, 0, .inl 1, []),
    (.newarray .long, 19, 14, 0, 0, 0, .inl 0, []),
    (.astore_n 3, 20, 3, 0, 0, 0, .inl 0, []),
    (.iconst 0, 21, 0, 0, 0, 0, .inl 0, []),
    (.istore 4, 23, 4, 0, 0, 0, .inl 0, [])]),
  (23, [(.iload 4, 25, 4, 0, 0, 0, .inl 0, []),
    (.aload_n 0, 26, 0, 0, 0, 0, .inl 0, []),
    (.arraylength, 27, 1, 0, 0, 0, .inl 0, []),
    (.bipush 6, 29, 0, 0, 0, 0, .inl 6, []),
    (.isub, 30, 0, 0, 0, 0, .inl 0, []),
    (.if_icmp .gt 1567, 33, 1597, 0, 0, 0, .inl 0, []),
    (.aload_n 0, 34, 0, 0, 0, 0, .inl 0, []),
    (.iload 4, 36, 4, 0, 0, 0, .inl 0, []),
    (.iaload, 37, 1, 0, 0, 0, .inl 0, []),
    (.bipush 63, 39, 0, 0, 0, 0, .inl 63, []),
    (.iand, 40, 0, 0, 0, 0, .inl 0, []),
    (.tableswitch 1551 0 39 #[176, 249, 274, 299, 336, 404, 429, 454, 479, 516, 565, 590, 627, 677, 714, 751, 788, 813, 838, 875, 900, 925, 962, 987, 1024, 1062, 1087, 1125, 1162, 1175, 1200, 1262, 1299, 1324, 1349, 1374, 1427, 1440, 1489, 1526], 216, 1591, 176, 0, 0, .inl 0, [(0, 216), (1, 289), (2, 314), (3, 339), (4, 376), (5, 444), (6, 469), (7, 494), (8, 519), (9, 556), (10, 605), (11, 630), (12, 667), (13, 717), (14, 754), (15, 791), (16, 828), (17, 853), (18, 878), (19, 915), (20, 940), (21, 965), (22, 1002), (23, 1027), (24, 1064), (25, 1102), (26, 1127), (27, 1165), (28, 1202), (29, 1215), (30, 1240), (31, 1302), (32, 1339), (33, 1364), (34, 1389), (35, 1414), (36, 1467), (37, 1480), (38, 1529), (39, 1566)])]),
  (216, [(.aload_n 1, 217, 1, 0, 0, 0, .inl 0, []),
    (.aload_n 0, 218, 0, 0, 0, 0, .inl 0, []),
    (.iload 4, 220, 4, 0, 0, 0, .inl 0, []),
    (.iconst 1, 221, 0, 0, 0, 0, .inl 1, []),
    (.iadd, 222, 0, 0, 0, 0, .inl 0, []),
    (.iaload, 223, 1, 0, 0, 0, .inl 0, []),
    (.aload_n 0, 224, 0, 0, 0, 0, .inl 0, []),
    (.iload 4, 226, 4, 0, 0, 0, .inl 0, []),
    (.iconst 2, 227, 0, 0, 0, 0, .inl 2, []),
    (.iadd, 228, 0, 0, 0, 0, .inl 0, []),
    (.iaload, 229, 1, 0, 0, 0, .inl 0, []),
    (.aload_n 0, 230, 0, 0, 0, 0, .inl 0, []),
    (.iload 4, 232, 4, 0, 0, 0, .inl 0, []),
    (.iconst 3, 233, 0, 0, 0, 0, .inl 3, []),
    (.iadd, 234, 0, 0, 0, 0, .inl 0, []),
    (.iaload, 235, 1, 0, 0, 0, .inl 0, []),
    (.aload_n 0, 236, 0, 0, 0, 0, .inl 0, []),
    (.iload 4, 238, 4, 0, 0, 0, .inl 0, []),
    (.iconst 4, 239, 0, 0, 0, 0, .inl 4, []),
    (.iadd, 240, 0, 0, 0, 0, .inl 0, []),
    (.iaload, 241, 1, 0, 0, 0, .inl 0, []),
    (.aload_n 0, 242, 0, 0, 0, 0, .inl 0, []),
    (.iload 4, 244, 4, 0, 0, 0, .inl 0, []),
    (.iconst 5, 245, 0, 0, 0, 0, .inl 5, []),
    (.iadd, 246, 0, 0, 0, 0, .inl 0, []),
    (.iaload, 247, 1, 0, 0, 0, .inl 0, []),
    (.invokevirtual 21, 250, 117, 6, 0, 10, .inl 0, []),
    (.aload_n 2, 251, 2, 0, 0, 0, .inl 0, []),
    (.aload_n 0, 252, 0, 0, 0, 0, .inl 0, []),
    (.iload 4, 254, 4, 0, 0, 0, .inl 0, []),
    (.iconst 1, 255, 0, 0, 0, 0, .inl 1, []),
    (.iadd, 256, 0, 0, 0, 0, .inl 0, []),
    (.iaload, 257, 1, 0, 0, 0, .inl 0, []),
    (.aload_n 0, 258, 0, 0, 0, 0, .inl 0, []),
    (.iload 4, 260, 4, 0, 0, 0, .inl 0, []),
    (.iconst 2, 261, 0, 0, 0, 0, .inl 2, []),
    (.iadd, 262, 0, 0, 0, 0, .inl 0, []),
    (.iaload, 263, 1, 0, 0, 0, .inl 0, []),
    (.aload_n 0, 264, 0, 0, 0, 0, .inl 0, []),
    (.iload 4, 266, 4, 0, 0, 0, .inl 0, []),
    (.iconst 3, 267, 0, 0, 0, 0, .inl 3, []),
    (.iadd, 268, 0, 0, 0, 0, .inl 0, []),
    (.iaload, 269, 1, 0, 0, 0, .inl 0, []),
    (.aload_n 0, 270, 0, 0, 0, 0, .inl 0, []),
    (.iload 4, 272, 4, 0, 0, 0, .inl 0, []),
    (.iconst 4, 273, 0, 0, 0, 0, .inl 4, []),
    (.iadd, 274, 0, 0, 0, 0, .inl 0, []),
    (.iaload, 275, 1, 0, 0, 0, .inl 0, []),
    (.aload_n 0, 276, 0, 0, 0, 0, .inl 0, []),
    (.iload 4, 278, 4, 0, 0, 0, .inl 0, []),
    (.iconst 5, 279, 0, 0, 0, 0, .inl 5, []),
    (.iadd, 280, 0, 0, 0, 0, .inl 0, []),
    (.iaload, 281, 1, 0, 0, 0, .inl 0, []),
    (.invokevirtual 25, 284, 174, 6, 0, 11, .inl 0, []),
    (.if_icmp .eq 1307, 287, 1591, 0, 0, 0, .inl 0, []),
    (.iconst 0, 288, 0, 0, 0, 0, .inl 0, []),
    (.ireturn, 289, 1, 0, 0, 0, .inl 0, [])]),
  (289, [(.aload_n 1, 290, 1, 0, 0, 0, .inl 0, []),
    (.aload_n 0, 291, 0, 0, 0, 0, .inl 0, []),
    (.iload 4, 293, 4, 0, 0, 0, .inl 0, []),
    (.iconst 1, 294, 0, 0, 0, 0, .inl 1, []),
    (.iadd, 295, 0, 0, 0, 0, .inl 0, []),
    (.iaload, 296, 1, 0, 0, 0, .inl 0, []),
    (.invokevirtual 26, 299, 118, 2, 0, 10, .inl 0, []),
    (.aload_n 2, 300, 2, 0, 0, 0, .inl 0, []),
    (.aload_n 0, 301, 0, 0, 0, 0, .inl 0, []),
    (.iload 4, 303, 4, 0, 0, 0, .inl 0, []),
    (.iconst 1, 304, 0, 0, 0, 0, .inl 1, []),
    (.iadd, 305, 0, 0, 0, 0, .inl 0, []),
    (.iaload, 306, 1, 0, 0, 0, .inl 0, []),
    (.invokevirtual 30, 309, 210, 2, 0, 11, .inl 0, []),
    (.if_icmp .eq 1282, 312, 1591, 0, 0, 0, .inl 0, []),
    (.iconst 0, 313, 0, 0, 0, 0, .inl 0, []),
    (.ireturn, 314, 1, 0, 0, 0, .inl 0, [])]),
  (314, [(.aload_n 1, 315, 1, 0, 0, 0, .inl 0, []),
    (.aload_n 0, 316, 0, 0, 0, 0, .inl 0, []),
    (.iload 4, 318, 4, 0, 0, 0, .inl 0, []),
    (.iconst 1, 319, 0, 0, 0, 0, .inl 1, []),
    (.iadd, 320, 0, 0, 0, 0, .inl 0, []),
    (.iaload, 321, 1, 0, 0, 0, .inl 0, []),
    (.invokevirtual 31, 324, 119, 2, 0, 10, .inl 0, []),
    (.aload_n 2, 325, 2, 0, 0, 0, .inl 0, []),
    (.aload_n 0, 326, 0, 0, 0, 0, .inl 0, []),
    (.iload 4, 328, 4, 0, 0, 0, .inl 0, []),
    (.iconst 1, 329, 0, 0, 0, 0, .inl 1, []),
    (.iadd, 330, 0, 0, 0, 0, .inl 0, []),
    (.iaload, 331, 1, 0, 0, 0, .inl 0, []),
    (.invokevirtual 34, 334, 211, 2, 0, 11, .inl 0, []),
    (.if_icmp .eq 1257, 337, 1591, 0, 0, 0, .inl 0, []),
    (.iconst 0, 338, 0, 0, 0, 0, .inl 0, []),
    (.ireturn, 339, 1, 0, 0, 0, .inl 0, [])]),
  (339, [(.aload_n 1, 340, 1, 0, 0, 0, .inl 0, []),
    (.aload_n 0, 341, 0, 0, 0, 0, .inl 0, []),
    (.iload 4, 343, 4, 0, 0, 0, .inl 0, []),
    (.iconst 1, 344, 0, 0, 0, 0, .inl 1, []),
    (.iadd, 345, 0, 0, 0, 0, .inl 0, []),
    (.iaload, 346, 1, 0, 0, 0, .inl 0, []),
    (.aload_n 0, 347, 0, 0, 0, 0, .inl 0, []),
    (.iload 4, 349, 4, 0, 0, 0, .inl 0, []),
    (.iconst 2, 350, 0, 0, 0, 0, .inl 2, []),
    (.iadd, 351, 0, 0, 0, 0, .inl 0, []),
    (.iaload, 352, 1, 0, 0, 0, .inl 0, []),
    (.invokevirtual 35, 355, 120, 3, 0, 10, .inl 0, []),
    (.aload_n 2, 356, 2, 0, 0, 0, .inl 0, []),
    (.aload_n 0, 357, 0, 0, 0, 0, .inl 0, []),
    (.iload 4, 359, 4, 0, 0, 0, .inl 0, []),
    (.iconst 1, 360, 0, 0, 0, 0, .inl 1, []),
    (.iadd, 361, 0, 0, 0, 0, .inl 0, []),
    (.iaload, 362, 1, 0, 0, 0, .inl 0, []),
    (.aload_n 0, 363, 0, 0, 0, 0, .inl 0, []),
    (.iload 4, 365, 4, 0, 0, 0, .inl 0, []),
    (.iconst 2, 366, 0, 0, 0, 0, .inl 2, []),
    (.iadd, 367, 0, 0, 0, 0, .inl 0, []),
    (.iaload, 368, 1, 0, 0, 0, .inl 0, []),
    (.invokevirtual 38, 371, 212, 3, 0, 11, .inl 0, []),
    (.if_icmp .eq 1220, 374, 1591, 0, 0, 0, .inl 0, []),
    (.iconst 0, 375, 0, 0, 0, 0, .inl 0, []),
    (.ireturn, 376, 1, 0, 0, 0, .inl 0, [])]),
  (376, [(.aload_n 1, 377, 1, 0, 0, 0, .inl 0, []),
    (.aload_n 0, 378, 0, 0, 0, 0, .inl 0, []),
    (.iload 4, 380, 4, 0, 0, 0, .inl 0, []),
    (.iconst 1, 381, 0, 0, 0, 0, .inl 1, []),
    (.iadd, 382, 0, 0, 0, 0, .inl 0, []),
    (.iaload, 383, 1, 0, 0, 0, .inl 0, []),
    (.aload_n 0, 384, 0, 0, 0, 0, .inl 0, []),
    (.iload 4, 386, 4, 0, 0, 0, .inl 0, []),
    (.iconst 2, 387, 0, 0, 0, 0, .inl 2, []),
    (.iadd, 388, 0, 0, 0, 0, .inl 0, []),
    (.iaload, 389, 1, 0, 0, 0, .inl 0, []),
    (.aload_n 3, 390, 3, 0, 0, 0, .inl 0, []),
    (.invokestatic 39, 393, 318, 4, 0, 1, .inl 0, []),
    (.istore 5, 395, 5, 0, 0, 0, .inl 0, []),
    (.aload_n 2, 396, 2, 0, 0, 0, .inl 0, []),
    (.aload_n 0, 397, 0, 0, 0, 0, .inl 0, []),
    (.iload 4, 399, 4, 0, 0, 0, .inl 0, []),
    (.iconst 1, 400, 0, 0, 0, 0, .inl 1, []),
    (.iadd, 401, 0, 0, 0, 0, .inl 0, []),
    (.iaload, 402, 1, 0, 0, 0, .inl 0, []),
    (.aload_n 0, 403, 0, 0, 0, 0, .inl 0, []),
    (.iload 4, 405, 4, 0, 0, 0, .inl 0, []),
    (.iconst 2, 406, 0, 0, 0, 0, .inl 2, []),
    (.iadd, 407, 0, 0, 0, 0, .inl 0, []),
    (.iaload, 408, 1, 0, 0, 0, .inl 0, []),
    (.invokevirtual 44, 411, 236, 3, 0, 11, .inl 0, []),
    (.istore 6, 413, 6, 0, 0, 0, .inl 0, []),
    (.aload_n 2, 414, 2, 0, 0, 0, .inl 0, []),
    (.invokevirtual 45, 417, 173, 1, 0, 11, .inl 0, []),
    (.iload 5, 419, 5, 0, 0, 0, .inl 0, []),
    (.if_icmp .eq 5, 422, 424, 0, 0, 0, .inl 0, []),
    (.iconst 0, 423, 0, 0, 0, 0, .inl 0, []),
    (.ireturn, 424, 1, 0, 0, 0, .inl 0, [])]),
  (424, [(.iload 5, 426, 5, 0, 0, 0, .inl 0, []),
    (.ifCond .ne 15, 429, 441, 0, 0, 0, .inl 0, []),
    (.aload_n 3, 430, 3, 0, 0, 0, .inl 0, []),
    (.iconst 0, 431, 0, 0, 0, 0, .inl 0, []),
    (.laload, 432, 0, 0, 0, 0, .inl 0, []),
    (.iload 6, 434, 6, 0, 0, 0, .inl 0, []),
    (.i2l, 435, 0, 0, 0, 0, .inl 0, []),
    (.lcmp, 436, 0, 0, 0, 0, .inl 0, []),
    (.ifCond .eq 5, 439, 441, 0, 0, 0, .inl 0, []),
    (.iconst 0, 440, 0, 0, 0, 0, .inl 0, []),
    (.ireturn, 441, 1, 0, 0, 0, .inl 0, [])]),
  (441, [(.goto 1150, 444, 1591, 0, 0, 0, .inl 0, [])]),
  (444, [(.aload_n 1, 445, 1, 0, 0, 0, .inl 0, []),
    (.aload_n 0, 446, 0, 0, 0, 0, .inl 0, []),
    (.iload 4, 448, 4, 0, 0, 0, .inl 0, []),
    (.iconst 1, 449, 0, 0, 0, 0, .inl 1, []),
    (.iadd, 450, 0, 0, 0, 0, .inl 0, []),
    (.iaload, 451, 1, 0, 0, 0, .inl 0, []),
    (.invokevirtual 49, 454, 122, 2, 0, 10, .inl 0, []),
    (.aload_n 2, 455, 2, 0, 0, 0, .inl 0, []),
    (.aload_n 0, 456, 0, 0, 0, 0, .inl 0, []),
    (.iload 4, 458, 4, 0, 0, 0, .inl 0, []),
    (.iconst 1, 459, 0, 0, 0, 0, .inl 1, []),
    (.iadd, 460, 0, 0, 0, 0, .inl 0, []),
    (.iaload, 461, 1, 0, 0, 0, .inl 0, []),
    (.invokevirtual 52, 464, 240, 2, 0, 11, .inl 0, []),
    (.if_icmp .eq 1127, 467, 1591, 0, 0, 0, .inl 0, []),
    (.iconst 0, 468, 0, 0, 0, 0, .inl 0, []),
    (.ireturn, 469, 1, 0, 0, 0, .inl 0, [])]),
  (469, [(.aload_n 1, 470, 1, 0, 0, 0, .inl 0, []),
    (.aload_n 0, 471, 0, 0, 0, 0, .inl 0, []),
    (.iload 4, 473, 4, 0, 0, 0, .inl 0, []),
    (.iconst 1, 474, 0, 0, 0, 0, .inl 1, []),
    (.iadd, 475, 0, 0, 0, 0, .inl 0, []),
    (.iaload, 476, 1, 0, 0, 0, .inl 0, []),
    (.invokevirtual 53, 479, 123, 2, 0, 10, .inl 0, []),
    (.aload_n 2, 480, 2, 0, 0, 0, .inl 0, []),
    (.aload_n 0, 481, 0, 0, 0, 0, .inl 0, []),
    (.iload 4, 483, 4, 0, 0, 0, .inl 0, []),
    (.iconst 1, 484, 0, 0, 0, 0, .inl 1, []),
    (.iadd, 485, 0, 0, 0, 0, .inl 0, []),
    (.iaload, 486, 1, 0, 0, 0, .inl 0, []),
    (.invokevirtual 56, 489, 244, 2, 0, 11, .inl 0, []),
    (.if_icmp .eq 1102, 492, 1591, 0, 0, 0, .inl 0, []),
    (.iconst 0, 493, 0, 0, 0, 0, .inl 0, []),
    (.ireturn, 494, 1, 0, 0, 0, .inl 0, [])]),
  (494, [(.aload_n 1, 495, 1, 0, 0, 0, .inl 0, []),
    (.aload_n 0, 496, 0, 0, 0, 0, .inl 0, []),
    (.iload 4, 498, 4, 0, 0, 0, .inl 0, []),
    (.iconst 1, 499, 0, 0, 0, 0, .inl 1, []),
    (.iadd, 500, 0, 0, 0, 0, .inl 0, []),
    (.iaload, 501, 1, 0, 0, 0, .inl 0, []),
    (.invokevirtual 57, 504, 124, 2, 0, 10, .inl 0, []),
    (.aload_n 2, 505, 2, 0, 0, 0, .inl 0, []),
    (.aload_n 0, 506, 0, 0, 0, 0, .inl 0, []),
    (.iload 4, 508, 4, 0, 0, 0, .inl 0, []),
    (.iconst 1, 509, 0, 0, 0, 0, .inl 1, []),
    (.iadd, 510, 0, 0, 0, 0, .inl 0, []),
    (.iaload, 511, 1, 0, 0, 0, .inl 0, []),
    (.invokevirtual 60, 514, 246, 2, 0, 11, .inl 0, []),
    (.if_icmp .eq 1077, 517, 1591, 0, 0, 0, .inl 0, []),
    (.iconst 0, 518, 0, 0, 0, 0, .inl 0, []),
    (.ireturn, 519, 1, 0, 0, 0, .inl 0, [])]),
  (519, [(.aload_n 1, 520, 1, 0, 0, 0, .inl 0, []),
    (.aload_n 0, 521, 0, 0, 0, 0, .inl 0, []),
    (.iload 4, 523, 4, 0, 0, 0, .inl 0, []),
    (.iconst 1, 524, 0, 0, 0, 0, .inl 1, []),
    (.iadd, 525, 0, 0, 0, 0, .inl 0, []),
    (.iaload, 526, 1, 0, 0, 0, .inl 0, []),
    (.aload_n 0, 527, 0, 0, 0, 0, .inl 0, []),
    (.iload 4, 529, 4, 0, 0, 0, .inl 0, []),
    (.iconst 2, 530, 0, 0, 0, 0, .inl 2, []),
    (.iadd, 531, 0, 0, 0, 0, .inl 0, []),
    (.iaload, 532, 1, 0, 0, 0, .inl 0, []),
    (.invokevirtual 61, 535, 125, 3, 0, 10, .inl 0, []),
    (.aload_n 2, 536, 2, 0, 0, 0, .inl 0, []),
    (.aload_n 0, 537, 0, 0, 0, 0, .inl 0, []),
    (.iload 4, 539, 4, 0, 0, 0, .inl 0, []),
    (.iconst 1, 540, 0, 0, 0, 0, .inl 1, []),
    (.iadd, 541, 0, 0, 0, 0, .inl 0, []),
    (.iaload, 542, 1, 0, 0, 0, .inl 0, []),
    (.aload_n 0, 543, 0, 0, 0, 0, .inl 0, []),
    (.iload 4, 545, 4, 0, 0, 0, .inl 0, []),
    (.iconst 2, 546, 0, 0, 0, 0, .inl 2, []),
    (.iadd, 547, 0, 0, 0, 0, .inl 0, []),
    (.iaload, 548, 1, 0, 0, 0, .inl 0, []),
    (.invokevirtual 64, 551, 248, 3, 0, 11, .inl 0, []),
    (.if_icmp .eq 1040, 554, 1591, 0, 0, 0, .inl 0, []),
    (.iconst 0, 555, 0, 0, 0, 0, .inl 0, []),
    (.ireturn, 556, 1, 0, 0, 0, .inl 0, [])]),
  (556, [(.aload_n 1, 557, 1, 0, 0, 0, .inl 0, []),
    (.aload_n 0, 558, 0, 0, 0, 0, .inl 0, []),
    (.iload 4, 560, 4, 0, 0, 0, .inl 0, []),
    (.iconst 1, 561, 0, 0, 0, 0, .inl 1, []),
    (.iadd, 562, 0, 0, 0, 0, .inl 0, []),
    (.iaload, 563, 1, 0, 0, 0, .inl 0, []),
    (.aload_n 0, 564, 0, 0, 0, 0, .inl 0, []),
    (.iload 4, 566, 4, 0, 0, 0, .inl 0, []),
    (.iconst 2, 567, 0, 0, 0, 0, .inl 2, []),
    (.iadd, 568, 0, 0, 0, 0, .inl 0, []),
    (.iaload, 569, 1, 0, 0, 0, .inl 0, []),
    (.aload_n 0, 570, 0, 0, 0, 0, .inl 0, []),
    (.iload 4, 572, 4, 0, 0, 0, .inl 0, []),
    (.iconst 3, 573, 0, 0, 0, 0, .inl 3, []),
    (.iadd, 574, 0, 0, 0, 0, .inl 0, []),
    (.iaload, 575, 1, 0, 0, 0, .inl 0, []),
    (.invokevirtual 65, 578, 126, 4, 0, 10, .inl 0, []),
    (.aload_n 2, 579, 2, 0, 0, 0, .inl 0, []),
    (.aload_n 0, 580, 0, 0, 0, 0, .inl 0, []),
    (.iload 4, 582, 4, 0, 0, 0, .inl 0, []),
    (.iconst 1, 583, 0, 0, 0, 0, .inl 1, []),
    (.iadd, 584, 0, 0, 0, 0, .inl 0, []),
    (.iaload, 585, 1, 0, 0, 0, .inl 0, []),
    (.aload_n 0, 586, 0, 0, 0, 0, .inl 0, []),
    (.iload 4, 588, 4, 0, 0, 0, .inl 0, []),
    (.iconst 2, 589, 0, 0, 0, 0, .inl 2, []),
    (.iadd, 590, 0, 0, 0, 0, .inl 0, []),
    (.iaload, 591, 1, 0, 0, 0, .inl 0, []),
    (.aload_n 0, 592, 0, 0, 0, 0, .inl 0, []),
    (.iload 4, 594, 4, 0, 0, 0, .inl 0, []),
    (.iconst 3, 595, 0, 0, 0, 0, .inl 3, []),
    (.iadd, 596, 0, 0, 0, 0, .inl 0, []),
    (.iaload, 597, 1, 0, 0, 0, .inl 0, []),
    (.invokevirtual 69, 600, 255, 4, 0, 11, .inl 0, []),
    (.if_icmp .eq 991, 603, 1591, 0, 0, 0, .inl 0, []),
    (.iconst 0, 604, 0, 0, 0, 0, .inl 0, []),
    (.ireturn, 605, 1, 0, 0, 0, .inl 0, [])]),
  (605, [(.aload_n 1, 606, 1, 0, 0, 0, .inl 0, []),
    (.aload_n 0, 607, 0, 0, 0, 0, .inl 0, []),
    (.iload 4, 609, 4, 0, 0, 0, .inl 0, []),
    (.iconst 1, 610, 0, 0, 0, 0, .inl 1, []),
    (.iadd, 611, 0, 0, 0, 0, .inl 0, []),
    (.iaload, 612, 1, 0, 0, 0, .inl 0, []),
    (.invokevirtual 70, 615, 127, 2, 0, 10, .inl 0, []),
    (.aload_n 2, 616, 2, 0, 0, 0, .inl 0, []),
    (.aload_n 0, 617, 0, 0, 0, 0, .inl 0, []),
    (.iload 4, 619, 4, 0, 0, 0, .inl 0, []),
    (.iconst 1, 620, 0, 0, 0, 0, .inl 1, []),
    (.iadd, 621, 0, 0, 0, 0, .inl 0, []),
    (.iaload, 622, 1, 0, 0, 0, .inl 0, []),
    (.invokevirtual 73, 625, 230, 2, 0, 11, .inl 0, []),
    (.if_icmp .eq 966, 628, 1591, 0, 0, 0, .inl 0, []),
    (.iconst 0, 629, 0, 0, 0, 0, .inl 0, []),
    (.ireturn, 630, 1, 0, 0, 0, .inl 0, [])]),
  (630, [(.aload_n 1, 631, 1, 0, 0, 0, .inl 0, []),
    (.aload_n 0, 632, 0, 0, 0, 0, .inl 0, []),
    (.iload 4, 634, 4, 0, 0, 0, .inl 0, []),
    (.iconst 1, 635, 0, 0, 0, 0, .inl 1, []),
    (.iadd, 636, 0, 0, 0, 0, .inl 0, []),
    (.iaload, 637, 1, 0, 0, 0, .inl 0, []),
    (.aload_n 0, 638, 0, 0, 0, 0, .inl 0, []),
    (.iload 4, 640, 4, 0, 0, 0, .inl 0, []),
    (.iconst 2, 641, 0, 0, 0, 0, .inl 2, []),
    (.iadd, 642, 0, 0, 0, 0, .inl 0, []),
    (.iaload, 643, 1, 0, 0, 0, .inl 0, []),
    (.invokevirtual 74, 646, 128, 3, 0, 10, .inl 0, []),
    (.aload_n 2, 647, 2, 0, 0, 0, .inl 0, []),
    (.aload_n 0, 648, 0, 0, 0, 0, .inl 0, []),
    (.iload 4, 650, 4, 0, 0, 0, .inl 0, []),
    (.iconst 1, 651, 0, 0, 0, 0, .inl 1, []),
    (.iadd, 652, 0, 0, 0, 0, .inl 0, []),
    (.iaload, 653, 1, 0, 0, 0, .inl 0, []),
    (.aload_n 0, 654, 0, 0, 0, 0, .inl 0, []),
    (.iload 4, 656, 4, 0, 0, 0, .inl 0, []),
    (.iconst 2, 657, 0, 0, 0, 0, .inl 2, []),
    (.iadd, 658, 0, 0, 0, 0, .inl 0, []),
    (.iaload, 659, 1, 0, 0, 0, .inl 0, []),
    (.invokevirtual 77, 662, 250, 3, 0, 11, .inl 0, []),
    (.if_icmp .eq 929, 665, 1591, 0, 0, 0, .inl 0, []),
    (.iconst 0, 666, 0, 0, 0, 0, .inl 0, []),
    (.ireturn, 667, 1, 0, 0, 0, .inl 0, [])]),
  (667, [(.aload_n 1, 668, 1, 0, 0, 0, .inl 0, []),
    (.aload_n 0, 669, 0, 0, 0, 0, .inl 0, []),
    (.iload 4, 671, 4, 0, 0, 0, .inl 0, []),
    (.iconst 1, 672, 0, 0, 0, 0, .inl 1, []),
    (.iadd, 673, 0, 0, 0, 0, .inl 0, []),
    (.iaload, 674, 1, 0, 0, 0, .inl 0, []),
    (.aload_n 0, 675, 0, 0, 0, 0, .inl 0, []),
    (.iload 4, 677, 4, 0, 0, 0, .inl 0, []),
    (.iconst 2, 678, 0, 0, 0, 0, .inl 2, []),
    (.iadd, 679, 0, 0, 0, 0, .inl 0, []),
    (.iaload, 680, 1, 0, 0, 0, .inl 0, []),
    (.aload_n 0, 681, 0, 0, 0, 0, .inl 0, []),
    (.iload 4, 683, 4, 0, 0, 0, .inl 0, []),
    (.iconst 3, 684, 0, 0, 0, 0, .inl 3, []),
    (.iadd, 685, 0, 0, 0, 0, .inl 0, []),
    (.iaload, 686, 1, 0, 0, 0, .inl 0, []),
    (.invokevirtual 78, 689, 129, 4, 1, 10, .inl 0, []),
    (.aload_n 2, 690, 2, 0, 0, 0, .inl 0, []),
    (.aload_n 0, 691, 0, 0, 0, 0, .inl 0, []),
    (.iload 4, 693, 4, 0, 0, 0, .inl 0, []),
    (.iconst 1, 694, 0, 0, 0, 0, .inl 1, []),
    (.iadd, 695, 0, 0, 0, 0, .inl 0, []),
    (.iaload, 696, 1, 0, 0, 0, .inl 0, []),
    (.aload_n 0, 697, 0, 0, 0, 0, .inl 0, []),
    (.iload 4, 699, 4, 0, 0, 0, .inl 0, []),
    (.iconst 2, 700, 0, 0, 0, 0, .inl 2, []),
    (.iadd, 701, 0, 0, 0, 0, .inl 0, []),
    (.iaload, 702, 1, 0, 0, 0, .inl 0, []),
    (.aload_n 0, 703, 0, 0, 0, 0, .inl 0, []),
    (.iload 4, 705, 4, 0, 0, 0, .inl 0, []),
    (.iconst 3, 706, 0, 0, 0, 0, .inl 3, []),
    (.iadd, 707, 0, 0, 0, 0, .inl 0, []),
    (.iaload, 708, 1, 0, 0, 0, .inl 0, []),
    (.invokevirtual 82, 711, 234, 4, 1, 11, .inl 0, []),
    (.lcmp, 712, 0, 0, 0, 0, .inl 0, []),
    (.ifCond .eq 879, 715, 1591, 0, 0, 0, .inl 0, []),
    (.iconst 0, 716, 0, 0, 0, 0, .inl 0, []),
    (.ireturn, 717, 1, 0, 0, 0, .inl 0, [])]),
  (717, [(.aload_n 1, 718, 1, 0, 0, 0, .inl 0, []),
    (.aload_n 0, 719, 0, 0, 0, 0, .inl 0, []),
    (.iload 4, 721, 4, 0, 0, 0, .inl 0, []),
    (.iconst 1, 722, 0, 0, 0, 0, .inl 1, []),
    (.iadd, 723, 0, 0, 0, 0, .inl 0, []),
    (.iaload, 724, 1, 0, 0, 0, .inl 0, []),
    (.aload_n 0, 725, 0, 0, 0, 0, .inl 0, []),
    (.iload 4, 727, 4, 0, 0, 0, .inl 0, []),
    (.iconst 2, 728, 0, 0, 0, 0, .inl 2, []),
    (.iadd, 729, 0, 0, 0, 0, .inl 0, []),
    (.iaload, 730, 1, 0, 0, 0, .inl 0, []),
    (.invokevirtual 83, 733, 130, 3, 0, 10, .inl 0, []),
    (.aload_n 2, 734, 2, 0, 0, 0, .inl 0, []),
    (.aload_n 0, 735, 0, 0, 0, 0, .inl 0, []),
    (.iload 4, 737, 4, 0, 0, 0, .inl 0, []),
    (.iconst 1, 738, 0, 0, 0, 0, .inl 1, []),
    (.iadd, 739, 0, 0, 0, 0, .inl 0, []),
    (.iaload, 740, 1, 0, 0, 0, .inl 0, []),
    (.aload_n 0, 741, 0, 0, 0, 0, .inl 0, []),
    (.iload 4, 743, 4, 0, 0, 0, .inl 0, []),
    (.iconst 2, 744, 0, 0, 0, 0, .inl 2, []),
    (.iadd, 745, 0, 0, 0, 0, .inl 0, []),
    (.iaload, 746, 1, 0, 0, 0, .inl 0, []),
    (.invokevirtual 86, 749, 262, 3, 0, 11, .inl 0, []),
    (.if_icmp .eq 842, 752, 1591, 0, 0, 0, .inl 0, []),
    (.iconst 0, 753, 0, 0, 0, 0, .inl 0, []),
    (.ireturn, 754, 1, 0, 0, 0, .inl 0, [])]),
  (754, [(.aload_n 1, 755, 1, 0, 0, 0, .inl 0, []),
    (.aload_n 0, 756, 0, 0, 0, 0, .inl 0, []),
    (.iload 4, 758, 4, 0, 0, 0, .inl 0, []),
    (.iconst 1, 759, 0, 0, 0, 0, .inl 1, []),
    (.iadd, 760, 0, 0, 0, 0, .inl 0, []),
    (.iaload, 761, 1, 0, 0, 0, .inl 0, []),
    (.aload_n 0, 762, 0, 0, 0, 0, .inl 0, []),
    (.iload 4, 764, 4, 0, 0, 0, .inl 0, []),
    (.iconst 2, 765, 0, 0, 0, 0, .inl 2, []),
    (.iadd, 766, 0, 0, 0, 0, .inl 0, []),
    (.iaload, 767, 1, 0, 0, 0, .inl 0, []),
    (.invokevirtual 87, 770, 131, 3, 0, 10, .inl 0, []),
    (.aload_n 2, 771, 2, 0, 0, 0, .inl 0, []),
    (.aload_n 0, 772, 0, 0, 0, 0, .inl 0, []),
    (.iload 4, 774, 4, 0, 0, 0, .inl 0, []),
    (.iconst 1, 775, 0, 0, 0, 0, .inl 1, []),
    (.iadd, 776, 0, 0, 0, 0, .inl 0, []),
    (.iaload, 777, 1, 0, 0, 0, .inl 0, []),
    (.aload_n 0, 778, 0, 0, 0, 0, .inl 0, []),
    (.iload 4, 780, 4, 0, 0, 0, .inl 0, []),
    (.iconst 2, 781, 0, 0, 0, 0, .inl 2, []),
    (.iadd, 782, 0, 0, 0, 0, .inl 0, []),
    (.iaload, 783, 1, 0, 0, 0, .inl 0, []),
    (.invokevirtual 90, 786, 265, 3, 0, 11, .inl 0, []),
    (.if_icmp .eq 805, 789, 1591, 0, 0, 0, .inl 0, []),
    (.iconst 0, 790, 0, 0, 0, 0, .inl 0, []),
    (.ireturn, 791, 1, 0, 0, 0, .inl 0, [])]),
  (791, [(.aload_n 1, 792, 1, 0, 0, 0, .inl 0, []),
    (.aload_n 0, 793, 0, 0, 0, 0, .inl 0, []),
    (.iload 4, 795, 4, 0, 0, 0, .inl 0, []),
    (.iconst 1, 796, 0, 0, 0, 0, .inl 1, []),
    (.iadd, 797, 0, 0, 0, 0, .inl 0, []),
    (.iaload, 798, 1, 0, 0, 0, .inl 0, []),
    (.aload_n 0, 799, 0, 0, 0, 0, .inl 0, []),
    (.iload 4, 801, 4, 0, 0, 0, .inl 0, []),
    (.iconst 2, 802, 0, 0, 0, 0, .inl 2, []),
    (.iadd, 803, 0, 0, 0, 0, .inl 0, []),
    (.iaload, 804, 1, 0, 0, 0, .inl 0, []),
    (.invokevirtual 91, 807, 132, 3, 0, 10, .inl 0, []),
    (.aload_n 2, 808, 2, 0, 0, 0, .inl 0, []),
    (.aload_n 0, 809, 0, 0, 0, 0, .inl 0, []),
    (.iload 4, 811, 4, 0, 0, 0, .inl 0, []),
    (.iconst 1, 812, 0, 0, 0, 0, .inl 1, []),
    (.iadd, 813, 0, 0, 0, 0, .inl 0, []),
    (.iaload, 814, 1, 0, 0, 0, .inl 0, []),
    (.aload_n 0, 815, 0, 0, 0, 0, .inl 0, []),
    (.iload 4, 817, 4, 0, 0, 0, .inl 0, []),
    (.iconst 2, 818, 0, 0, 0, 0, .inl 2, []),
    (.iadd, 819, 0, 0, 0, 0, .inl 0, []),
    (.iaload, 820, 1, 0, 0, 0, .inl 0, []),
    (.invokevirtual 94, 823, 266, 3, 0, 11, .inl 0, []),
    (.if_icmp .eq 768, 826, 1591, 0, 0, 0, .inl 0, []),
    (.iconst 0, 827, 0, 0, 0, 0, .inl 0, []),
    (.ireturn, 828, 1, 0, 0, 0, .inl 0, [])]),
  (828, [(.aload_n 1, 829, 1, 0, 0, 0, .inl 0, []),
    (.aload_n 0, 830, 0, 0, 0, 0, .inl 0, []),
    (.iload 4, 832, 4, 0, 0, 0, .inl 0, []),
    (.iconst 1, 833, 0, 0, 0, 0, .inl 1, []),
    (.iadd, 834, 0, 0, 0, 0, .inl 0, []),
    (.iaload, 835, 1, 0, 0, 0, .inl 0, []),
    (.invokevirtual 95, 838, 133, 2, 0, 10, .inl 0, []),
    (.aload_n 2, 839, 2, 0, 0, 0, .inl 0, []),
    (.aload_n 0, 840, 0, 0, 0, 0, .inl 0, []),
    (.iload 4, 842, 4, 0, 0, 0, .inl 0, []),
    (.iconst 1, 843, 0, 0, 0, 0, .inl 1, []),
    (.iadd, 844, 0, 0, 0, 0, .inl 0, []),
    (.iaload, 845, 1, 0, 0, 0, .inl 0, []),
    (.invokevirtual 98, 848, 272, 2, 0, 11, .inl 0, []),
    (.if_icmp .eq 743, 851, 1591, 0, 0, 0, .inl 0, []),
    (.iconst 0, 852, 0, 0, 0, 0, .inl 0, []),
    (.ireturn, 853, 1, 0, 0, 0, .inl 0, [])]),
  (853, [(.aload_n 1, 854, 1, 0, 0, 0, .inl 0, []),
    (.aload_n 0, 855, 0, 0, 0, 0, .inl 0, []),
    (.iload 4, 857, 4, 0, 0, 0, .inl 0, []),
    (.iconst 1, 858, 0, 0, 0, 0, .inl 1, []),
    (.iadd, 859, 0, 0, 0, 0, .inl 0, []),
    (.iaload, 860, 1, 0, 0, 0, .inl 0, []),
    (.invokevirtual 99, 863, 134, 2, 0, 10, .inl 0, []),
    (.aload_n 2, 864, 2, 0, 0, 0, .inl 0, []),
    (.aload_n 0, 865, 0, 0, 0, 0, .inl 0, []),
    (.iload 4, 867, 4, 0, 0, 0, .inl 0, []),
    (.iconst 1, 868, 0, 0, 0, 0, .inl 1, []),
    (.iadd, 869, 0, 0, 0, 0, .inl 0, []),
    (.iaload, 870, 1, 0, 0, 0, .inl 0, []),
    (.invokevirtual 102, 873, 273, 2, 0, 11, .inl 0, []),
    (.if_icmp .eq 718, 876, 1591, 0, 0, 0, .inl 0, []),
    (.iconst 0, 877, 0, 0, 0, 0, .inl 0, []),
    (.ireturn, 878, 1, 0, 0, 0, .inl 0, [])]),
  (878, [(.aload_n 1, 879, 1, 0, 0, 0, .inl 0, []),
    (.aload_n 0, 880, 0, 0, 0, 0, .inl 0, []),
    (.iload 4, 882, 4, 0, 0, 0, .inl 0, []),
    (.iconst 1, 883, 0, 0, 0, 0, .inl 1, []),
    (.iadd, 884, 0, 0, 0, 0, .inl 0, []),
    (.iaload, 885, 1, 0, 0, 0, .inl 0, []),
    (.aload_n 0, 886, 0, 0, 0, 0, .inl 0, []),
    (.iload 4, 888, 4, 0, 0, 0, .inl 0, []),
    (.iconst 2, 889, 0, 0, 0, 0, .inl 2, []),
    (.iadd, 890, 0, 0, 0, 0, .inl 0, []),
    (.iaload, 891, 1, 0, 0, 0, .inl 0, []),
    (.invokevirtual 103, 894, 135, 3, 0, 10, .inl 0, []),
    (.aload_n 2, 895, 2, 0, 0, 0, .inl 0, []),
    (.aload_n 0, 896, 0, 0, 0, 0, .inl 0, []),
    (.iload 4, 898, 4, 0, 0, 0, .inl 0, []),
    (.iconst 1, 899, 0, 0, 0, 0, .inl 1, []),
    (.iadd, 900, 0, 0, 0, 0, .inl 0, []),
    (.iaload, 901, 1, 0, 0, 0, .inl 0, []),
    (.aload_n 0, 902, 0, 0, 0, 0, .inl 0, []),
    (.iload 4, 904, 4, 0, 0, 0, .inl 0, []),
    (.iconst 2, 905, 0, 0, 0, 0, .inl 2, []),
    (.iadd, 906, 0, 0, 0, 0, .inl 0, []),
    (.iaload, 907, 1, 0, 0, 0, .inl 0, []),
    (.invokevirtual 106, 910, 275, 3, 0, 11, .inl 0, []),
    (.if_icmp .eq 681, 913, 1591, 0, 0, 0, .inl 0, []),
    (.iconst 0, 914, 0, 0, 0, 0, .inl 0, []),
    (.ireturn, 915, 1, 0, 0, 0, .inl 0, [])]),
  (915, [(.aload_n 1, 916, 1, 0, 0, 0, .inl 0, []),
    (.aload_n 0, 917, 0, 0, 0, 0, .inl 0, []),
    (.iload 4, 919, 4, 0, 0, 0, .inl 0, []),
    (.iconst 1, 920, 0, 0, 0, 0, .inl 1, []),
    (.iadd, 921, 0, 0, 0, 0, .inl 0, []),
    (.iaload, 922, 1, 0, 0, 0, .inl 0, []),
    (.invokevirtual 107, 925, 136, 2, 0, 10, .inl 0, []),
    (.aload_n 2, 926, 2, 0, 0, 0, .inl 0, []),
    (.aload_n 0, 927, 0, 0, 0, 0, .inl 0, []),
    (.iload 4, 929, 4, 0, 0, 0, .inl 0, []),
    (.iconst 1, 930, 0, 0, 0, 0, .inl 1, []),
    (.iadd, 931, 0, 0, 0, 0, .inl 0, []),
    (.iaload, 932, 1, 0, 0, 0, .inl 0, []),
    (.invokevirtual 111, 935, 276, 2, 0, 11, .inl 0, []),
    (.if_icmp .eq 656, 938, 1591, 0, 0, 0, .inl 0, []),
    (.iconst 0, 939, 0, 0, 0, 0, .inl 0, []),
    (.ireturn, 940, 1, 0, 0, 0, .inl 0, [])]),
  (940, [(.aload_n 1, 941, 1, 0, 0, 0, .inl 0, []),
    (.aload_n 0, 942, 0, 0, 0, 0, .inl 0, []),
    (.iload 4, 944, 4, 0, 0, 0, .inl 0, []),
    (.iconst 1, 945, 0, 0, 0, 0, .inl 1, []),
    (.iadd, 946, 0, 0, 0, 0, .inl 0, []),
    (.iaload, 947, 1, 0, 0, 0, .inl 0, []),
    (.invokevirtual 112, 950, 137, 2, 0, 10, .inl 0, []),
    (.aload_n 2, 951, 2, 0, 0, 0, .inl 0, []),
    (.aload_n 0, 952, 0, 0, 0, 0, .inl 0, []),
    (.iload 4, 954, 4, 0, 0, 0, .inl 0, []),
    (.iconst 1, 955, 0, 0, 0, 0, .inl 1, []),
    (.iadd, 956, 0, 0, 0, 0, .inl 0, []),
    (.iaload, 957, 1, 0, 0, 0, .inl 0, []),
    (.invokevirtual 115, 960, 278, 2, 0, 11, .inl 0, []),
    (.if_icmp .eq 631, 963, 1591, 0, 0, 0, .inl 0, []),
    (.iconst 0, 964, 0, 0, 0, 0, .inl 0, []),
    (.ireturn, 965, 1, 0, 0, 0, .inl 0, [])]),
  (965, [(.aload_n 1, 966, 1, 0, 0, 0, .inl 0, []),
    (.aload_n 0, 967, 0, 0, 0, 0, .inl 0, []),
    (.iload 4, 969, 4, 0, 0, 0, .inl 0, []),
    (.iconst 1, 970, 0, 0, 0, 0, .inl 1, []),
    (.iadd, 971, 0, 0, 0, 0, .inl 0, []),
    (.iaload, 972, 1, 0, 0, 0, .inl 0, []),
    (.aload_n 0, 973, 0, 0, 0, 0, .inl 0, []),
    (.iload 4, 975, 4, 0, 0, 0, .inl 0, []),
    (.iconst 2, 976, 0, 0, 0, 0, .inl 2, []),
    (.iadd, 977, 0, 0, 0, 0, .inl 0, []),
    (.iaload, 978, 1, 0, 0, 0, .inl 0, []),
    (.invokevirtual 116, 981, 138, 3, 0, 10, .inl 0, []),
    (.aload_n 2, 982, 2, 0, 0, 0, .inl 0, []),
    (.aload_n 0, 983, 0, 0, 0, 0, .inl 0, []),
    (.iload 4, 985, 4, 0, 0, 0, .inl 0, []),
    (.iconst 1, 986, 0, 0, 0, 0, .inl 1, []),
    (.iadd, 987, 0, 0, 0, 0, .inl 0, []),
    (.iaload, 988, 1, 0, 0, 0, .inl 0, []),
    (.aload_n 0, 989, 0, 0, 0, 0, .inl 0, []),
    (.iload 4, 991, 4, 0, 0, 0, .inl 0, []),
    (.iconst 2, 992, 0, 0, 0, 0, .inl 2, []),
    (.iadd, 993, 0, 0, 0, 0, .inl 0, []),
    (.iaload, 994, 1, 0, 0, 0, .inl 0, []),
    (.invokevirtual 119, 997, 281, 3, 0, 11, .inl 0, []),
    (.if_icmp .eq 594, 1000, 1591, 0, 0, 0, .inl 0, []),
    (.iconst 0, 1001, 0, 0, 0, 0, .inl 0, []),
    (.ireturn, 1002, 1, 0, 0, 0, .inl 0, [])]),
  (1002, [(.aload_n 1, 1003, 1, 0, 0, 0, .inl 0, []),
    (.aload_n 0, 1004, 0, 0, 0, 0, .inl 0, []),
    (.iload 4, 1006, 4, 0, 0, 0, .inl 0, []),
    (.iconst 1, 1007, 0, 0, 0, 0, .inl 1, []),
    (.iadd, 1008, 0, 0, 0, 0, .inl 0, []),
    (.iaload, 1009, 1, 0, 0, 0, .inl 0, []),
    (.invokevirtual 120, 1012, 139, 2, 0, 10, .inl 0, []),
    (.aload_n 2, 1013, 2, 0, 0, 0, .inl 0, []),
    (.aload_n 0, 1014, 0, 0, 0, 0, .inl 0, []),
    (.iload 4, 1016, 4, 0, 0, 0, .inl 0, []),
    (.iconst 1, 1017, 0, 0, 0, 0, .inl 1, []),
    (.iadd, 1018, 0, 0, 0, 0, .inl 0, []),
    (.iaload, 1019, 1, 0, 0, 0, .inl 0, []),
    (.invokevirtual 123, 1022, 285, 2, 0, 11, .inl 0, []),
    (.if_icmp .eq 569, 1025, 1591, 0, 0, 0, .inl 0, []),
    (.iconst 0, 1026, 0, 0, 0, 0, .inl 0, []),
    (.ireturn, 1027, 1, 0, 0, 0, .inl 0, [])]),
  (1027, [(.aload_n 1, 1028, 1, 0, 0, 0, .inl 0, []),
    (.aload_n 0, 1029, 0, 0, 0, 0, .inl 0, []),
    (.iload 4, 1031, 4, 0, 0, 0, .inl 0, []),
    (.iconst 1, 1032, 0, 0, 0, 0, .inl 1, []),
    (.iadd, 1033, 0, 0, 0, 0, .inl 0, []),
    (.iaload, 1034, 1, 0, 0, 0, .inl 0, []),
    (.aload_n 0, 1035, 0, 0, 0, 0, .inl 0, []),
    (.iload 4, 1037, 4, 0, 0, 0, .inl 0, []),
    (.iconst 2, 1038, 0, 0, 0, 0, .inl 2, []),
    (.iadd, 1039, 0, 0, 0, 0, .inl 0, []),
    (.iaload, 1040, 1, 0, 0, 0, .inl 0, []),
    (.invokevirtual 124, 1043, 140, 3, 0, 10, .inl 0, []),
    (.aload_n 2, 1044, 2, 0, 0, 0, .inl 0, []),
    (.aload_n 0, 1045, 0, 0, 0, 0, .inl 0, []),
    (.iload 4, 1047, 4, 0, 0, 0, .inl 0, []),
    (.iconst 1, 1048, 0, 0, 0, 0, .inl 1, []),
    (.iadd, 1049, 0, 0, 0, 0, .inl 0, []),
    (.iaload, 1050, 1, 0, 0, 0, .inl 0, []),
    (.aload_n 0, 1051, 0, 0, 0, 0, .inl 0, []),
    (.iload 4, 1053, 4, 0, 0, 0, .inl 0, []),
    (.iconst 2, 1054, 0, 0, 0, 0, .inl 2, []),
    (.iadd, 1055, 0, 0, 0, 0, .inl 0, []),
    (.iaload, 1056, 1, 0, 0, 0, .inl 0, []),
    (.invokevirtual 127, 1059, 283, 3, 0, 11, .inl 0, []),
    (.if_icmp .eq 532, 1062, 1591, 0, 0, 0, .inl 0, []),
    (.iconst 0, 1063, 0, 0, 0, 0, .inl 0, []),
    (.ireturn, 1064, 1, 0, 0, 0, .inl 0, [])]),
  (1064, [(.aload_n 1, 1065, 1, 0, 0, 0, .inl 0, []),
    (.aload_n 0, 1066, 0, 0, 0, 0, .inl 0, []),
    (.iload 4, 1068, 4, 0, 0, 0, .inl 0, []),
    (.iconst 1, 1069, 0, 0, 0, 0, .inl 1, []),
    (.iadd, 1070, 0, 0, 0, 0, .inl 0, []),
    (.iaload, 1071, 1, 0, 0, 0, .inl 0, []),
    (.aload_n 0, 1072, 0, 0, 0, 0, .inl 0, []),
    (.iload 4, 1074, 4, 0, 0, 0, .inl 0, []),
    (.iconst 2, 1075, 0, 0, 0, 0, .inl 2, []),
    (.iadd, 1076, 0, 0, 0, 0, .inl 0, []),
    (.iaload, 1077, 1, 0, 0, 0, .inl 0, []),
    (.invokevirtual 128, 1080, 141, 3, 1, 10, .inl 0, []),
    (.aload_n 2, 1081, 2, 0, 0, 0, .inl 0, []),
    (.aload_n 0, 1082, 0, 0, 0, 0, .inl 0, []),
    (.iload 4, 1084, 4, 0, 0, 0, .inl 0, []),
    (.iconst 1, 1085, 0, 0, 0, 0, .inl 1, []),
    (.iadd, 1086, 0, 0, 0, 0, .inl 0, []),
    (.iaload, 1087, 1, 0, 0, 0, .inl 0, []),
    (.aload_n 0, 1088, 0, 0, 0, 0, .inl 0, []),
    (.iload 4, 1090, 4, 0, 0, 0, .inl 0, []),
    (.iconst 2, 1091, 0, 0, 0, 0, .inl 2, []),
    (.iadd, 1092, 0, 0, 0, 0, .inl 0, []),
    (.iaload, 1093, 1, 0, 0, 0, .inl 0, []),
    (.invokevirtual 132, 1096, 286, 3, 1, 11, .inl 0, []),
    (.lcmp, 1097, 0, 0, 0, 0, .inl 0, []),
    (.ifCond .eq 494, 1100, 1591, 0, 0, 0, .inl 0, []),
    (.iconst 0, 1101, 0, 0, 0, 0, .inl 0, []),
    (.ireturn, 1102, 1, 0, 0, 0, .inl 0, [])]),
  (1102, [(.aload_n 1, 1103, 1, 0, 0, 0, .inl 0, []),
    (.aload_n 0, 1104, 0, 0, 0, 0, .inl 0, []),
    (.iload 4, 1106, 4, 0, 0, 0, .inl 0, []),
    (.iconst 1, 1107, 0, 0, 0, 0, .inl 1, []),
    (.iadd, 1108, 0, 0, 0, 0, .inl 0, []),
    (.iaload, 1109, 1, 0, 0, 0, .inl 0, []),
    (.invokevirtual 133, 1112, 142, 2, 0, 10, .inl 0, []),
    (.aload_n 2, 1113, 2, 0, 0, 0, .inl 0, []),
    (.aload_n 0, 1114, 0, 0, 0, 0, .inl 0, []),
    (.iload 4, 1116, 4, 0, 0, 0, .inl 0, []),
    (.iconst 1, 1117, 0, 0, 0, 0, .inl 1, []),
    (.iadd, 1118, 0, 0, 0, 0, .inl 0, []),
    (.iaload, 1119, 1, 0, 0, 0, .inl 0, []),
    (.invokevirtual 136, 1122, 289, 2, 0, 11, .inl 0, []),
    (.if_icmp .eq 469, 1125, 1591, 0, 0, 0, .inl 0, []),
    (.iconst 0, 1126, 0, 0, 0, 0, .inl 0, []),
    (.ireturn, 1127, 1, 0, 0, 0, .inl 0, [])]),
  (1127, [(.aload_n 1, 1128, 1, 0, 0, 0, .inl 0, []),
    (.aload_n 0, 1129, 0, 0, 0, 0, .inl 0, []),
    (.iload 4, 1131, 4, 0, 0, 0, .inl 0, []),
    (.iconst 1, 1132, 0, 0, 0, 0, .inl 1, []),
    (.iadd, 1133, 0, 0, 0, 0, .inl 0, []),
    (.iaload, 1134, 1, 0, 0, 0, .inl 0, []),
    (.aload_n 0, 1135, 0, 0, 0, 0, .inl 0, []),
    (.iload 4, 1137, 4, 0, 0, 0, .inl 0, []),
    (.iconst 2, 1138, 0, 0, 0, 0, .inl 2, []),
    (.iadd, 1139, 0, 0, 0, 0, .inl 0, []),
    (.iaload, 1140, 1, 0, 0, 0, .inl 0, []),
    (.invokevirtual 137, 1143, 143, 3, 1, 10, .inl 0, []),
    (.aload_n 2, 1144, 2, 0, 0, 0, .inl 0, []),
    (.aload_n 0, 1145, 0, 0, 0, 0, .inl 0, []),
    (.iload 4, 1147, 4, 0, 0, 0, .inl 0, []),
    (.iconst 1, 1148, 0, 0, 0, 0, .inl 1, []),
    (.iadd, 1149, 0, 0, 0, 0, .inl 0, []),
    (.iaload, 1150, 1, 0, 0, 0, .inl 0, []),
    (.aload_n 0, 1151, 0, 0, 0, 0, .inl 0, []),
    (.iload 4, 1153, 4, 0, 0, 0, .inl 0, []),
    (.iconst 2, 1154, 0, 0, 0, 0, .inl 2, []),
    (.iadd, 1155, 0, 0, 0, 0, .inl 0, []),
    (.iaload, 1156, 1, 0, 0, 0, .inl 0, []),
    (.invokevirtual 140, 1159, 295, 3, 1, 11, .inl 0, []),
    (.lcmp, 1160, 0, 0, 0, 0, .inl 0, []),
    (.ifCond .eq 431, 1163, 1591, 0, 0, 0, .inl 0, []),
    (.iconst 0, 1164, 0, 0, 0, 0, .inl 0, []),
    (.ireturn, 1165, 1, 0, 0, 0, .inl 0, [])]),
  (1165, [(.aload_n 1, 1166, 1, 0, 0, 0, .inl 0, []),
    (.aload_n 0, 1167, 0, 0, 0, 0, .inl 0, []),
    (.iload 4, 1169, 4, 0, 0, 0, .inl 0, []),
    (.iconst 1, 1170, 0, 0, 0, 0, .inl 1, []),
    (.iadd, 1171, 0, 0, 0, 0, .inl 0, []),
    (.iaload, 1172, 1, 0, 0, 0, .inl 0, []),
    (.aload_n 0, 1173, 0, 0, 0, 0, .inl 0, []),
    (.iload 4, 1175, 4, 0, 0, 0, .inl 0, []),
    (.iconst 2, 1176, 0, 0, 0, 0, .inl 2, []),
    (.iadd, 1177, 0, 0, 0, 0, .inl 0, []),
    (.iaload, 1178, 1, 0, 0, 0, .inl 0, []),
    (.invokevirtual 141, 1181, 144, 3, 0, 10, .inl 0, []),
    (.aload_n 2, 1182, 2, 0, 0, 0, .inl 0, []),
    (.aload_n 0, 1183, 0, 0, 0, 0, .inl 0, []),
    (.iload 4, 1185, 4, 0, 0, 0, .inl 0, []),
    (.iconst 1, 1186, 0, 0, 0, 0, .inl 1, []),
    (.iadd, 1187, 0, 0, 0, 0, .inl 0, []),
    (.iaload, 1188, 1, 0, 0, 0, .inl 0, []),
    (.aload_n 0, 1189, 0, 0, 0, 0, .inl 0, []),
    (.iload 4, 1191, 4, 0, 0, 0, .inl 0, []),
    (.iconst 2, 1192, 0, 0, 0, 0, .inl 2, []),
    (.iadd, 1193, 0, 0, 0, 0, .inl 0, []),
    (.iaload, 1194, 1, 0, 0, 0, .inl 0, []),
    (.invokevirtual 144, 1197, 296, 3, 0, 11, .inl 0, []),
    (.if_icmp .eq 394, 1200, 1591, 0, 0, 0, .inl 0, []),
    (.iconst 0, 1201, 0, 0, 0, 0, .inl 0, []),
    (.ireturn, 1202, 1, 0, 0, 0, .inl 0, [])]),
  (1202, [(.aload_n 1, 1203, 1, 0, 0, 0, .inl 0, []),
    (.invokevirtual 145, 1206, 145, 1, 0, 10, .inl 0, []),
    (.aload_n 2, 1207, 2, 0, 0, 0, .inl 0, []),
    (.invokevirtual 148, 1210, 279, 1, 0, 11, .inl 0, []),
    (.if_icmp .eq 381, 1213, 1591, 0, 0, 0, .inl 0, []),
    (.iconst 0, 1214, 0, 0, 0, 0, .inl 0, []),
    (.ireturn, 1215, 1, 0, 0, 0, .inl 0, [])]),
  (1215, [(.aload_n 1, 1216, 1, 0, 0, 0, .inl 0, []),
    (.aload_n 0, 1217, 0, 0, 0, 0, .inl 0, []),
    (.iload 4, 1219, 4, 0, 0, 0, .inl 0, []),
    (.iconst 1, 1220, 0, 0, 0, 0, .inl 1, []),
    (.iadd, 1221, 0, 0, 0, 0, .inl 0, []),
    (.iaload, 1222, 1, 0, 0, 0, .inl 0, []),
    (.invokevirtual 149, 1225, 146, 2, 0, 10, .inl 0, []),
    (.aload_n 2, 1226, 2, 0, 0, 0, .inl 0, []),
    (.aload_n 0, 1227, 0, 0, 0, 0, .inl 0, []),
    (.iload 4, 1229, 4, 0, 0, 0, .inl 0, []),
    (.iconst 1, 1230, 0, 0, 0, 0, .inl 1, []),
    (.iadd, 1231, 0, 0, 0, 0, .inl 0, []),
    (.iaload, 1232, 1, 0, 0, 0, .inl 0, []),
    (.invokevirtual 152, 1235, 291, 2, 0, 11, .inl 0, []),
    (.if_icmp .eq 356, 1238, 1591, 0, 0, 0, .inl 0, []),
    (.iconst 0, 1239, 0, 0, 0, 0, .inl 0, []),
    (.ireturn, 1240, 1, 0, 0, 0, .inl 0, [])]),
  (1240, [(.aload_n 1, 1241, 1, 0, 0, 0, .inl 0, []),
    (.aload_n 0, 1242, 0, 0, 0, 0, .inl 0, []),
    (.iload 4, 1244, 4, 0, 0, 0, .inl 0, []),
    (.iconst 1, 1245, 0, 0, 0, 0, .inl 1, []),
    (.iadd, 1246, 0, 0, 0, 0, .inl 0, []),
    (.iaload, 1247, 1, 0, 0, 0, .inl 0, []),
    (.aload_n 0, 1248, 0, 0, 0, 0, .inl 0, []),
    (.iload 4, 1250, 4, 0, 0, 0, .inl 0, []),
    (.iconst 2, 1251, 0, 0, 0, 0, .inl 2, []),
    (.iadd, 1252, 0, 0, 0, 0, .inl 0, []),
    (.iaload, 1253, 1, 0, 0, 0, .inl 0, []),
    (.aload_n 0, 1254, 0, 0, 0, 0, .inl 0, []),
    (.iload 4, 1256, 4, 0, 0, 0, .inl 0, []),
    (.iconst 3, 1257, 0, 0, 0, 0, .inl 3, []),
    (.iadd, 1258, 0, 0, 0, 0, .inl 0, []),
    (.iaload, 1259, 1, 0, 0, 0, .inl 0, []),
    (.aload_n 0, 1260, 0, 0, 0, 0, .inl 0, []),
    (.iload 4, 1262, 4, 0, 0, 0, .inl 0, []),
    (.iconst 4, 1263, 0, 0, 0, 0, .inl 4, []),
    (.iadd, 1264, 0, 0, 0, 0, .inl 0, []),
    (.iaload, 1265, 1, 0, 0, 0, .inl 0, []),
    (.invokevirtual 153, 1268, 147, 5, 1, 10, .inl 0, []),
    (.aload_n 2, 1269, 2, 0, 0, 0, .inl 0, []),
    (.aload_n 0, 1270, 0, 0, 0, 0, .inl 0, []),
    (.iload 4, 1272, 4, 0, 0, 0, .inl 0, []),
    (.iconst 1, 1273, 0, 0, 0, 0, .inl 1, []),
    (.iadd, 1274, 0, 0, 0, 0, .inl 0, []),
    (.iaload, 1275, 1, 0, 0, 0, .inl 0, []),
    (.aload_n 0, 1276, 0, 0, 0, 0, .inl 0, []),
    (.iload 4, 1278, 4, 0, 0, 0, .inl 0, []),
    (.iconst 2, 1279, 0, 0, 0, 0, .inl 2, []),
    (.iadd, 1280, 0, 0, 0, 0, .inl 0, []),
    (.iaload, 1281, 1, 0, 0, 0, .inl 0, []),
    (.aload_n 0, 1282, 0, 0, 0, 0, .inl 0, []),
    (.iload 4, 1284, 4, 0, 0, 0, .inl 0, []),
    (.iconst 3, 1285, 0, 0, 0, 0, .inl 3, []),
    (.iadd, 1286, 0, 0, 0, 0, .inl 0, []),
    (.iaload, 1287, 1, 0, 0, 0, .inl 0, []),
    (.aload_n 0, 1288, 0, 0, 0, 0, .inl 0, []),
    (.iload 4, 1290, 4, 0, 0, 0, .inl 0, []),
    (.iconst 4, 1291, 0, 0, 0, 0, .inl 4, []),
    (.iadd, 1292, 0, 0, 0, 0, .inl 0, []),
    (.iaload, 1293, 1, 0, 0, 0, .inl 0, []),
    (.invokevirtual 157, 1296, 292, 5, 1, 11, .inl 0, []),
    (.lcmp, 1297, 0, 0, 0, 0, .inl 0, []),
    (.ifCond .eq 294, 1300, 1591, 0, 0, 0, .inl 0, []),
    (.iconst 0, 1301, 0, 0, 0, 0, .inl 0, []),
    (.ireturn, 1302, 1, 0, 0, 0, .inl 0, [])]),
  (1302, [(.aload_n 1, 1303, 1, 0, 0, 0, .inl 0, []),
    (.aload_n 0, 1304, 0, 0, 0, 0, .inl 0, []),
    (.iload 4, 1306, 4, 0, 0, 0, .inl 0, []),
    (.iconst 1, 1307, 0, 0, 0, 0, .inl 1, []),
    (.iadd, 1308, 0, 0, 0, 0, .inl 0, []),
    (.iaload, 1309, 1, 0, 0, 0, .inl 0, []),
    (.aload_n 0, 1310, 0, 0, 0, 0, .inl 0, []),
    (.iload 4, 1312, 4, 0, 0, 0, .inl 0, []),
    (.iconst 2, 1313, 0, 0, 0, 0, .inl 2, []),
    (.iadd, 1314, 0, 0, 0, 0, .inl 0, []),
    (.iaload, 1315, 1, 0, 0, 0, .inl 0, []),
    (.invokevirtual 158, 1318, 148, 3, 0, 10, .inl 0, []),
    (.aload_n 2, 1319, 2, 0, 0, 0, .inl 0, []),
    (.aload_n 0, 1320, 0, 0, 0, 0, .inl 0, []),
    (.iload 4, 1322, 4, 0, 0, 0, .inl 0, []),
    (.iconst 1, 1323, 0, 0, 0, 0, .inl 1, []),
    (.iadd, 1324, 0, 0, 0, 0, .inl 0, []),
    (.iaload, 1325, 1, 0, 0, 0, .inl 0, []),
    (.aload_n 0, 1326, 0, 0, 0, 0, .inl 0, []),
    (.iload 4, 1328, 4, 0, 0, 0, .inl 0, []),
    (.iconst 2, 1329, 0, 0, 0, 0, .inl 2, []),
    (.iadd, 1330, 0, 0, 0, 0, .inl 0, []),
    (.iaload, 1331, 1, 0, 0, 0, .inl 0, []),
    (.invokevirtual 161, 1334, 298, 3, 0, 11, .inl 0, []),
    (.if_icmp .eq 257, 1337, 1591, 0, 0, 0, .inl 0, []),
    (.iconst 0, 1338, 0, 0, 0, 0, .inl 0, []),
    (.ireturn, 1339, 1, 0, 0, 0, .inl 0, [])]),
  (1339, [(.aload_n 1, 1340, 1, 0, 0, 0, .inl 0, []),
    (.aload_n 0, 1341, 0, 0, 0, 0, .inl 0, []),
    (.iload 4, 1343, 4, 0, 0, 0, .inl 0, []),
    (.iconst 1, 1344, 0, 0, 0, 0, .inl 1, []),
    (.iadd, 1345, 0, 0, 0, 0, .inl 0, []),
    (.iaload, 1346, 1, 0, 0, 0, .inl 0, []),
    (.invokevirtual 162, 1349, 149, 2, 0, 10, .inl 0, []),
    (.aload_n 2, 1350, 2, 0, 0, 0, .inl 0, []),
    (.aload_n 0, 1351, 0, 0, 0, 0, .inl 0, []),
    (.iload 4, 1353, 4, 0, 0, 0, .inl 0, []),
    (.iconst 1, 1354, 0, 0, 0, 0, .inl 1, []),
    (.iadd, 1355, 0, 0, 0, 0, .inl 0, []),
    (.iaload, 1356, 1, 0, 0, 0, .inl 0, []),
    (.invokevirtual 165, 1359, 299, 2, 0, 11, .inl 0, []),
    (.if_icmp .eq 232, 1362, 1591, 0, 0, 0, .inl 0, []),
    (.iconst 0, 1363, 0, 0, 0, 0, .inl 0, []),
    (.ireturn, 1364, 1, 0, 0, 0, .inl 0, [])]),
  (1364, [(.aload_n 1, 1365, 1, 0, 0, 0, .inl 0, []),
    (.aload_n 0, 1366, 0, 0, 0, 0, .inl 0, []),
    (.iload 4, 1368, 4, 0, 0, 0, .inl 0, []),
    (.iconst 1, 1369, 0, 0, 0, 0, .inl 1, []),
    (.iadd, 1370, 0, 0, 0, 0, .inl 0, []),
    (.iaload, 1371, 1, 0, 0, 0, .inl 0, []),
    (.invokevirtual 166, 1374, 150, 2, 0, 10, .inl 0, []),
    (.aload_n 2, 1375, 2, 0, 0, 0, .inl 0, []),
    (.aload_n 0, 1376, 0, 0, 0, 0, .inl 0, []),
    (.iload 4, 1378, 4, 0, 0, 0, .inl 0, []),
    (.iconst 1, 1379, 0, 0, 0, 0, .inl 1, []),
    (.iadd, 1380, 0, 0, 0, 0, .inl 0, []),
    (.iaload, 1381, 1, 0, 0, 0, .inl 0, []),
    (.invokevirtual 169, 1384, 300, 2, 0, 11, .inl 0, []),
    (.if_icmp .eq 207, 1387, 1591, 0, 0, 0, .inl 0, []),
    (.iconst 0, 1388, 0, 0, 0, 0, .inl 0, []),
    (.ireturn, 1389, 1, 0, 0, 0, .inl 0, [])]),
  (1389, [(.aload_n 1, 1390, 1, 0, 0, 0, .inl 0, []),
    (.aload_n 0, 1391, 0, 0, 0, 0, .inl 0, []),
    (.iload 4, 1393, 4, 0, 0, 0, .inl 0, []),
    (.iconst 1, 1394, 0, 0, 0, 0, .inl 1, []),
    (.iadd, 1395, 0, 0, 0, 0, .inl 0, []),
    (.iaload, 1396, 1, 0, 0, 0, .inl 0, []),
    (.invokevirtual 170, 1399, 151, 2, 0, 10, .inl 0, []),
    (.aload_n 2, 1400, 2, 0, 0, 0, .inl 0, []),
    (.aload_n 0, 1401, 0, 0, 0, 0, .inl 0, []),
    (.iload 4, 1403, 4, 0, 0, 0, .inl 0, []),
    (.iconst 1, 1404, 0, 0, 0, 0, .inl 1, []),
    (.iadd, 1405, 0, 0, 0, 0, .inl 0, []),
    (.iaload, 1406, 1, 0, 0, 0, .inl 0, []),
    (.invokevirtual 173, 1409, 301, 2, 0, 11, .inl 0, []),
    (.if_icmp .eq 182, 1412, 1591, 0, 0, 0, .inl 0, []),
    (.iconst 0, 1413, 0, 0, 0, 0, .inl 0, []),
    (.ireturn, 1414, 1, 0, 0, 0, .inl 0, [])]),
  (1414, [(.aload_n 1, 1415, 1, 0, 0, 0, .inl 0, []),
    (.aload_n 0, 1416, 0, 0, 0, 0, .inl 0, []),
    (.iload 4, 1418, 4, 0, 0, 0, .inl 0, []),
    (.iconst 1, 1419, 0, 0, 0, 0, .inl 1, []),
    (.iadd, 1420, 0, 0, 0, 0, .inl 0, []),
    (.iaload, 1421, 1, 0, 0, 0, .inl 0, []),
    (.aload_n 0, 1422, 0, 0, 0, 0, .inl 0, []),
    (.iload 4, 1424, 4, 0, 0, 0, .inl 0, []),
    (.iconst 2, 1425, 0, 0, 0, 0, .inl 2, []),
    (.iadd, 1426, 0, 0, 0, 0, .inl 0, []),
    (.iaload, 1427, 1, 0, 0, 0, .inl 0, []),
    (.ifCond .eq 7, 1430, 1434, 0, 0, 0, .inl 0, []),
    (.iconst 1, 1431, 0, 0, 0, 0, .inl 1, []),
    (.goto 4, 1434, 1435, 0, 0, 0, .inl 0, [])]),
  (1434, [(.iconst 0, 1435, 0, 0, 0, 0, .inl 0, [])]),
  (1435, [(.invokevirtual 174, 1438, 152, 3, 0, 10, .inl 0, []),
    (.aload_n 2, 1439, 2, 0, 0, 0, .inl 0, []),
    (.aload_n 0, 1440, 0, 0, 0, 0, .inl 0, []),
    (.iload 4, 1442, 4, 0, 0, 0, .inl 0, []),
    (.iconst 1, 1443, 0, 0, 0, 0, .inl 1, []),
    (.iadd, 1444, 0, 0, 0, 0, .inl 0, []),
    (.iaload, 1445, 1, 0, 0, 0, .inl 0, []),
    (.aload_n 0, 1446, 0, 0, 0, 0, .inl 0, []),
    (.iload 4, 1448, 4, 0, 0, 0, .inl 0, []),
    (.iconst 2, 1449, 0, 0, 0, 0, .inl 2, []),
    (.iadd, 1450, 0, 0, 0, 0, .inl 0, []),
    (.iaload, 1451, 1, 0, 0, 0, .inl 0, []),
    (.ifCond .eq 7, 1454, 1458, 0, 0, 0, .inl 0, []),
    (.iconst 1, 1455, 0, 0, 0, 0, .inl 1, []),
    (.goto 4, 1458, 1459, 0, 0, 0, .inl 0, [])]),
  (1458, [(.iconst 0, 1459, 0, 0, 0, 0, .inl 0, [])]),
  (1459, [(.invokevirtual 178, 1462, 302, 3, 0, 11, .inl 0, []),
    (.if_icmp .eq 129, 1465, 1591, 0, 0, 0, .inl 0, []),
    (.iconst 0, 1466, 0, 0, 0, 0, .inl 0, []),
    (.ireturn, 1467, 1, 0, 0, 0, .inl 0, [])]),
  (1467, [(.aload_n 1, 1468, 1, 0, 0, 0, .inl 0, []),
    (.invokevirtual 179, 1471, 153, 1, 0, 10, .inl 0, []),
    (.aload_n 2, 1472, 2, 0, 0, 0, .inl 0, []),
    (.invokevirtual 182, 1475, 303, 1, 0, 11, .inl 0, []),
    (.if_icmp .eq 116, 1478, 1591, 0, 0, 0, .inl 0, []),
    (.iconst 0, 1479, 0, 0, 0, 0, .inl 0, []),
    (.ireturn, 1480, 1, 0, 0, 0, .inl 0, [])]),
  (1480, [(.aload_n 1, 1481, 1, 0, 0, 0, .inl 0, []),
    (.aload_n 0, 1482, 0, 0, 0, 0, .inl 0, []),
    (.iload 4, 1484, 4, 0, 0, 0, .inl 0, []),
    (.iconst 1, 1485, 0, 0, 0, 0, .inl 1, []),
    (.iadd, 1486, 0, 0, 0, 0, .inl 0, []),
    (.iaload, 1487, 1, 0, 0, 0, .inl 0, []),
    (.aload_n 0, 1488, 0, 0, 0, 0, .inl 0, []),
    (.iload 4, 1490, 4, 0, 0, 0, .inl 0, []),
    (.iconst 2, 1491, 0, 0, 0, 0, .inl 2, []),
    (.iadd, 1492, 0, 0, 0, 0, .inl 0, []),
    (.iaload, 1493, 1, 0, 0, 0, .inl 0, []),
    (.aload_n 0, 1494, 0, 0, 0, 0, .inl 0, []),
    (.iload 4, 1496, 4, 0, 0, 0, .inl 0, []),
    (.iconst 3, 1497, 0, 0, 0, 0, .inl 3, []),
    (.iadd, 1498, 0, 0, 0, 0, .inl 0, []),
    (.iaload, 1499, 1, 0, 0, 0, .inl 0, []),
    (.invokevirtual 183, 1502, 154, 4, 0, 10, .inl 0, []),
    (.aload_n 2, 1503, 2, 0, 0, 0, .inl 0, []),
    (.aload_n 0, 1504, 0, 0, 0, 0, .inl 0, []),
    (.iload 4, 1506, 4, 0, 0, 0, .inl 0, []),
    (.iconst 1, 1507, 0, 0, 0, 0, .inl 1, []),
    (.iadd, 1508, 0, 0, 0, 0, .inl 0, []),
    (.iaload, 1509, 1, 0, 0, 0, .inl 0, []),
    (.aload_n 0, 1510, 0, 0, 0, 0, .inl 0, []),
    (.iload 4, 1512, 4, 0, 0, 0, .inl 0, []),
    (.iconst 2, 1513, 0, 0, 0, 0, .inl 2, []),
    (.iadd, 1514, 0, 0, 0, 0, .inl 0, []),
    (.iaload, 1515, 1, 0, 0, 0, .inl 0, []),
    (.aload_n 0, 1516, 0, 0, 0, 0, .inl 0, []),
    (.iload 4, 1518, 4, 0, 0, 0, .inl 0, []),
    (.iconst 3, 1519, 0, 0, 0, 0, .inl 3, []),
    (.iadd, 1520, 0, 0, 0, 0, .inl 0, []),
    (.iaload, 1521, 1, 0, 0, 0, .inl 0, []),
    (.invokevirtual 186, 1524, 305, 4, 0, 11, .inl 0, []),
    (.if_icmp .eq 67, 1527, 1591, 0, 0, 0, .inl 0, []),
    (.iconst 0, 1528, 0, 0, 0, 0, .inl 0, []),
    (.ireturn, 1529, 1, 0, 0, 0, .inl 0, [])]),
  (1529, [(.aload_n 1, 1530, 1, 0, 0, 0, .inl 0, []),
    (.aload_n 0, 1531, 0, 0, 0, 0, .inl 0, []),
    (.iload 4, 1533, 4, 0, 0, 0, .inl 0, []),
    (.iconst 1, 1534, 0, 0, 0, 0, .inl 1, []),
    (.iadd, 1535, 0, 0, 0, 0, .inl 0, []),
    (.iaload, 1536, 1, 0, 0, 0, .inl 0, []),
    (.aload_n 0, 1537, 0, 0, 0, 0, .inl 0, []),
    (.iload 4, 1539, 4, 0, 0, 0, .inl 0, []),
    (.iconst 2, 1540, 0, 0, 0, 0, .inl 2, []),
    (.iadd, 1541, 0, 0, 0, 0, .inl 0, []),
    (.iaload, 1542, 1, 0, 0, 0, .inl 0, []),
    (.invokevirtual 187, 1545, 155, 3, 0, 10, .inl 0, []),
    (.aload_n 2, 1546, 2, 0, 0, 0, .inl 0, []),
    (.aload_n 0, 1547, 0, 0, 0, 0, .inl 0, []),
    (.iload 4, 1549, 4, 0, 0, 0, .inl 0, []),
    (.iconst 1, 1550, 0, 0, 0, 0, .inl 1, []),
    (.iadd, 1551, 0, 0, 0, 0, .inl 0, []),
    (.iaload, 1552, 1, 0, 0, 0, .inl 0, []),
    (.aload_n 0, 1553, 0, 0, 0, 0, .inl 0, []),
    (.iload 4, 1555, 4, 0, 0, 0, .inl 0, []),
    (.iconst 2, 1556, 0, 0, 0, 0, .inl 2, []),
    (.iadd, 1557, 0, 0, 0, 0, .inl 0, []),
    (.iaload, 1558, 1, 0, 0, 0, .inl 0, []),
    (.invokevirtual 190, 1561, 306, 3, 0, 11, .inl 0, []),
    (.if_icmp .eq 30, 1564, 1591, 0, 0, 0, .inl 0, []),
    (.iconst 0, 1565, 0, 0, 0, 0, .inl 0, []),
    (.ireturn, 1566, 1, 0, 0, 0, .inl 0, [])]),
  (1566, [(.aload_n 1, 1567, 1, 0, 0, 0, .inl 0, []),
    (.aload_n 0, 1568, 0, 0, 0, 0, .inl 0, []),
    (.iload 4, 1570, 4, 0, 0, 0, .inl 0, []),
    (.iconst 1, 1571, 0, 0, 0, 0, .inl 1, []),
    (.iadd, 1572, 0, 0, 0, 0, .inl 0, []),
    (.iaload, 1573, 1, 0, 0, 0, .inl 0, []),
    (.invokevirtual 191, 1576, 156, 2, 0, 10, .inl 0, []),
    (.aload_n 2, 1577, 2, 0, 0, 0, .inl 0, []),
    (.aload_n 0, 1578, 0, 0, 0, 0, .inl 0, []),
    (.iload 4, 1580, 4, 0, 0, 0, .inl 0, []),
    (.iconst 1, 1581, 0, 0, 0, 0, .inl 1, []),
    (.iadd, 1582, 0, 0, 0, 0, .inl 0, []),
    (.iaload, 1583, 1, 0, 0, 0, .inl 0, []),
    (.invokevirtual 194, 1586, 307, 2, 0, 11, .inl 0, []),
    (.if_icmp .eq 5, 1589, 1591, 0, 0, 0, .inl 0, []),
    (.iconst 0, 1590, 0, 0, 0, 0, .inl 0, []),
    (.ireturn, 1591, 1, 0, 0, 0, .inl 0, [])]),
  (1591, [(.iinc 4 6, 1594, 4, 0, 0, 0, .inl 6, []),
    (.goto (-1571), 1597, 23, 0, 0, 0, .inl 0, [])]),
  (1597, [(.iconst 1, 1598, 0, 0, 0, 0, .inl 1, []),
    (.ireturn, 1599, 1, 0, 0, 0, .inl 0, [])])]
def gT_L_law : gs_T := ([], gB_L_law, [(23, [0, 1, 2, 3, 4])])
end
section
def gs_tabs : List gs_T := [gT_X0_init, gT_X0_ageOf, gT_X0_reckonBirth, gT_X0_cornerAge, gT_X0_earliestBirth, gT_X0_latestBirth, gT_X0_bornByTicks, gT_X0_narrowerBy, gT_X0_countPlaces, gT_X0_yearsOutside, gT_X1_init, gT_X1_reckon, gT_X1_join, gT_X1_countAll, gT_X1_sourceOf, gT_X1_worthOf, gT_X1_hasSuch, gT_X2_init, gT_X2_clear, gT_X2_isRock, gT_X2_detail, gT_X2_countUnlike, gT_X2_valueOf, gT_X2_tellSides, gT_X2_waysTold, gT_X3_init, gT_X3_add, gT_X3_find, gT_X4_init, gT_X4_reckon, gT_X4_isAble, gT_X4_costOf, gT_X4_seatGuest, gT_X4_reachFrom, gT_X4_liftBy, gT_X4_keepPairs, gT_X4_guestOf, gT_X4_guestsFor, gT_X4_cloudsFor, gT_X4_countDrawn, gT_X4_findsCloud, gT_X5_init, gT_X5_readLines, gT_X5_fail, gT_X5_take, gT_X5_number, gT_X5_newName, gT_X5_toldName, gT_X5_begin, gT_X5_readLine, gT_X5_readSetting, gT_X5_tellOnce, gT_X5_readReign, gT_X5_readGate, gT_X5_readBook, gT_X5_readWatch, gT_X5_startGuest, gT_X5_startRock, gT_X5_readDetails, gT_X5_readSides, gT_X5_isSide, gT_X5_sideBit, gT_X5_readCloud, gT_X5_readSort, gT_X5_readOperand, gT_X5_readOperator, gT_X5_countKnot, gT_X5_pushPending, gT_X5_settlePending, gT_X5_isRuleName, gT_X5_rankOf, gT_X6_init, gT_X6_add, gT_X6_evaluate, gT_X6_isSign, gT_X6_apply, gT_X6_within, gT_X6_product, gT_X6_quotient, gT_X7_monthBegin, gT_X7_monthLength, gT_X7_apart, gT_X7_sunAt, gT_X7_hides, gT_X7_monthsSeen, gT_X7_leastTerms, gT_X8_init, gT_X8_clear, gT_X8_roundOf, gT_X8_dayIn, gT_X8_dayOf, gT_X8_monthsWithRound, gT_X8_yearsWithRound, gT_X8_placeX, gT_X8_placeY, gT_X8_sortOf, gT_X8_sortValue, gT_X8_sortWeight, gT_X8_readingToll, gT_X8_bestReading, gT_X8_tollOf, gT_X8_cloudsByPlace, gT_X8_hasCloudNear, gT_X8_areOne, gT_X8_isCopyOf, gT_X9_init, gT_X9_put, gT_X9_start, gT_X9_advance, gT_X9_takeWord, gT_X9_takeNumber, gT_X9_widenSign, gT_X9_signKind, gT_X10_init, gT_X10_add, gT_X10_shareOf, gT_X11_init, gT_X11_feed, gT_X11_text, gT_X11_fault, gT_X11_named, gT_X11_look, gT_X11_round, gT_X11_day, gT_X11_months, gT_X11_years, gT_X11_place, gT_X11_sort, gT_X11_mend, gT_X11_odds, gT_X11_born, gT_X11_toll, gT_X11_reading, gT_X11_pairs, gT_X11_pair, gT_X11_one, gT_X11_known, gT_X11_event, gT_X11_slips, gT_X11_copied, gT_X11_from, gT_X11_worth, gT_X11_said, gT_X11_untold, gT_X11_next, gT_X11_events, gT_X11_share, gT_X11_many, gT_X11_chance, gT_X11_sun, gT_X11_hidden, gT_X11_seen, gT_X11_doubt, gT_X11_doubted, gT_X11_draws, gT_X11_luck, gT_X11_count, gT_X11_isGuest, gT_X11_isCloud, gT_X11_isSort, gT_X11_isBook, gT_X11_isDay, gT_X11_isYear, gT_X11_isWidth, gT_X11_isPart, gT_X11_isDoubted, gT_X11_forgetReckoned, gT_X11_trusted, gT_X11_reckonPairs, gT_X11_reckonEvents, gT_X11_roll, gT_X11_drawPlaces, gT_X12_init, gT_X12_thrown, gT_X12_feed, gT_X12_isIn, gT_X12_isOf, gT_X12_sizeOf, gT_X12_wrong, gT_X12_wordAt, gT_X12_isSmall, gT_X12_isDigit, gT_X12_take, gT_X12_takeSign, gT_X12_packed, gT_X12_isKey, gT_X12_isSign, gT_X12_number, gT_X12_plain, gT_X12_copies, gT_X12_keep, gT_X12_find, gT_X12_newName, gT_X12_oldName, gT_X12_reignLine, gT_X12_gateLine, gT_X12_bookLine, gT_X12_newGuest, gT_X12_plainGuest, gT_X12_guestLine, gT_X12_guestWord, gT_X12_guestHas, gT_X12_kept, gT_X12_isSide, gT_X12_nearRead, gT_X12_cloudLine, gT_X12_sortLine, gT_X12_watchLine, gT_X12_ruleLine, gT_X12_lineRead, gT_X12_text, gT_X12_fault, gT_X12_named, gT_X12_rank, gT_X12_grown, gT_X12_dropHeld, gT_X12_bind, gT_X12_isCounted, gT_X12_waitsFor, gT_X12_leafRead, gT_X12_signs, gT_X12_sumRead, gT_X12_bounded, gT_X12_compares, gT_X12_times, gT_X12_valueOf, gT_X12_sumFor, gT_X12_sortOf, gT_X12_isGuest, gT_X12_isCloud, gT_X12_sort, gT_X12_oddsOf, gT_X12_common, gT_X12_least, gT_X12_odds, gT_X12_fails, gT_X12_look, gT_X12_isRock, gT_X12_roundOf, gT_X12_isDay, gT_X12_round, gT_X12_beginOf, gT_X12_dayIn, gT_X12_dayOf, gT_X12_day, gT_X12_monthsOf, gT_X12_months, gT_X12_yearsOf, gT_X12_years, gT_X12_manyOf, gT_X12_mend, gT_X12_hasGate, gT_X12_sideOf, gT_X12_placeX, gT_X12_placeY, gT_X12_place, gT_X12_around, gT_X12_apart, gT_X12_ageOf, gT_X12_lessBy, gT_X12_layBorn, gT_X12_layCloud, gT_X12_born, gT_X12_placeToll, gT_X12_tollOf, gT_X12_toll, gT_X12_reading, gT_X12_knownMany, gT_X12_counts, gT_X12_layTolls, gT_X12_layPairs, gT_X12_pairMany, gT_X12_pairs, gT_X12_pair, gT_X12_isOne, gT_X12_one, gT_X12_known, gT_X12_layEvents, gT_X12_event, gT_X12_events, gT_X12_slipsOf, gT_X12_slips, gT_X12_isFrom, gT_X12_from, gT_X12_copiedOf, gT_X12_copied, gT_X12_worth, gT_X12_goers, gT_X12_goesWith, gT_X12_said, gT_X12_shareOf, gT_X12_share, gT_X12_many, gT_X12_sunOf, gT_X12_seenOf, gT_X12_untold, gT_X12_next, gT_X12_chanceFor, gT_X12_chance, gT_X12_sun, gT_X12_hidden, gT_X12_seen, gT_X12_doubt, gT_X12_doubted, gT_X12_drawn, gT_X12_draws, gT_X12_luck, gT_X12_count, gT_J6_bitCount_0f7a4, gT_J9_floorMod_7cf53, gT_J9_abs_0f7a4, gT_J9_abs_067f4, gT_J9_max_7cf53, gT_J9_max_f86c9, gT_J9_min_7cf53, gT_J9_min_f86c9, gT_J7_fill_d0a16, gT_J7_fill_53178, gT_L_look, gT_L_law]
def gs_tab (k : Nat) : gs_T := gs_tabs.getD k ([], [], [])
end
section
/-! A pure machine over the tables: what a method answers and leaves, or none. -/
def gs_up2 {α : Type} (f : Nat → Nat → α) (a j : Nat) (x : α) : Nat → Nat → α := fun b i => if b = a then (if i = j then x else f b i) else f b i
def gs_up1 {α : Type} (f : Nat → Nat → α) (a : Nat) (g : Nat → α) : Nat → Nat → α := fun b => if b = a then g else f b
def gs_sI (m : gs_M) (a j : Nat) (x : Int32) : gs_M := (m.1, gs_up2 m.2.1 a j x, m.2.2)
def gs_sJ (m : gs_M) (a j : Nat) (x : Int64) : gs_M := (m.1, m.2.1, gs_up2 m.2.2.1 a j x, m.2.2.2)
def gs_sR (m : gs_M) (a j : Nat) (r : Nat) : gs_M := (m.1, m.2.1, m.2.2.1, gs_up2 m.2.2.2 a j (some r))
def gs_nw (m : gs_M) (z : Nat) : gs_M := ((m.1.1 + 1, m.1.2.1, m.1.2.2 + z), gs_up1 m.2.1 m.1.1 (fun _ => 0), gs_up1 m.2.2.1 m.1.1 (fun _ => 0), gs_up1 m.2.2.2 m.1.1 (fun _ => none))
def gs_gb (m : gs_M) : gs_M := ((m.1.1, m.1.2.1 + 1, m.1.2.2 + 6), m.2)
def gs_two (v : gs_V) : Bool := match v with
  | .inr (.inl _) => true
  | _ => false
def gs_lk : gs_L → Nat → Option gs_V
  | [], _ => none
  | q :: t, i => cond (Nat.beq q.1 i) (some q.2) (gs_lk t i)
def gs_rm : gs_L → Nat → gs_L
  | [], _ => []
  | q :: t, i => cond (Nat.beq q.1 i || (Nat.beq (q.1 + 1) i && gs_two q.2)) (gs_rm t i) (q :: gs_rm t i)
def gs_st1 (lo : gs_L) (i : Nat) (v : gs_V) : gs_L := (i, v) :: gs_rm lo i
def gs_st2 (lo : gs_L) (i : Nat) (v : gs_V) : gs_L := (i, v) :: gs_rm (gs_rm lo (i + 1)) i
def gs_pick : List Nat → gs_L → gs_L
  | [], _ => []
  | k :: ks, lo => match gs_lk lo k with
    | some v => (k, v) :: gs_pick ks lo
    | none => gs_pick ks lo
def gs_args : Nat → List gs_V → gs_L
  | _, [] => []
  | i, v :: vs => (i, v) :: gs_args (cond (gs_two v) (i + 2) (i + 1)) vs
def gs_fb : List (Nat × List gs_N) → Nat → Option (List gs_N)
  | [], _ => none
  | q :: t, pc => cond (Nat.beq q.1 pc) (some q.2) (gs_fb t pc)
def gs_fs : List (Nat × List Nat) → Nat → Option (List Nat)
  | [], _ => none
  | q :: t, pc => cond (Nat.beq q.1 pc) (some q.2) (gs_fs t pc)
def gs_pop : Nat → List gs_V → List gs_V → Option (List gs_V × List gs_V)
  | 0, acc, st => some (acc, st)
  | _ + 1, _, [] => none
  | n + 1, acc, v :: st => gs_pop n (v :: acc) st
def gs_cs : List gs_V → Nat
  | [] => 0
  | v :: t => cond (gs_two v) (gs_cs t + 2) (gs_cs t + 1)
def gs_ok (a c n : Nat) : Bool := Nat.beq (gs_kind a) c && Nat.blt a n
def gs_in (i : Int32) (n : Nat) : Bool := !(decide (i < 0)) && Nat.blt i.toNatClampNeg n
def gs_fld (m : gs_M) (a c : Nat) (k : gs_O) : gs_O := cond (gs_ok a c m.1.1) k none
def gs_nn (r : Option Nat) (k : Nat → gs_O) : gs_O := match r with
  | some a => k a
  | none => none
def gs_ix (m : gs_M) (a c : Nat) (i : Int32) (k : Nat → gs_O) : gs_O := cond (gs_ok a c m.1.1 && gs_in i (gs_len a)) (k i.toNatClampNeg) none
def gs_bt (x : Int32) (k : gs_O) : gs_O := if x = 0 ∨ x = 1 then k else none
def gs_nz (y : Int32) (k : gs_O) : gs_O := if y = 0 then none else k
def gs_nzL (y : Int64) (k : gs_O) : gs_O := if y = 0 then none else k
def gs_th (e : Nat) (m : gs_M) : gs_O := some (.inr e, m)
def gs_rI (x : Int32) (m : gs_M) : gs_O := some (.inl (some (.inl x)), m)
def gs_rJ (x : Int64) (m : gs_M) : gs_O := some (.inl (some (.inr (.inl x))), m)
def gs_rU (m : gs_M) : gs_O := some (.inl none, m)
def gs_bI (o : gs_O) (h : Nat → gs_M → gs_O) (k : Int32 → gs_M → gs_O) : gs_O := match o with
  | some (.inl (some (.inl x)), m) => k x m
  | some (.inr e, m) => h e m
  | _ => none
def gs_bJ (o : gs_O) (h : Nat → gs_M → gs_O) (k : Int64 → gs_M → gs_O) : gs_O := match o with
  | some (.inl (some (.inr (.inl x))), m) => k x m
  | some (.inr e, m) => h e m
  | _ => none
def gs_bU (o : gs_O) (h : Nat → gs_M → gs_O) (k : gs_M → gs_O) : gs_O := match o with
  | some (.inl none, m) => k m
  | some (.inr e, m) => h e m
  | _ => none
abbrev gs_sw : List (Int32 × Nat) → (Nat → gs_O) → Int32 → Nat → gs_O
  | [], f, _, d => f d
  | q :: t, f, x, d => if x = q.1 then f q.2 else gs_sw t f x d
/-- what the constants are: the long row of a class, a text's signs -/
def gs_digits : List Int64 := [285311670611, 25937424601, 2357947691, 214358881, 19487171, 1771561, 161051, 14641, 1331, 121, 11, 1]
abbrev gs_Go : Type := Nat → List gs_N → gs_L → List gs_V → gs_M → gs_O
abbrev gs_hd (hs : List (Nat × Nat × Nat × Nat × Nat × Nat × Nat)) (pc : Nat) (go : gs_Go) (lo : gs_L) : Nat → gs_M → gs_O := match hs with
  | [] => gs_th
  | (a, b, _, E, p, ix, _) :: t => fun e m => cond (Nat.ble a pc && Nat.blt pc b && Nat.beq e E) (go p [] (gs_rm lo ix) [] m) (gs_hd t pc go lo e m)
abbrev gs_call (C : Nat → List gs_V → gs_M → gs_O) (hs : List (Nat × Nat × Nat × Nat × Nat × Nat × Nat)) (go : gs_Go) (pc nx k rk : Nat) (as rest : List gs_V) (is : List gs_N) (lo : gs_L) (m : gs_M) : gs_O :=
  cond (Nat.ble (gs_cs rest) 8) (match rk with
    | 0 => gs_bI (C k as m) (gs_hd hs pc go lo) (fun x m => go nx is lo (.inl x :: rest) m)
    | 1 => gs_bJ (C k as m) (gs_hd hs pc go lo) (fun x m => go nx is lo (.inr (.inl x) :: rest) m)
    | _ => gs_bU (C k as m) (gs_hd hs pc go lo) (fun m => go nx is lo rest m)) none
/-- fuel of loops; the script of the law: how long, its ints -/
abbrev gs_E : Type := Nat × Nat × (Nat → Int32)
def gs_words : List Int32 := [114, 101, 105, 103, 110, 32, 103, 97, 116, 101, 32, 98, 111, 111, 107, 32, 102, 114, 111, 109, 32, 103, 117, 101, 115, 116, 32, 114, 111, 99, 107, 32, 105, 110, 32, 110, 101, 97, 114, 32, 108, 97, 115, 116, 115, 32, 98, 114, 105, 103, 104, 116, 32, 109, 111, 118, 101, 115, 32, 119, 111, 114, 116, 104, 32, 116, 97, 105, 108, 32, 99, 108, 111, 117, 100, 32, 112, 108, 97, 116, 101, 32, 115, 108, 111, 119, 32, 116, 105, 99, 107, 32, 115, 111, 114, 116, 32, 119, 97, 116, 99, 104, 32, 116, 117, 114, 110, 32, 112, 114, 105, 99, 101, 32, 108, 105, 109, 105, 116, 32, 98, 108, 117, 114, 32, 110, 111, 114, 116, 104, 32, 115, 111, 117, 116, 104, 32, 101, 97, 115, 116, 32, 119, 101, 115, 116, 32, 111, 114, 32, 97, 110, 100, 32, 110, 111, 116, 32, 105, 110, 99, 104, 101, 115, 32, 109, 111, 110, 116, 104, 32]
abbrev gs_i1 (st : List gs_V) (f : Int32 → List gs_V → gs_O) : gs_O := match st with
  | .inl x :: st => f x st
  | _ => none
abbrev gs_i2 (st : List gs_V) (f : Int32 → Int32 → List gs_V → gs_O) : gs_O := match st with
  | .inl y :: .inl x :: st => f x y st
  | _ => none
abbrev gs_j1 (st : List gs_V) (f : Int64 → List gs_V → gs_O) : gs_O := match st with
  | .inr (.inl x) :: st => f x st
  | _ => none
abbrev gs_j2 (st : List gs_V) (f : Int64 → Int64 → List gs_V → gs_O) : gs_O := match st with
  | .inr (.inl y) :: .inr (.inl x) :: st => f x y st
  | _ => none
abbrev gs_a1 (st : List gs_V) (f : Nat → List gs_V → gs_O) : gs_O := match st with
  | .inr (.inr x) :: st => f x st
  | _ => none
abbrev gs_ia (st : List gs_V) (f : Int32 → Nat → List gs_V → gs_O) : gs_O := match st with
  | .inl y :: .inr (.inr x) :: st => f y x st
  | _ => none
abbrev gs_ja (st : List gs_V) (f : Int64 → Nat → List gs_V → gs_O) : gs_O := match st with
  | .inr (.inl y) :: .inr (.inr x) :: st => f y x st
  | _ => none
abbrev gs_aa (st : List gs_V) (f : Nat → Nat → List gs_V → gs_O) : gs_O := match st with
  | .inr (.inr y) :: .inr (.inr x) :: st => f y x st
  | _ => none
abbrev gs_iia (st : List gs_V) (f : Int32 → Int32 → Nat → List gs_V → gs_O) : gs_O := match st with
  | .inl x :: .inl j :: .inr (.inr a) :: st => f x j a st
  | _ => none
abbrev gs_jia (st : List gs_V) (f : Int64 → Int32 → Nat → List gs_V → gs_O) : gs_O := match st with
  | .inr (.inl x) :: .inl j :: .inr (.inr a) :: st => f x j a st
  | _ => none
abbrev gs_aia (st : List gs_V) (f : Nat → Int32 → Nat → List gs_V → gs_O) : gs_O := match st with
  | .inr (.inr x) :: .inl j :: .inr (.inr a) :: st => f x j a st
  | _ => none
abbrev gs_v1 (st : List gs_V) (f : gs_V → List gs_V → gs_O) : gs_O := match st with
  | v :: st => f v st
  | _ => none
abbrev gs_v2 (st : List gs_V) (f : gs_V → gs_V → List gs_V → gs_O) : gs_O := match st with
  | v :: w :: st => f v w st
  | _ => none
abbrev gs_e0 (st : List gs_V) (k : gs_O) : gs_O := match st with
  | [] => k
  | _ => none
abbrev gs_lI (lo : gs_L) (i : Nat) (f : Int32 → gs_O) : gs_O := match gs_lk lo i with
  | some (.inl x) => f x
  | _ => none
abbrev gs_lJ (lo : gs_L) (i : Nat) (f : Int64 → gs_O) : gs_O := match gs_lk lo i with
  | some (.inr (.inl x)) => f x
  | _ => none
abbrev gs_lA (lo : gs_L) (i : Nat) (f : Nat → gs_O) : gs_O := match gs_lk lo i with
  | some (.inr (.inr x)) => f x
  | _ => none
abbrev gs_cI (v : gs_V) (f : Int32 → gs_O) : gs_O := match v with
  | .inl x => f x
  | _ => none
abbrev gs_cJ (v : gs_V) (f : Int64 → gs_O) : gs_O := match v with
  | .inr (.inl x) => f x
  | _ => none
abbrev gs_pp (o : Option (List gs_V × List gs_V)) (f : List gs_V → List gs_V → gs_O) : gs_O := match o with
  | some q => f q.1 q.2
  | none => none
abbrev gs_rc (as : List gs_V) (f : Nat → gs_O) : gs_O := match as with
  | .inr (.inr b) :: _ => f b
  | _ => none
def gs_step (X : gs_E) (C : Nat → List gs_V → gs_M → gs_O) (hs : List (Nat × Nat × Nat × Nat × Nat × Nat × Nat)) (go : gs_Go) (pc : Nat) (ins : gs_N) (is : List gs_N) (lo : gs_L) (st : List gs_V) (m : gs_M) : gs_O :=
  match ins with
  | (i, nx, a1, a2, a3, a4, cv, sw) =>
  match i with
  | .iconst _ => gs_cI cv (fun x => go nx is lo (.inl x :: st) m)
  | .bipush _ => gs_cI cv (fun x => go nx is lo (.inl x :: st) m)
  | .sipush _ => gs_cI cv (fun x => go nx is lo (.inl x :: st) m)
  | .lconst _ => gs_cJ cv (fun x => go nx is lo (.inr (.inl x) :: st) m)
  | .ldc2_w _ => gs_cJ cv (fun x => go nx is lo (.inr (.inl x) :: st) m)
  | .ldc _ => match a1 with
    | 0 => gs_cI cv (fun x => go nx is lo (.inl x :: st) m)
    | _ => go nx is lo (.inr (.inr 100001) :: st) m
  | .ldc_w _ => match a1 with
    | 0 => gs_cI cv (fun x => go nx is lo (.inl x :: st) m)
    | _ => go nx is lo (.inr (.inr 100001) :: st) m
  | .iload _ => gs_lI lo a1 (fun x => go nx is lo (.inl x :: st) m)
  | .iload_n _ => gs_lI lo a1 (fun x => go nx is lo (.inl x :: st) m)
  | .lload _ => gs_lJ lo a1 (fun x => go nx is lo (.inr (.inl x) :: st) m)
  | .lload_n _ => gs_lJ lo a1 (fun x => go nx is lo (.inr (.inl x) :: st) m)
  | .aload _ => gs_lA lo a1 (fun x => go nx is lo (.inr (.inr x) :: st) m)
  | .aload_n _ => gs_lA lo a1 (fun x => go nx is lo (.inr (.inr x) :: st) m)
  | .istore _ => gs_i1 st (fun x st => go nx is (gs_st1 lo a1 (.inl x)) st m)
  | .istore_n _ => gs_i1 st (fun x st => go nx is (gs_st1 lo a1 (.inl x)) st m)
  | .lstore _ => gs_j1 st (fun x st => go nx is (gs_st2 lo a1 (.inr (.inl x))) st m)
  | .lstore_n _ => gs_j1 st (fun x st => go nx is (gs_st2 lo a1 (.inr (.inl x))) st m)
  | .astore _ => gs_a1 st (fun x st => go nx is (gs_st1 lo a1 (.inr (.inr x))) st m)
  | .astore_n _ => gs_a1 st (fun x st => go nx is (gs_st1 lo a1 (.inr (.inr x))) st m)
  | .iinc _ _ => gs_lI lo a1 (fun x => gs_cI cv (fun y => go nx is (gs_st1 lo a1 (.inl (x + y))) st m))
  | .iadd => gs_i2 st (fun x y st => go nx is lo (.inl (x + y) :: st) m)
  | .isub => gs_i2 st (fun x y st => go nx is lo (.inl (x - y) :: st) m)
  | .imul => gs_i2 st (fun x y st => go nx is lo (.inl (x * y) :: st) m)
  | .iand => gs_i2 st (fun x y st => go nx is lo (.inl (x &&& y) :: st) m)
  | .ior => gs_i2 st (fun x y st => go nx is lo (.inl (x ||| y) :: st) m)
  | .ixor => gs_i2 st (fun x y st => go nx is lo (.inl (x ^^^ y) :: st) m)
  | .ishl => gs_i2 st (fun x y st => go nx is lo (.inl (x <<< (y &&& 31)) :: st) m)
  | .ishr => gs_i2 st (fun x y st => go nx is lo (.inl (x >>> (y &&& 31)) :: st) m)
  | .iushr => gs_i2 st (fun x y st => go nx is lo (.inl ((x.toUInt32 >>> (y.toUInt32 &&& Int32.toUInt32 31)).toInt32) :: st) m)
  | .idiv => gs_i2 st (fun x y st => gs_nz y (go nx is lo (.inl (x / y) :: st) m))
  | .irem => gs_i2 st (fun x y st => gs_nz y (go nx is lo (.inl (x - x / y * y) :: st) m))
  | .ineg => gs_i1 st (fun x st => go nx is lo (.inl (-x) :: st) m)
  | .ladd => gs_j2 st (fun x y st => go nx is lo (.inr (.inl (x + y)) :: st) m)
  | .lsub => gs_j2 st (fun x y st => go nx is lo (.inr (.inl (x - y)) :: st) m)
  | .lmul => gs_j2 st (fun x y st => go nx is lo (.inr (.inl (x * y)) :: st) m)
  | .land => gs_j2 st (fun x y st => go nx is lo (.inr (.inl (x &&& y)) :: st) m)
  | .ldiv => gs_j2 st (fun x y st => gs_nzL y (go nx is lo (.inr (.inl (x / y)) :: st) m))
  | .lrem => gs_j2 st (fun x y st => gs_nzL y (go nx is lo (.inr (.inl (x - x / y * y)) :: st) m))
  | .lneg => gs_j1 st (fun x st => go nx is lo (.inr (.inl (-x)) :: st) m)
  | .i2l => gs_i1 st (fun x st => go nx is lo (.inr (.inl x.toInt64) :: st) m)
  | .l2i => gs_j1 st (fun x st => go nx is lo (.inl x.toInt32 :: st) m)
  | .i2b => gs_i1 st (fun x st => go nx is lo (.inl x.toInt8.toInt32 :: st) m)
  | .lcmp => gs_j2 st (fun x y st => go nx is lo (.inl (lg_cmp x y) :: st) m)
  | .dup => gs_v1 st (fun v st => cond (gs_two v) none (go nx is lo (v :: v :: st) m))
  | .dup2 => gs_v2 st (fun v w st => cond (gs_two v || gs_two w) none (go nx is lo (v :: w :: v :: w :: st) m))
  | .ifCond .eq _ => gs_i1 st (fun x st => if x = 0 then go a1 [] lo st m else go nx is lo st m)
  | .ifCond .ne _ => gs_i1 st (fun x st => if x = 0 then go nx is lo st m else go a1 [] lo st m)
  | .ifCond .lt _ => gs_i1 st (fun x st => if x < 0 then go a1 [] lo st m else go nx is lo st m)
  | .ifCond .ge _ => gs_i1 st (fun x st => if x < 0 then go nx is lo st m else go a1 [] lo st m)
  | .ifCond .gt _ => gs_i1 st (fun x st => if 0 < x then go a1 [] lo st m else go nx is lo st m)
  | .ifCond .le _ => gs_i1 st (fun x st => if 0 < x then go nx is lo st m else go a1 [] lo st m)
  | .if_icmp .eq _ => gs_i2 st (fun x y st => if x = y then go a1 [] lo st m else go nx is lo st m)
  | .if_icmp .ne _ => gs_i2 st (fun x y st => if x = y then go nx is lo st m else go a1 [] lo st m)
  | .if_icmp .lt _ => gs_i2 st (fun x y st => if x < y then go a1 [] lo st m else go nx is lo st m)
  | .if_icmp .ge _ => gs_i2 st (fun x y st => if x < y then go nx is lo st m else go a1 [] lo st m)
  | .if_icmp .gt _ => gs_i2 st (fun x y st => if y < x then go a1 [] lo st m else go nx is lo st m)
  | .if_icmp .le _ => gs_i2 st (fun x y st => if y < x then go nx is lo st m else go a1 [] lo st m)
  | .goto _ => go a1 [] lo st m
  | .tableswitch _ _ _ _ => gs_i1 st (fun x st => gs_sw sw (fun t => go t [] lo st m) x a1)
  | .lookupswitch _ _ => gs_i1 st (fun x st => gs_sw sw (fun t => go t [] lo st m) x a1)
  | .getfield _ => gs_a1 st (fun a st => gs_fld m a a1 (match a3 with
      | 1 => go nx is lo (.inr (.inl (m.2.2.1 a a2)) :: st) m
      | 2 => gs_nn (m.2.2.2 a a2) (fun b => go nx is lo (.inr (.inr b) :: st) m)
      | _ => go nx is lo (.inl (m.2.1 a a2) :: st) m))
  | .putfield _ => match a3 with
    | 0 => gs_ia st (fun x a st => gs_fld m a a1 (go nx is lo st (gs_sI m a a2 x)))
    | 1 => gs_ja st (fun x a st => gs_fld m a a1 (go nx is lo st (gs_sJ m a a2 x)))
    | 2 => gs_aa st (fun x a st => gs_fld m a a1 (cond (Nat.blt x m.1.1) (go nx is lo st (gs_sR m a a2 x)) none))
    | _ => gs_ia st (fun x a st => gs_fld m a a1 (gs_bt x (go nx is lo st (gs_sI m a a2 x))))
  | .getstatic _ => go nx is lo (.inr (.inr 100000) :: st) m
  | .iaload => gs_ia st (fun j a st => match a1 with
      | 0 => gs_ix m a 13 j (fun k => go nx is lo (.inl (m.2.1 a k) :: st) m)
      | _ => cond (Nat.beq a 100002 && gs_in j X.2.1) (go nx is lo (.inl (X.2.2 j.toNatClampNeg) :: st) m) none)
  | .baload => gs_ia st (fun j a st => gs_ix m a 12 j (fun k => go nx is lo (.inl (m.2.1 a k) :: st) m))
  | .laload => gs_ia st (fun j a st => match a1 with
      | 0 => gs_ix m a 14 j (fun k => go nx is lo (.inr (.inl (m.2.2.1 a k)) :: st) m)
      | _ => cond (Nat.beq a 100000 && gs_in j 12) (go nx is lo (.inr (.inl (gs_digits.getD j.toNatClampNeg 0)) :: st) m) none)
  | .aaload => gs_ia st (fun j a st => gs_ix m a (cond (Nat.beq (gs_kind a) 15) 15 16) j (fun k => gs_nn (m.2.2.2 a k) (fun b => go nx is lo (.inr (.inr b) :: st) m)))
  | .iastore => gs_iia st (fun x j a st => gs_ix m a 13 j (fun k => go nx is lo st (gs_sI m a k x)))
  | .bastore => gs_iia st (fun x j a st => gs_ix m a 12 j (fun k => go nx is lo st (gs_sI m a k x.toInt8.toInt32)))
  | .lastore => gs_jia st (fun x j a st => gs_ix m a 14 j (fun k => go nx is lo st (gs_sJ m a k x)))
  | .aastore => gs_aia st (fun x j a st => cond (gs_ok x (cond (Nat.beq (gs_kind a) 15) 0 2) m.1.1) (gs_ix m a (cond (Nat.beq (gs_kind a) 15) 15 16) j (fun k => go nx is lo st (gs_sR m a k x))) none)
  | .arraylength => gs_a1 st (fun a st => match a1 with
      | 0 => cond (Nat.ble 12 (gs_kind a) && Nat.ble (gs_kind a) 14 && Nat.blt a m.1.1) (go nx is lo (.inl (Int32.ofNat (gs_len a)) :: st) m) none
      | _ => cond (Nat.beq a 100002) (go nx is lo (.inl (Int32.ofNat X.2.1) :: st) m) none)
  | .newarray _ => gs_i1 st (fun x st => cond (Nat.beq m.1.2.1 0 && Nat.beq (gs_kind m.1.1) a1 && !(decide (x < 0)) && Nat.beq x.toNatClampNeg (gs_len m.1.1)) (go nx is lo (.inr (.inr m.1.1) :: st) (gs_nw m (gs_len m.1.1))) none)
  | .anewarray _ => gs_i1 st (fun x st => cond (Nat.beq m.1.2.1 0 && Nat.beq (gs_kind m.1.1) a1 && !(decide (x < 0)) && Nat.beq x.toNatClampNeg (gs_len m.1.1)) (go nx is lo (.inr (.inr m.1.1) :: st) (gs_nw m (gs_len m.1.1))) none)
  | .new _ => cond (Nat.ble 100 a1) (some (.inr (a1 - 100), gs_gb m)) (cond (Nat.beq m.1.2.1 0 && Nat.beq (gs_kind m.1.1) a1) (go nx is lo (.inr (.inr m.1.1) :: st) (gs_nw m a2)) none)
  | .invokevirtual _ => match a4 with
    | 90 => gs_a1 st (fun a st => cond (Nat.beq a 100001) (go nx is lo (.inl (Int32.ofNat gs_words.length) :: st) m) none)
    | 91 => gs_ia st (fun j a st => cond (Nat.beq a 100001 && gs_in j gs_words.length) (go nx is lo (.inl (gs_words.getD j.toNatClampNeg 0) :: st) m) none)
    | _ => gs_pp (gs_pop a2 [] st) (fun as rest => gs_rc as (fun b => gs_fld m b a4 (gs_call C hs go pc nx a1 a3 as rest is lo m)))
  | .invokestatic _ => gs_pp (gs_pop a2 [] st) (fun as rest => gs_call C hs go pc nx a1 a3 as rest is lo m)
  | .invokespecial _ => match a4 with
    | 92 => gs_a1 st (fun _ st => cond (Nat.ble (gs_cs st) 8) (go nx is lo st m) none)
    | _ => gs_pp (gs_pop a2 [] st) (fun as rest => gs_rc as (fun _ => gs_call C hs go pc nx a1 a3 as rest is lo m))
  | .ireturn => gs_i1 st (fun x st => gs_e0 st (match a1 with
      | 1 => gs_bt x (gs_rI x m)
      | _ => gs_rI x m))
  | .lreturn => gs_j1 st (fun x st => gs_e0 st (gs_rJ x m))
  | .return_ => gs_e0 st (gs_rU m)
  | _ => none
def gs_run (X : gs_E) (C : Nat → List gs_V → gs_M → gs_O) (T : gs_T) (K : Nat → gs_L → List gs_V → gs_M → gs_O) : Nat → gs_Go
  | 0, _, _, _, _, _ => none
  | n + 1, pc, [], lo, st, m => match gs_fs T.2.2 pc with
    | some ks => K pc (gs_pick ks lo) st m
    | none => match gs_fb T.2.1 pc with
      | some is => gs_run X C T K n pc is lo st m
      | none => none
  | n + 1, pc, i :: is, lo, st, m => gs_step X C T.1 (gs_run X C T K n) pc i is lo st m
def gs_iter (X : gs_E) (C : Nat → List gs_V → gs_M → gs_O) (T : gs_T) : Nat → Nat → gs_L → List gs_V → gs_M → gs_O
  | 0, _, _, _, _ => none
  | n + 1, pc, lo, st, m => match gs_fb T.2.1 pc with
    | some is => gs_run X C T (gs_iter X C T n) 2000 pc is lo st m
    | none => none
def gs_ent (X : gs_E) (C : Nat → List gs_V → gs_M → gs_O) (T : gs_T) (as : List gs_V) (m : gs_M) : gs_O := match gs_fb T.2.1 0 with
  | some is => gs_run X C T (gs_iter X C T X.1) 2000 0 is (gs_args 0 as) [] m
  | none => none
def gs_exec (X : gs_E) : Nat → Nat → List gs_V → gs_M → gs_O
  | 0, _, _, _ => none
  | d + 1, k, as, m => gs_ent X (gs_exec X d) (gs_tab k) as m
end
section
/-! What the pure memory is in a heap. -/
/-- where the cells begin; classes and slots of the objects; classes of the arrays; the long row, the text, the script -/
abbrev gs_G : Type := Nat × ((Nat → ClassId) × (Nat → Nat → Nat)) × (Nat → ClassId) × Nat × Nat × Nat
def gs_ad (G : gs_G) (a : Nat) : Nat := if a = 100000 then G.2.2.2.1 else if a = 100001 then G.2.2.2.2.1 else if a = 100002 then G.2.2.2.2.2 else G.1 + a
def gs_cv (G : gs_G) (v : gs_V) : Value := match v with
  | .inl x => .int x
  | .inr (.inl x) => .long x
  | .inr (.inr a) => .ref (gs_ad G a)
def gs_cl (G : gs_G) (lo : gs_L) : List (Nat × Value) := lo.map (fun q => (q.1, gs_cv G q.2))
abbrev gs_A (G : gs_G) : Nat → Prop := fun q => G.1 ≤ q
def gs_ftab : List (List Nat) := [[0, 0, 0, 0, 0, 0, 0, 0, 0, 0, 0], [2], [0, 0, 0, 0, 0, 0, 0, 0, 0, 0, 0, 0, 0, 0, 0, 0], [2, 2, 2, 0], [2, 2, 2, 2, 2, 2, 2, 0, 0, 0, 0, 2, 2, 0, 0], [2, 2, 0, 0, 0, 3, 3, 0, 2, 0, 0], [2, 2, 2, 0, 3], [2, 2, 2, 2, 2, 2, 2, 2, 0, 0, 0, 0, 0, 0], [2, 2, 0, 0, 0, 0, 0, 0], [2, 2, 2, 0], [2, 2, 2, 2, 2, 0, 0, 3, 3, 0], [2, 0, 0, 2, 0, 0, 0, 0, 0, 0, 0, 0, 2, 2, 2, 2, 2, 0, 2, 2, 2, 2, 2, 2, 2, 2, 2, 2, 2, 2, 2, 2, 2, 2, 2, 2, 0, 0, 2, 2, 0, 0, 0, 0, 3, 3, 2, 2, 3, 0, 0, 3, 2, 2, 0, 2, 2, 2, 2, 1]]
def gs_fv (G : gs_G) (m : gs_M) (a t j : Nat) : Value := match t with
  | 1 => .long (m.2.2.1 a j)
  | 2 => va_rf ((m.2.2.2 a j).map (G.1 + ·))
  | _ => .int (m.2.1 a j)
def gs_ob (G : gs_G) (m : gs_M) (a : Nat) : Nat → List Nat → List Value
  | _, [] => []
  | j, t :: ts => gs_fv G m a t j :: gs_ob G m a (j + 1) ts
def gs_rw (G : gs_G) (m : gs_M) (a k : Nat) : (Nat → Int32) ⊕ (Nat → Int64) ⊕ (Nat → UInt32) ⊕ (Nat → UInt64) ⊕ (Nat → Option Nat) := match k with
  | 14 => .inr (.inl (m.2.2.1 a))
  | 15 => .inr (.inr (.inr (.inr (fun i => (m.2.2.2 a i).map (G.1 + ·)))))
  | 16 => .inr (.inr (.inr (.inr (fun i => (m.2.2.2 a i).map (G.1 + ·)))))
  | _ => .inl (m.2.1 a)
def gs_ce (G : gs_G) (m : gs_M) (a : Nat) : va_E := if gs_kind a < 12 then .inr (gs_kind a, gs_ob G m a 0 (gs_ftab.getD (gs_kind a) [])) else .inl (G.2.2.1 (gs_kind a), gs_len a, gs_rw G m a (gs_kind a))
def gs_ls (G : gs_G) (n : Nat) : List Nat := (List.range n).map (G.1 + ·)
def gs_wf (G : gs_G) (m : gs_M) : Nat → va_E := fun q => gs_ce G m (q - G.1)
def gs_ws (G : gs_G) (m : gs_M) : va_W := va_pl (gs_ls G m.1.1) (gs_wf G m)
def gs_us (m : gs_M) : Nat := m.1.1 + m.1.2.1
def gs_Rep (G : gs_G) (m : gs_M) (H : Heap) : Prop := va_P G.2.1 vwCl (gs_ws G m) H ∧ m.1.1 ≤ 153 ∧ ∀ a j b : Nat, m.2.2.2 a j = some b → b < 153
def gs_tys (G : gs_G) : List (ClassId × FieldType) := [(G.2.2.1 12, .byte), (G.2.2.1 13, .int), (G.2.2.1 14, .long), (G.2.2.1 15, .object "GuestStars$Cloud"), (G.2.2.1 16, .object "GuestStars$Guest")]
def gs_K (G : gs_G) (U : State) : Prop := va_K G.2.1 vwCl (gs_tys G) U
def gs_ex (e : Nat) : String := match e with
  | 0 => "java/lang/IllegalArgumentException"
  | 1 => "java/lang/IndexOutOfBoundsException"
  | _ => "java/util/NoSuchElementException"
def gs_Qc (G : gs_G) (r : gs_R × gs_M) : Array Value → State → Outcome → State → Prop := fun _ st o t => ∃ v : Option gs_V, r.1 = .inl v ∧ o = .returned (v.map (gs_cv G)) ∧ gs_Rep G r.2 t.heap ∧ va_F (gs_A G) st t
def gs_XC (G : gs_G) (r : gs_R × gs_M) : String → State → State → Prop := fun E st t => ∃ e : Nat, r.1 = .inr e ∧ E = gs_ex e ∧ gs_Rep G r.2 t.heap ∧ va_F (gs_A G) st t
theorem gs_D (G : gs_G) (n : Nat) (f : Nat → va_E) : va_D (gs_A G) (va_pl (gs_ls G n) f) := by
  have key : ∀ (i : Nat) (p : Nat × va_E), (va_pl (gs_ls G n) f)[i]? = some p → i < n ∧ p.1 = G.1 + i := by
    intro i p h
    simp only [va_pl, gs_ls, List.getElem?_map] at h
    by_cases hi : i < n
    · rw [List.getElem?_range hi] at h
      cases h
      exact ⟨hi, rfl⟩
    · rw [List.getElem?_eq_none (by simpa using Nat.le_of_not_lt hi)] at h
      cases h
  refine ⟨fun i j p q hp hq he => ?_, fun k q hq => ?_⟩
  · have h1 := key i p hp
    have h2 := key j q hq
    omega
  · have h1 := key k q hq
    show G.1 ≤ q.1
    omega
theorem gs_in_ls {G : gs_G} {n a : Nat} (h : a < n) : G.1 + a ∈ gs_ls G n := List.mem_map.mpr ⟨a, List.mem_range.mpr h, rfl⟩
theorem gs_at (G : gs_G) (m : gs_M) {a : Nat} (h : a < m.1.1) : ∃ k : Nat, (gs_ws G m)[k]? = some (G.1 + a, gs_ce G m a) := by
  obtain ⟨k, hk⟩ := va_pl_get (X := []) (f := gs_wf G m) (gs_in_ls (G := G) h)
  refine ⟨k, ?_⟩
  have e : gs_wf G m (G.1 + a) = gs_ce G m a := by simp [gs_wf, Nat.add_sub_cancel_left]
  rw [e] at hk
  exact hk
theorem gs_ok_iff {a c n : Nat} (h : gs_ok a c n = true) : gs_kind a = c ∧ a < n := by
  simp only [gs_ok, Bool.and_eq_true] at h
  exact ⟨Nat.eq_of_beq_eq_true h.1, Nat.lt_of_succ_le (Nat.le_of_ble_eq_true h.2)⟩
theorem gs_ad_lt {G : gs_G} {a : Nat} (h : a < 153) : gs_ad G a = G.1 + a := by
  unfold gs_ad
  rw [if_neg (by omega), if_neg (by omega), if_neg (by omega)]
theorem gs_in_iff {i : Int32} {n : Nat} (h : gs_in i n = true) : vp_in i n := by
  simp only [gs_in, Bool.and_eq_true, Bool.not_eq_true', decide_eq_false_iff_not] at h
  intro h2
  rcases h2 with h2 | h2
  · exact h.1 h2
  · have := Nat.lt_of_succ_le (Nat.le_of_ble_eq_true h.2)
    omega
theorem lv_lt_list {α : Type} {l : List α} {j : Nat} {t : α} (h : l[j]? = some t) : j < l.length := (List.getElem?_eq_some_iff.mp h).1
theorem gs_ob_len (G : gs_G) (m : gs_M) (a : Nat) : ∀ (ts : List Nat) (j : Nat), (gs_ob G m a j ts).length = ts.length
  | [], _ => rfl
  | t :: ts, j => by simp only [gs_ob, List.length_cons, gs_ob_len G m a ts (j + 1)]
theorem gs_ob_get (G : gs_G) (m : gs_M) (a : Nat) : ∀ (ts : List Nat) (j k : Nat), (gs_ob G m a j ts)[k]? = (ts[k]?).map (fun t => gs_fv G m a t (j + k))
  | [], _, k => by simp [gs_ob]
  | t :: ts, j, 0 => by simp [gs_ob]
  | t :: ts, j, k + 1 => by
    simp only [gs_ob, List.getElem?_cons_succ, gs_ob_get G m a ts (j + 1) k]
    have e : j + 1 + k = j + (k + 1) := by omega
    rw [e]
theorem gs_ext_list {α : Type} {l1 l2 : List α} (h : ∀ k : Nat, l1[k]? = l2[k]?) : l1 = l2 := List.ext_getElem? h
/-- one field changed -/
theorem gs_ob_set {G : gs_G} {m m2 : gs_M} {a j : Nat} {v : Value} {ts : List Nat} (hj : j < ts.length) (h1 : ∀ t, ts[j]? = some t → gs_fv G m2 a t j = v) (h2 : ∀ k t, k ≠ j → ts[k]? = some t → gs_fv G m2 a t k = gs_fv G m a t k) : gs_ob G m2 a 0 ts = (gs_ob G m a 0 ts).set j v := by
  apply List.ext_getElem?
  intro k
  rw [gs_ob_get, List.getElem?_set, gs_ob_len, gs_ob_get]
  simp only [Nat.zero_add]
  by_cases hk : j = k
  · subst hk
    rw [if_pos rfl, if_pos hj]
    rw [List.getElem?_eq_getElem hj, Option.map_some, h1 _ (List.getElem?_eq_getElem hj)]
  · rw [if_neg hk]
    cases ht : ts[k]? with
    | none => rfl
    | some t => rw [Option.map_some, Option.map_some, h2 k t (fun e => hk e.symm) ht]
theorem gs_fv_cong {G : gs_G} {m m2 : gs_M} {a : Nat} (h1 : m2.2.1 a = m.2.1 a) (h2 : m2.2.2.1 a = m.2.2.1 a) (h3 : m2.2.2.2 a = m.2.2.2 a) (t j : Nat) : gs_fv G m2 a t j = gs_fv G m a t j := by
  unfold gs_fv
  split
  · rw [h2]
  · rw [h3]
  · rw [h1]
theorem gs_ce_cong {G : gs_G} {m m2 : gs_M} {a : Nat} (h1 : m2.2.1 a = m.2.1 a) (h2 : m2.2.2.1 a = m.2.2.1 a) (h3 : m2.2.2.2 a = m.2.2.2 a) : gs_ce G m2 a = gs_ce G m a := by
  unfold gs_ce
  split
  · have e : ∀ (ts : List Nat) (j : Nat), gs_ob G m2 a j ts = gs_ob G m a j ts := by
      intro ts
      induction ts with
      | nil => intro j; rfl
      | cons t ts ih => intro j; simp only [gs_ob, ih, gs_fv_cong h1 h2 h3]
    rw [e]
  · have e : gs_rw G m2 a (gs_kind a) = gs_rw G m a (gs_kind a) := by
      unfold gs_rw
      split
      · rw [h2]
      · rw [h3]
      · rw [h3]
      · rw [h1]
    rw [e]
theorem gs_up2_row {α : Type} (f : Nat → Nat → α) (a j : Nat) (x : α) : gs_up2 f a j x a = fun i => if i = j then x else f a i := by
  funext i
  simp [gs_up2]
theorem gs_up2_ne {α : Type} (f : Nat → Nat → α) (a j : Nat) (x : α) {b : Nat} (h : b ≠ a) : gs_up2 f a j x b = f b := by
  funext i
  simp [gs_up2, h]
theorem gs_up2_at {α : Type} (f : Nat → Nat → α) (a j : Nat) (x : α) : gs_up2 f a j x a j = x := by simp [gs_up2]
theorem gs_up2_nj {α : Type} (f : Nat → Nat → α) (a j : Nat) (x : α) {b i : Nat} (h : i ≠ j) : gs_up2 f a j x b i = f b i := by simp [gs_up2, h]
theorem gs_ce_obj {G : gs_G} {m : gs_M} {a c : Nat} (hk : gs_kind a = c) (hc : c < 12) : gs_ce G m a = .inr (c, gs_ob G m a 0 (gs_ftab.getD c [])) := by
  unfold gs_ce
  rw [hk, if_pos hc]
theorem gs_ce_arr {G : gs_G} {m : gs_M} {a c : Nat} (hk : gs_kind a = c) (hc : ¬ c < 12) : gs_ce G m a = .inl (G.2.2.1 c, gs_len a, gs_rw G m a c) := by
  unfold gs_ce
  rw [hk, if_neg hc]
theorem gs_sI_ce {G : gs_G} {m : gs_M} {a b j : Nat} {x : Int32} (h : b ≠ a) : gs_ce G (gs_sI m a j x) b = gs_ce G m b := gs_ce_cong (gs_up2_ne _ _ _ _ h) rfl rfl
theorem gs_sJ_ce {G : gs_G} {m : gs_M} {a b j : Nat} {x : Int64} (h : b ≠ a) : gs_ce G (gs_sJ m a j x) b = gs_ce G m b := gs_ce_cong rfl (gs_up2_ne _ _ _ _ h) rfl
theorem gs_sR_ce {G : gs_G} {m : gs_M} {a b j : Nat} {x : Nat} (h : b ≠ a) : gs_ce G (gs_sR m a j x) b = gs_ce G m b := gs_ce_cong rfl rfl (gs_up2_ne _ _ _ _ h)
theorem gs_sI_ob {G : gs_G} {m : gs_M} {a j t : Nat} {x : Int32} {ts : List Nat} (ht : ts[j]? = some t) (h0 : t = 0 ∨ t = 3) : gs_ob G (gs_sI m a j x) a 0 ts = (gs_ob G m a 0 ts).set j (.int x) := by
  refine gs_ob_set (lv_lt_list ht) (fun t' ht' => ?_) (fun k t' hk ht' => ?_)
  · rw [ht] at ht'
    cases ht'
    rcases h0 with rfl | rfl
    · show Value.int (gs_up2 m.2.1 a j x a j) = .int x
      rw [gs_up2_at]
    · show Value.int (gs_up2 m.2.1 a j x a j) = .int x
      rw [gs_up2_at]
  · unfold gs_fv
    split
    · rfl
    · rfl
    · show Value.int (gs_up2 m.2.1 a j x a k) = _
      rw [gs_up2_nj _ _ _ _ hk]
theorem gs_sJ_ob {G : gs_G} {m : gs_M} {a j : Nat} {x : Int64} {ts : List Nat} (ht : ts[j]? = some 1) : gs_ob G (gs_sJ m a j x) a 0 ts = (gs_ob G m a 0 ts).set j (.long x) := by
  refine gs_ob_set (lv_lt_list ht) (fun t' ht' => ?_) (fun k t' hk ht' => ?_)
  · rw [ht] at ht'
    cases ht'
    show Value.long (gs_up2 m.2.2.1 a j x a j) = .long x
    rw [gs_up2_at]
  · unfold gs_fv
    split
    · show Value.long (gs_up2 m.2.2.1 a j x a k) = _
      rw [gs_up2_nj _ _ _ _ hk]
    · rfl
    · rfl
theorem gs_sR_ob {G : gs_G} {m : gs_M} {a j : Nat} {x : Nat} {ts : List Nat} (ht : ts[j]? = some 2) : gs_ob G (gs_sR m a j x) a 0 ts = (gs_ob G m a 0 ts).set j (.ref (G.1 + x)) := by
  refine gs_ob_set (lv_lt_list ht) (fun t' ht' => ?_) (fun k t' hk ht' => ?_)
  · rw [ht] at ht'
    cases ht'
    show va_rf ((gs_up2 m.2.2.2 a j (some x) a j).map (G.1 + ·)) = .ref (G.1 + x)
    rw [gs_up2_at]
    rfl
  · unfold gs_fv
    split
    · rfl
    · show va_rf ((gs_up2 m.2.2.2 a j (some x) a k).map (G.1 + ·)) = _
      rw [gs_up2_nj _ _ _ _ hk]
    · rfl
end
section
/-! The context of a body, and single instructions over the pure memory. -/
def gs_gw (w : Cond) : Prop := w ∈ lw_tbl ∧ goodWord w = true
def gs_Cx (p : Program) (s : State) (m₀ : MethodId) (args : Array Value) (meth : Method) (c : Code) (G : gs_G) (cc : ByteArray) (nL : Nat) (own : String) (u0 : Nat) : Prop :=
  p.tables.exec = Jvm.exec ∧ c.code = cc ∧ c.maxLocals = nL ∧ s.vm.findClass own = some m₀.cls ∧ (∀ w, gs_gw w → w.before args s = true) ∧ gs_K G s ∧ meth.locks = false ∧ G.1 ≤ s.heap.size ∧ s.heap.size ≤ G.1 + u0
def gs_Tg (p : Program) (l : Launch) (e : Env) (R : Room) (s : State) (m₀ : MethodId) (args : Array Value) (below : List Frame) (meth : Method) (c : Code) (G : gs_G) (nL u0 z0 : Nat) (r : gs_R × gs_M) (pc : Nat) (lo : gs_L) (st : List gs_V) (m : gs_M) : Prop :=
  (gs_us m ≤ gs_us r.2 ∧ m.1.2.2 ≤ r.2.1.2.2) ∧
  (u0 ≤ gs_us m → z0 ≤ m.1.2.2 → ∀ (H : Heap) (locs : List Loc) (ls : Array Slot), gs_Rep G m H → va_S (gs_A G) s.heap H locs → lv_has ls nL (gs_cl G lo) →
    W p l e R s m₀ args below meth c H locs (gs_us m - u0) (m.1.2.2 - z0) (vx_MQ below (gs_Qc G r) (gs_XC G r) args s (gs_us r.2 - u0) (r.2.1.2.2 - z0) (gs_A G)) (F0 m₀ pc ls (st.map (gs_cv G))))
def gs_tyl : List (Nat → FieldType) := [tyX0, tyX1, tyX2, tyX3, tyX4, tyX5, tyX6, tyX8, tyX9, tyX10, tyX11, tyX12]
def gs_tyc (c : Nat) : Nat → FieldType := gs_tyl.getD c (fun _ => .int)
def gs_cod (t : Nat) (ty : FieldType) : Bool := match t, ty with
  | 0, .int => true
  | 1, .long => true
  | 2, .object _ => true
  | 2, .array _ => true
  | 3, .boolean => true
  | _, _ => false
def gs_clOk (c : Nat) (q : vw_C) : Prop := (∀ w ∈ u_ws q.1 q.2.1 q.2.2, gs_gw w) ∧ (∀ k, k < q.2.2 → parseFieldDescriptor (q.2.1 k).2.2.1 = some (gs_tyc c k)) ∧ (∀ a, a < q.2.2 → ∀ b, b < q.2.2 → a ≠ b → (q.2.1 a).2.1 ≠ (q.2.1 b).2.1) ∧ (gs_ftab.getD c []).length = q.2.2 ∧ ∀ k, k < q.2.2 → gs_cod ((gs_ftab.getD c []).getD k 9) (gs_tyc c k) = true
theorem gs_gw_all (ws : List Cond) (h : ws.all (fun w => decide (w ∈ lw_tbl) && goodWord w) = true) : ∀ w ∈ ws, gs_gw w := by
  intro w hw
  have h1 := List.all_eq_true.mp h w hw
  simp only [Bool.and_eq_true, decide_eq_true_eq] at h1
  exact h1
set_option maxRecDepth 100000 in
theorem gs_cl0 : gs_clOk 0 (RX0, TX0, 11) := ⟨gs_gw_all _ (by decide +kernel), tyX0_ok, nmX0, by decide, by decide⟩
set_option maxRecDepth 100000 in
theorem gs_cl1 : gs_clOk 1 (RX1, TX1, 1) := ⟨gs_gw_all _ (by decide +kernel), tyX1_ok, nmX1, by decide, by decide⟩
set_option maxRecDepth 100000 in
theorem gs_cl2 : gs_clOk 2 (RX2, TX2, 16) := ⟨gs_gw_all _ (by decide +kernel), tyX2_ok, nmX2, by decide, by decide⟩
set_option maxRecDepth 100000 in
theorem gs_cl3 : gs_clOk 3 (RX3, TX3, 4) := ⟨gs_gw_all _ (by decide +kernel), tyX3_ok, nmX3, by decide, by decide⟩
set_option maxRecDepth 100000 in
theorem gs_cl4 : gs_clOk 4 (RX4, TX4, 15) := ⟨gs_gw_all _ (by decide +kernel), tyX4_ok, nmX4, by decide, by decide⟩
set_option maxRecDepth 100000 in
theorem gs_cl5 : gs_clOk 5 (RX5, TX5, 11) := ⟨gs_gw_all _ (by decide +kernel), tyX5_ok, nmX5, by decide, by decide⟩
set_option maxRecDepth 100000 in
theorem gs_cl6 : gs_clOk 6 (RX6, TX6, 5) := ⟨gs_gw_all _ (by decide +kernel), tyX6_ok, nmX6, by decide, by decide⟩
set_option maxRecDepth 100000 in
theorem gs_cl7 : gs_clOk 7 (RX8, TX8, 14) := ⟨gs_gw_all _ (by decide +kernel), tyX8_ok, nmX8, by decide, by decide⟩
set_option maxRecDepth 100000 in
theorem gs_cl8 : gs_clOk 8 (RX9, TX9, 8) := ⟨gs_gw_all _ (by decide +kernel), tyX9_ok, nmX9, by decide, by decide⟩
set_option maxRecDepth 100000 in
theorem gs_cl9 : gs_clOk 9 (RX10, TX10, 4) := ⟨gs_gw_all _ (by decide +kernel), tyX10_ok, nmX10, by decide, by decide⟩
set_option maxRecDepth 100000 in
theorem gs_cl10 : gs_clOk 10 (RX11, TX11, 10) := ⟨gs_gw_all _ (by decide +kernel), tyX11_ok, nmX11, by decide, by decide⟩
set_option maxRecDepth 100000 in
theorem gs_cl11 : gs_clOk 11 (RX12, TX12, 60) := ⟨gs_gw_all _ (by decide +kernel), tyX12_ok, nmX12, by decide, by decide⟩
theorem gs_clAll {c : Nat} {q : vw_C} (h : vwCl[c]? = some q) : gs_clOk c q := by
  match c, h with
  | 0, h => cases h; exact gs_cl0
  | 1, h => cases h; exact gs_cl1
  | 2, h => cases h; exact gs_cl2
  | 3, h => cases h; exact gs_cl3
  | 4, h => cases h; exact gs_cl4
  | 5, h => cases h; exact gs_cl5
  | 6, h => cases h; exact gs_cl6
  | 7, h => cases h; exact gs_cl7
  | 8, h => cases h; exact gs_cl8
  | 9, h => cases h; exact gs_cl9
  | 10, h => cases h; exact gs_cl10
  | 11, h => cases h; exact gs_cl11
  | n + 12, h => simp [vwCl] at h
theorem gs_clLt {c : Nat} (h : c < 12) : ∃ q : vw_C, vwCl[c]? = some q := ⟨_, List.getElem?_eq_getElem (l := vwCl) (by simpa [vwCl] using h)⟩
theorem gs_ws_set {G : gs_G} {m m2 : gs_M} {a k : Nat} {x : va_E} (ha : a < m.1.1) (hk : (gs_ws G m)[k]? = some (G.1 + a, gs_ce G m a)) (hn : m2.1.1 = m.1.1) (hx : gs_ce G m2 a = x) (ho : ∀ b, b ≠ a → gs_ce G m2 b = gs_ce G m b) : (gs_ws G m).set k (G.1 + a, x) = gs_ws G m2 := by
  have e : gs_wf G m (G.1 + a) = gs_ce G m a := by simp [gs_wf, Nat.add_sub_cancel_left]
  have h1 := va_pl_set (X := []) (L := gs_ls G m.1.1) (f := gs_wf G m) (a := G.1 + a) (k := k) (e := x) (gs_D G _ _) (gs_in_ls ha) (by rw [e]; exact hk)
  simp only [List.nil_append] at h1
  unfold gs_ws
  rw [h1, hn]
  unfold va_pl
  apply List.map_congr_left
  intro q hq
  obtain ⟨b, hb, rfl⟩ := List.mem_map.mp hq
  have e2 : va_up (gs_wf G m) (G.1 + a) x (G.1 + b) = gs_wf G m2 (G.1 + b) := by
    unfold va_up
    by_cases hab : b = a
    · subst hab
      rw [if_pos rfl]
      simp only [gs_wf, Nat.add_sub_cancel_left]
      exact hx.symm
    · rw [if_neg (by omega)]
      simp only [gs_wf, Nat.add_sub_cancel_left]
      exact (ho b hab).symm
  rw [e2]
section GSR
variable {p : Program} {l : Launch} {e : Env} {R : Room} {s : State} {m₀ : MethodId} {args : Array Value} {below : List Frame} {meth : Method} {c : Code} {G : gs_G} {cc : ByteArray} {nL : Nat} {own : String} {u0 z0 : Nat} {r : gs_R × gs_M}
theorem gs_mv {pc pc' : Nat} {lo : gs_L} {st st' : List gs_V} {m : gs_M} (h : gs_Tg p l e R s m₀ args below meth c G nL u0 z0 r pc' lo st' m)
    (row : ∀ (H : Heap) (locs : List Loc) (cells slots : Nat) (Q : State → Prop) (ls : Array Slot), lv_has ls nL (gs_cl G lo) → W p l e R s m₀ args below meth c H locs cells slots Q (F0 m₀ pc' ls (st'.map (gs_cv G))) → W p l e R s m₀ args below meth c H locs cells slots Q (F0 m₀ pc ls (st.map (gs_cv G)))) :
    gs_Tg p l e R s m₀ args below meth c G nL u0 z0 r pc lo st m :=
  ⟨h.1, fun a b H locs ls hR hS hl => row H locs _ _ _ ls hl (h.2 a b H locs ls hR hS hl)⟩
/-- with what the heap holds -/
theorem gs_mvR {pc pc' : Nat} {lo : gs_L} {st st' : List gs_V} {m : gs_M} (h : gs_Tg p l e R s m₀ args below meth c G nL u0 z0 r pc' lo st' m)
    (row : ∀ (H : Heap) (locs : List Loc) (cells slots : Nat) (Q : State → Prop) (ls : Array Slot), gs_Rep G m H → va_S (gs_A G) s.heap H locs → lv_has ls nL (gs_cl G lo) → W p l e R s m₀ args below meth c H locs cells slots Q (F0 m₀ pc' ls (st'.map (gs_cv G))) → W p l e R s m₀ args below meth c H locs cells slots Q (F0 m₀ pc ls (st.map (gs_cv G)))) :
    gs_Tg p l e R s m₀ args below meth c G nL u0 z0 r pc lo st m :=
  ⟨h.1, fun a b H locs ls hR hS hl => row H locs _ _ _ ls hR hS hl (h.2 a b H locs ls hR hS hl)⟩
/-- new locals -/
theorem gs_mvL {pc pc' : Nat} {lo lo' : gs_L} {st st' : List gs_V} {m : gs_M} (h : gs_Tg p l e R s m₀ args below meth c G nL u0 z0 r pc' lo' st' m)
    (row : ∀ (H : Heap) (locs : List Loc) (cells slots : Nat) (Q : State → Prop) (ls : Array Slot), lv_has ls nL (gs_cl G lo) → (∀ ls' : Array Slot, lv_has ls' nL (gs_cl G lo') → W p l e R s m₀ args below meth c H locs cells slots Q (F0 m₀ pc' ls' (st'.map (gs_cv G)))) → W p l e R s m₀ args below meth c H locs cells slots Q (F0 m₀ pc ls (st.map (gs_cv G)))) :
    gs_Tg p l e R s m₀ args below meth c G nL u0 z0 r pc lo st m :=
  ⟨h.1, fun a b H locs ls hR hS hl => row H locs _ _ _ ls hl (fun ls' hl' => h.2 a b H locs ls' hR hS hl')⟩
/-- a new memory of the same counts -/
theorem gs_mvM {pc pc' : Nat} {lo : gs_L} {st st' : List gs_V} {m m2 : gs_M} (h : gs_Tg p l e R s m₀ args below meth c G nL u0 z0 r pc' lo st' m2) (h1 : m2.1 = m.1) (h2 : m.1.1 ≤ 153 → (∀ a j b : Nat, m.2.2.2 a j = some b → b < 153) → ∀ a j b : Nat, m2.2.2.2 a j = some b → b < 153)
    (row : ∀ (H : Heap) (locs : List Loc) (cells slots : Nat) (Q : State → Prop) (ls : Array Slot), gs_Rep G m H → va_S (gs_A G) s.heap H locs → lv_has ls nL (gs_cl G lo) → (∀ (H1 : Heap) (locs1 : List Loc), va_P G.2.1 vwCl (gs_ws G m2) H1 → va_S (gs_A G) s.heap H1 locs1 → W p l e R s m₀ args below meth c H1 locs1 cells slots Q (F0 m₀ pc' ls (st'.map (gs_cv G)))) → W p l e R s m₀ args below meth c H locs cells slots Q (F0 m₀ pc ls (st.map (gs_cv G)))) :
    gs_Tg p l e R s m₀ args below meth c G nL u0 z0 r pc lo st m := by
  have hu : gs_us m2 = gs_us m := by unfold gs_us; rw [h1]
  refine ⟨by rw [← hu, ← h1]; exact h.1, fun a b H locs ls hR hS hl => row H locs _ _ _ ls hR hS hl (fun H1 locs1 hP1 hS1 => ?_)⟩
  have h3 := h.2 (by rw [hu]; exact a) (by rw [h1]; exact b) H1 locs1 ls ⟨hP1, by rw [h1]; exact hR.2.1, h2 hR.2.1 hR.2.2⟩ hS1 hl
  rw [hu, h1] at h3
  exact h3
theorem gs_lk_mem {lo : gs_L} {i : Nat} {v : gs_V} (h : gs_lk lo i = some v) : (i, v) ∈ lo := by
  induction lo with
  | nil => cases h
  | cons q t ih =>
    simp only [gs_lk] at h
    cases hb : Nat.beq q.1 i with
    | true =>
      rw [hb] at h
      have e1 := Nat.eq_of_beq_eq_true hb
      have e2 : q.2 = v := Option.some.inj h
      rw [← e1, ← e2]
      exact List.mem_cons_self
    | false =>
      rw [hb] at h
      exact List.mem_cons_of_mem _ (ih h)
theorem gs_lv {lo : gs_L} {ls : Array Slot} {i : Nat} {v : gs_V} (hl : lv_has ls nL (gs_cl G lo)) (h : gs_lk lo i = some v) : ls[i]? = some (.val (gs_cv G v)) :=
  hl.2.2 (i, gs_cv G v) (List.mem_map.mpr ⟨(i, v), gs_lk_mem h, rfl⟩)
theorem gs_rm_mem {lo : gs_L} {i : Nat} {q : Nat × gs_V} (h : q ∈ gs_rm lo i) : q ∈ lo ∧ q.1 ≠ i ∧ ¬ (q.1 + 1 = i ∧ gs_two q.2 = true) := by
  induction lo with
  | nil => cases h
  | cons x t ih =>
    simp only [gs_rm] at h
    cases hb : (Nat.beq x.1 i || (Nat.beq (x.1 + 1) i && gs_two x.2)) with
    | true =>
      rw [hb] at h
      have h2 := ih h
      exact ⟨List.mem_cons_of_mem _ h2.1, h2.2⟩
    | false =>
      rw [hb] at h
      have h' : q ∈ x :: gs_rm t i := h
      simp only [Bool.or_eq_false_iff, Bool.and_eq_false_iff] at hb
      rcases List.mem_cons.mp h' with e | h2
      · subst e
        refine ⟨List.mem_cons_self, fun e => ?_, fun e => ?_⟩
        · rw [e, Nat.beq_refl] at hb
          cases hb.1
        · rcases hb.2 with h3 | h3
          · rw [e.1, Nat.beq_refl] at h3
            cases h3
          · rw [e.2] at h3
            cases h3
      · have h2 := ih h2
        exact ⟨List.mem_cons_of_mem _ h2.1, h2.2⟩
theorem gs_cat (G : gs_G) (v : gs_V) : (gs_cv G v).category = (cond (gs_two v) 2 1) := by
  rcases v with x | x | x <;> rfl
/-- fewer locals -/
theorem gs_lvs {ls : Array Slot} {l1 : List (Nat × Value)} {lo : gs_L} (h : lv_has ls nL l1) (hs : ∀ q ∈ lo, (q.1, gs_cv G q.2) ∈ l1) : lv_has ls nL (gs_cl G lo) := by
  refine ⟨h.1, h.2.1, fun q hq => ?_⟩
  obtain ⟨x, hx, rfl⟩ := List.mem_map.mp hq
  exact h.2.2 _ (hs x hx)
theorem gs_st1_sub {lo : gs_L} {i : Nat} {v : gs_V} : ∀ q ∈ gs_st1 lo i v, (q.1, gs_cv G q.2) ∈ ((i, gs_cv G v) :: (gs_cl G lo).filter (fun q => !(q.1 == i) && !(q.1 + 1 == i && q.2.category == 2))) := by
  intro q hq
  rcases List.mem_cons.mp hq with rfl | hq
  · exact List.mem_cons_self
  · obtain ⟨h1, h2, h3⟩ := gs_rm_mem hq
    refine List.mem_cons_of_mem _ (List.mem_filter.mpr ⟨List.mem_map.mpr ⟨q, h1, rfl⟩, ?_⟩)
    have e1 : (q.1 == i) = false := by simpa using h2
    have e2 : (q.1 + 1 == i && (gs_cv G q.2).category == 2) = false := by
      rw [gs_cat]
      cases ht : gs_two q.2 with
      | false => simp
      | true =>
        have : q.1 + 1 ≠ i := fun e => h3 ⟨e, ht⟩
        simp [this]
    simp only [e1, e2, Bool.not_false, Bool.and_self]
theorem gs_st2_sub {lo : gs_L} {i : Nat} {v : gs_V} : ∀ q ∈ gs_st2 lo i v, (q.1, gs_cv G q.2) ∈ ((i, gs_cv G v) :: (gs_cl G lo).filter (fun q => !(q.1 == i) && (!(q.1 == i + 1) && !(q.1 + 1 == i && q.2.category == 2)))) := by
  intro q hq
  rcases List.mem_cons.mp hq with rfl | hq
  · exact List.mem_cons_self
  · obtain ⟨h1, h2, h3⟩ := gs_rm_mem hq
    obtain ⟨h4, h5, -⟩ := gs_rm_mem h1
    refine List.mem_cons_of_mem _ (List.mem_filter.mpr ⟨List.mem_map.mpr ⟨q, h4, rfl⟩, ?_⟩)
    have e1 : (q.1 == i) = false := by simpa using h2
    have e3 : (q.1 == i + 1) = false := by simpa using h5
    have e2 : (q.1 + 1 == i && (gs_cv G q.2).category == 2) = false := by
      rw [gs_cat]
      cases ht : gs_two q.2 with
      | false => simp
      | true =>
        have : q.1 + 1 ≠ i := fun e => h3 ⟨e, ht⟩
        simp [this]
    simp only [e1, e2, e3, Bool.not_false, Bool.and_self]
end GSR
end
section
theorem gs_i1_ok {st : List gs_V} {f : Int32 → List gs_V → gs_O} {r : gs_R × gs_M} (h : gs_i1 st f = some r) : ∃ (x : Int32) (st' : List gs_V), st = .inl x :: st' ∧ f x st' = some r := by
  unfold gs_i1 at h
  split at h
  · exact ⟨_, _, rfl, h⟩
  · cases h
theorem gs_i2_ok {st : List gs_V} {f : Int32 → Int32 → List gs_V → gs_O} {r : gs_R × gs_M} (h : gs_i2 st f = some r) : ∃ (x : Int32) (y : Int32) (st' : List gs_V), st = .inl y :: .inl x :: st' ∧ f x y st' = some r := by
  unfold gs_i2 at h
  split at h
  · exact ⟨_, _, _, rfl, h⟩
  · cases h
theorem gs_j1_ok {st : List gs_V} {f : Int64 → List gs_V → gs_O} {r : gs_R × gs_M} (h : gs_j1 st f = some r) : ∃ (x : Int64) (st' : List gs_V), st = .inr (.inl x) :: st' ∧ f x st' = some r := by
  unfold gs_j1 at h
  split at h
  · exact ⟨_, _, rfl, h⟩
  · cases h
theorem gs_j2_ok {st : List gs_V} {f : Int64 → Int64 → List gs_V → gs_O} {r : gs_R × gs_M} (h : gs_j2 st f = some r) : ∃ (x : Int64) (y : Int64) (st' : List gs_V), st = .inr (.inl y) :: .inr (.inl x) :: st' ∧ f x y st' = some r := by
  unfold gs_j2 at h
  split at h
  · exact ⟨_, _, _, rfl, h⟩
  · cases h
theorem gs_a1_ok {st : List gs_V} {f : Nat → List gs_V → gs_O} {r : gs_R × gs_M} (h : gs_a1 st f = some r) : ∃ (x : Nat) (st' : List gs_V), st = .inr (.inr x) :: st' ∧ f x st' = some r := by
  unfold gs_a1 at h
  split at h
  · exact ⟨_, _, rfl, h⟩
  · cases h
theorem gs_ia_ok {st : List gs_V} {f : Int32 → Nat → List gs_V → gs_O} {r : gs_R × gs_M} (h : gs_ia st f = some r) : ∃ (y : Int32) (x : Nat) (st' : List gs_V), st = .inl y :: .inr (.inr x) :: st' ∧ f y x st' = some r := by
  unfold gs_ia at h
  split at h
  · exact ⟨_, _, _, rfl, h⟩
  · cases h
theorem gs_ja_ok {st : List gs_V} {f : Int64 → Nat → List gs_V → gs_O} {r : gs_R × gs_M} (h : gs_ja st f = some r) : ∃ (y : Int64) (x : Nat) (st' : List gs_V), st = .inr (.inl y) :: .inr (.inr x) :: st' ∧ f y x st' = some r := by
  unfold gs_ja at h
  split at h
  · exact ⟨_, _, _, rfl, h⟩
  · cases h
theorem gs_aa_ok {st : List gs_V} {f : Nat → Nat → List gs_V → gs_O} {r : gs_R × gs_M} (h : gs_aa st f = some r) : ∃ (y : Nat) (x : Nat) (st' : List gs_V), st = .inr (.inr y) :: .inr (.inr x) :: st' ∧ f y x st' = some r := by
  unfold gs_aa at h
  split at h
  · exact ⟨_, _, _, rfl, h⟩
  · cases h
theorem gs_iia_ok {st : List gs_V} {f : Int32 → Int32 → Nat → List gs_V → gs_O} {r : gs_R × gs_M} (h : gs_iia st f = some r) : ∃ (x : Int32) (j : Int32) (a : Nat) (st' : List gs_V), st = .inl x :: .inl j :: .inr (.inr a) :: st' ∧ f x j a st' = some r := by
  unfold gs_iia at h
  split at h
  · exact ⟨_, _, _, _, rfl, h⟩
  · cases h
theorem gs_jia_ok {st : List gs_V} {f : Int64 → Int32 → Nat → List gs_V → gs_O} {r : gs_R × gs_M} (h : gs_jia st f = some r) : ∃ (x : Int64) (j : Int32) (a : Nat) (st' : List gs_V), st = .inr (.inl x) :: .inl j :: .inr (.inr a) :: st' ∧ f x j a st' = some r := by
  unfold gs_jia at h
  split at h
  · exact ⟨_, _, _, _, rfl, h⟩
  · cases h
theorem gs_aia_ok {st : List gs_V} {f : Nat → Int32 → Nat → List gs_V → gs_O} {r : gs_R × gs_M} (h : gs_aia st f = some r) : ∃ (x : Nat) (j : Int32) (a : Nat) (st' : List gs_V), st = .inr (.inr x) :: .inl j :: .inr (.inr a) :: st' ∧ f x j a st' = some r := by
  unfold gs_aia at h
  split at h
  · exact ⟨_, _, _, _, rfl, h⟩
  · cases h
theorem gs_v1_ok {st : List gs_V} {f : gs_V → List gs_V → gs_O} {r : gs_R × gs_M} (h : gs_v1 st f = some r) : ∃ (v : gs_V) (st' : List gs_V), st = v :: st' ∧ f v st' = some r := by
  unfold gs_v1 at h
  split at h
  · exact ⟨_, _, rfl, h⟩
  · cases h
theorem gs_v2_ok {st : List gs_V} {f : gs_V → gs_V → List gs_V → gs_O} {r : gs_R × gs_M} (h : gs_v2 st f = some r) : ∃ (v : gs_V) (w : gs_V) (st' : List gs_V), st = v :: w :: st' ∧ f v w st' = some r := by
  unfold gs_v2 at h
  split at h
  · exact ⟨_, _, _, rfl, h⟩
  · cases h
theorem gs_lI_ok {lo : gs_L} {i : Nat} {f : Int32 → gs_O} {r : gs_R × gs_M} (h : gs_lI lo i f = some r) : ∃ x : Int32, gs_lk lo i = some (.inl x) ∧ f x = some r := by
  unfold gs_lI at h
  split at h
  · next x hx => exact ⟨_, hx, h⟩
  · cases h
theorem gs_lJ_ok {lo : gs_L} {i : Nat} {f : Int64 → gs_O} {r : gs_R × gs_M} (h : gs_lJ lo i f = some r) : ∃ x : Int64, gs_lk lo i = some (.inr (.inl x)) ∧ f x = some r := by
  unfold gs_lJ at h
  split at h
  · next x hx => exact ⟨_, hx, h⟩
  · cases h
theorem gs_lA_ok {lo : gs_L} {i : Nat} {f : Nat → gs_O} {r : gs_R × gs_M} (h : gs_lA lo i f = some r) : ∃ x : Nat, gs_lk lo i = some (.inr (.inr x)) ∧ f x = some r := by
  unfold gs_lA at h
  split at h
  · next x hx => exact ⟨_, hx, h⟩
  · cases h
theorem gs_cI_ok {v : gs_V} {f : Int32 → gs_O} {r : gs_R × gs_M} (h : gs_cI v f = some r) : ∃ x : Int32, v = .inl x ∧ f x = some r := by
  unfold gs_cI at h
  split at h
  · exact ⟨_, rfl, h⟩
  · cases h
theorem gs_cJ_ok {v : gs_V} {f : Int64 → gs_O} {r : gs_R × gs_M} (h : gs_cJ v f = some r) : ∃ x : Int64, v = .inr (.inl x) ∧ f x = some r := by
  unfold gs_cJ at h
  split at h
  · exact ⟨_, rfl, h⟩
  · cases h
theorem gs_e0_ok {st : List gs_V} {k : gs_O} {r : gs_R × gs_M} (h : gs_e0 st k = some r) : st = [] ∧ k = some r := by
  unfold gs_e0 at h
  split at h
  · exact ⟨rfl, h⟩
  · cases h
theorem gs_fld_ok {m : gs_M} {a c : Nat} {k : gs_O} {r : gs_R × gs_M} (h : gs_fld m a c k = some r) : (gs_kind a = c ∧ a < m.1.1) ∧ k = some r := by
  unfold gs_fld at h
  cases hb : gs_ok a c m.1.1 with
  | true => rw [hb] at h; exact ⟨gs_ok_iff hb, h⟩
  | false => rw [hb] at h; cases h
theorem gs_ix_ok {m : gs_M} {a c : Nat} {i : Int32} {k : Nat → gs_O} {r : gs_R × gs_M} (h : gs_ix m a c i k = some r) : (gs_kind a = c ∧ a < m.1.1) ∧ vp_in i (gs_len a) ∧ k i.toNatClampNeg = some r := by
  unfold gs_ix at h
  cases hb : (gs_ok a c m.1.1 && gs_in i (gs_len a)) with
  | true =>
    rw [hb] at h
    simp only [Bool.and_eq_true] at hb
    exact ⟨gs_ok_iff hb.1, gs_in_iff hb.2, h⟩
  | false => rw [hb] at h; cases h
theorem gs_nn_ok {o : Option Nat} {k : Nat → gs_O} {r : gs_R × gs_M} (h : gs_nn o k = some r) : ∃ a, o = some a ∧ k a = some r := by
  unfold gs_nn at h
  split at h
  · exact ⟨_, rfl, h⟩
  · cases h
theorem gs_bt_ok {x : Int32} {k : gs_O} {r : gs_R × gs_M} (h : gs_bt x k = some r) : (x = 0 ∨ x = 1) ∧ k = some r := by
  unfold gs_bt at h
  split at h
  · next hx => exact ⟨hx, h⟩
  · cases h
theorem gs_nz_ok {y : Int32} {k : gs_O} {r : gs_R × gs_M} (h : gs_nz y k = some r) : ¬ y = 0 ∧ k = some r := by
  unfold gs_nz at h
  split at h
  · cases h
  · next hx => exact ⟨hx, h⟩
theorem gs_nzL_ok {y : Int64} {k : gs_O} {r : gs_R × gs_M} (h : gs_nzL y k = some r) : ¬ y = 0 ∧ k = some r := by
  unfold gs_nzL at h
  split at h
  · cases h
  · next hx => exact ⟨hx, h⟩
theorem gs_cd_ok {b : Bool} {k : gs_O} {r : gs_R × gs_M} (h : cond b k none = some r) : b = true ∧ k = some r := by
  cases b with
  | true => exact ⟨rfl, h⟩
  | false => cases h
theorem gs_cn_ok {b : Bool} {k : gs_O} {r : gs_R × gs_M} (h : cond b none k = some r) : b = false ∧ k = some r := by
  cases b with
  | false => exact ⟨rfl, h⟩
  | true => cases h
/-- a switch's target -/
def gs_swl : List (Int32 × Nat) → Int32 → Nat → Nat
  | [], _, d => d
  | q :: t, x, d => if x = q.1 then q.2 else gs_swl t x d
theorem gs_sw_eq (f : Nat → gs_O) (x : Int32) (d : Nat) : ∀ sw : List (Int32 × Nat), gs_sw sw f x d = f (gs_swl sw x d)
  | [] => rfl
  | q :: t => by
    unfold gs_sw gs_swl
    split
    · rfl
    · exact gs_sw_eq f x d t
end
section
section GSF
variable {p : Program} {l : Launch} {e : Env} {R : Room} {s : State} {m₀ : MethodId} {args : Array Value} {below : List Frame} {meth : Method} {c : Code} {G : gs_G} {cc : ByteArray} {nL : Nat} {own : String} {u0 z0 : Nat} {r : gs_R × gs_M}
variable {H : Heap} {locs : List Loc} {cells slots : Nat} {Q : State → Prop} {ls : Array Slot} {rest : List Value} {m m2 : gs_M} {a j k idx pc : Nat}
theorem gs_getf (hC : gs_Cx p s m₀ args meth c G cc nL own u0) {q : vw_C} (hq : vwCl[k]? = some q) (hfl : gs_gw (.fieldLink own idx (q.2.1 j).1 (q.2.1 j).2.1 (q.2.1 j).2.2.1)) (hj : j < q.2.2) (hk : gs_kind a = k) (ha : a < m.1.1) (hc : k < 12) (hd : decode cc pc = .ok (.getfield idx, 3))
    {t : Nat} (ht : (gs_ftab.getD k [])[j]? = some t) (hR : gs_Rep G m H) (kk : W p l e R s m₀ args below meth c H locs cells slots Q (F0 m₀ (pc + 3) ls (gs_fv G m a t j :: rest))) : W p l e R s m₀ args below meth c H locs cells slots Q (F0 m₀ pc ls (.ref (gs_ad G a) :: rest)) := by
  obtain ⟨hx, hb, -, hown, hgw, hK, -, -⟩ := hC
  obtain ⟨hw, -⟩ := gs_clAll hq
  obtain ⟨k0, hk0⟩ := gs_at G m ha
  rw [gs_ce_obj hk hc] at hk0
  rw [gs_ad_lt (Nat.lt_of_lt_of_le ha hR.2.1)]
  refine va_get (C := q.1) (T := q.2.1) (N := q.2.2) (ci := k) (Ts := u_ws q.1 q.2.1 q.2.2) hx hb (fun w h => hgw w (hw w h)) (fun w h => h) hown hK hR.1 k0 hk0 hq j hj (hgw _ hfl) (fun _ h => h) (v := gs_fv G m a t j) ?_ hd kk
  rw [gs_ob_get, ht]
  simp
theorem gs_putf (hC : gs_Cx p s m₀ args meth c G cc nL own u0) {q : vw_C} (hq : vwCl[k]? = some q) (hfl : gs_gw (.fieldLink own idx (q.2.1 j).1 (q.2.1 j).2.1 (q.2.1 j).2.2.1)) (hj : j < q.2.2) (hk : gs_kind a = k) (ha : a < m.1.1) (hc : k < 12) (hd : decode cc pc = .ok (.putfield idx, 3))
    (hfin : (q.2.1 j).2.2.2 = false ∨ ((q.2.1 j).2.2.2 = true ∧ meth.name = "<init>" ∧ (q.2.1 j).1 = own)) {v : Value} (hn : narrow (gs_tyc k j) v = v) (hfit : fits (gs_tyc k j) v = true) (hm : m2.1 = m.1) (hce : gs_ce G m2 a = .inr (k, (gs_ob G m a 0 (gs_ftab.getD k [])).set j v)) (ho : ∀ b, b ≠ a → gs_ce G m2 b = gs_ce G m b)
    (hR : gs_Rep G m H) (hS : va_S (gs_A G) s.heap H locs)
    (kk : ∀ (H1 : Heap) (locs1 : List Loc), va_P G.2.1 vwCl (gs_ws G m2) H1 → va_S (gs_A G) s.heap H1 locs1 → W p l e R s m₀ args below meth c H1 locs1 cells slots Q (F0 m₀ (pc + 3) ls rest)) : W p l e R s m₀ args below meth c H locs cells slots Q (F0 m₀ pc ls (v :: .ref (gs_ad G a) :: rest)) := by
  obtain ⟨hx, hb, -, hown, hgw, hK, -, -⟩ := hC
  obtain ⟨hw, hty, hnm, hlen, hcod⟩ := gs_clAll hq
  obtain ⟨k0, hk0⟩ := gs_at G m ha
  have hset := fun (x : va_E) (hx : gs_ce G m2 a = x) => gs_ws_set (x := x) ha hk0 (by rw [hm]) hx ho
  have hset := hset _ hce
  rw [gs_ce_obj hk hc] at hk0
  rw [gs_ad_lt (Nat.lt_of_lt_of_le ha hR.2.1)]
  have hl : j < (gs_ob G m a 0 (gs_ftab.getD k [])).length := by rw [gs_ob_len, hlen]; exact hj
  rcases hfin with hfin | ⟨hfin, hin, hown2⟩
  · refine va_put (C := q.1) (T := q.2.1) (N := q.2.2) (ci := k) (Ts := u_ws q.1 q.2.1 q.2.2) hx hb (fun w h => hgw w (hw w h)) (fun w h => h) (gs_tyc k) hty hnm hown hK hR.1 (gs_D G _ _) hS k0 hk0 hq j hj (hgw _ hfl) (fun _ h => h) hfin (hty j hj) hn hfit hl hd (fun H1 locs1 hP1 hD1 hS1 => ?_)
    rw [hset] at hP1
    exact kk H1 locs1 hP1 hS1
  · refine va_putF (C := q.1) (T := q.2.1) (N := q.2.2) (ci := k) (Ts := u_ws q.1 q.2.1 q.2.2) hx hb (fun w h => hgw w (hw w h)) (fun w h => h) (gs_tyc k) hty hnm hown hK hR.1 (gs_D G _ _) hS k0 hk0 hq j hj (hgw _ hfl) (fun _ h => h) hfin hin hown2 (hty j hj) hn hfit hl hd (fun H1 locs1 hP1 hD1 hS1 => ?_)
    rw [hset] at hP1
    exact kk H1 locs1 hP1 hS1
theorem gs_arrP (G : gs_G) {m : gs_M} {H : Heap} {a k : Nat} (hk : gs_kind a = k) (ha : a < m.1.1) (hc : ¬ k < 12) : ∃ k0 : Nat, (gs_ws G m)[k0]? = some (G.1 + a, .inl (G.2.2.1 k, gs_len a, gs_rw G m a k)) ∧ (gs_ws G m)[k0]? = some (G.1 + a, gs_ce G m a) := by
  obtain ⟨k0, hk0⟩ := gs_at G m ha
  exact ⟨k0, by rw [hk0, gs_ce_arr hk hc], hk0⟩
theorem gs_iald (hC : gs_Cx p s m₀ args meth c G cc nL own u0) (hk : gs_kind a = 13) (ha : a < m.1.1) {i : Int32} (hi : vp_in i (gs_len a)) (hd : decode cc pc = .ok (.iaload, 1)) (hR : gs_Rep G m H)
    (kk : W p l e R s m₀ args below meth c H locs cells slots Q (F0 m₀ (pc + 1) ls (.int (m.2.1 a i.toNatClampNeg) :: rest))) : W p l e R s m₀ args below meth c H locs cells slots Q (F0 m₀ pc ls (.int i :: .ref (gs_ad G a) :: rest)) := by
  obtain ⟨hx, hb, -, -, -, hK, -, -⟩ := hC
  obtain ⟨k0, hk0, -⟩ := gs_arrP (H := H) G hk ha (by decide)
  rw [gs_ad_lt (Nat.lt_of_lt_of_le ha hR.2.1)]
  exact va_iald hx hb hK hR.1 k0 1 hk0 rfl hi hd kk
theorem gs_bald (hC : gs_Cx p s m₀ args meth c G cc nL own u0) (hk : gs_kind a = 12) (ha : a < m.1.1) {i : Int32} (hi : vp_in i (gs_len a)) (hd : decode cc pc = .ok (.baload, 1)) (hR : gs_Rep G m H)
    (kk : W p l e R s m₀ args below meth c H locs cells slots Q (F0 m₀ (pc + 1) ls (.int (m.2.1 a i.toNatClampNeg) :: rest))) : W p l e R s m₀ args below meth c H locs cells slots Q (F0 m₀ pc ls (.int i :: .ref (gs_ad G a) :: rest)) := by
  obtain ⟨hx, hb, -, -, -, hK, -, -⟩ := hC
  obtain ⟨k0, hk0, -⟩ := gs_arrP (H := H) G hk ha (by decide)
  rw [gs_ad_lt (Nat.lt_of_lt_of_le ha hR.2.1)]
  exact va_bald hx hb hK hR.1 k0 0 hk0 rfl hi hd kk
theorem gs_lald (hC : gs_Cx p s m₀ args meth c G cc nL own u0) (hk : gs_kind a = 14) (ha : a < m.1.1) {i : Int32} (hi : vp_in i (gs_len a)) (hd : decode cc pc = .ok (.laload, 1)) (hR : gs_Rep G m H)
    (kk : W p l e R s m₀ args below meth c H locs cells slots Q (F0 m₀ (pc + 1) ls (.long (m.2.2.1 a i.toNatClampNeg) :: rest))) : W p l e R s m₀ args below meth c H locs cells slots Q (F0 m₀ pc ls (.int i :: .ref (gs_ad G a) :: rest)) := by
  obtain ⟨hx, hb, -, -, -, hK, -, -⟩ := hC
  obtain ⟨k0, hk0, -⟩ := gs_arrP (H := H) G hk ha (by decide)
  rw [gs_ad_lt (Nat.lt_of_lt_of_le ha hR.2.1)]
  exact va_lald hx hb hK hR.1 k0 2 hk0 rfl hi hd kk
theorem gs_aald (hC : gs_Cx p s m₀ args meth c G cc nL own u0) (hk : gs_kind a = 15 ∨ gs_kind a = 16) (ha : a < m.1.1) {i : Int32} {b : Nat} (hi : vp_in i (gs_len a)) (hv : m.2.2.2 a i.toNatClampNeg = some b) (hd : decode cc pc = .ok (.aaload, 1)) (hR : gs_Rep G m H)
    (kk : W p l e R s m₀ args below meth c H locs cells slots Q (F0 m₀ (pc + 1) ls (.ref (gs_ad G b) :: rest))) : W p l e R s m₀ args below meth c H locs cells slots Q (F0 m₀ pc ls (.int i :: .ref (gs_ad G a) :: rest)) := by
  obtain ⟨hx, hb, -, -, -, hK, -, -⟩ := hC
  have hb153 := hR.2.2 _ _ _ hv
  rw [gs_ad_lt hb153] at kk
  rw [gs_ad_lt (Nat.lt_of_lt_of_le ha hR.2.1)]
  rcases hk with hk | hk
  · obtain ⟨k0, hk0, -⟩ := gs_arrP (H := H) G hk ha (by decide)
    refine va_aldq hx hb hK hR.1 k0 3 (f := fun i => (m.2.2.2 a i).map (G.1 + ·)) hk0 rfl hi hd ?_
    simp only [hv]
    exact kk
  · obtain ⟨k0, hk0, -⟩ := gs_arrP (H := H) G hk ha (by decide)
    refine va_aldq hx hb hK hR.1 k0 4 (f := fun i => (m.2.2.2 a i).map (G.1 + ·)) hk0 rfl hi hd ?_
    simp only [hv]
    exact kk
theorem gs_iast (hC : gs_Cx p s m₀ args meth c G cc nL own u0) (hk : gs_kind a = 13) (ha : a < m.1.1) {i x : Int32} (hi : vp_in i (gs_len a)) (hd : decode cc pc = .ok (.iastore, 1)) (hR : gs_Rep G m H) (hS : va_S (gs_A G) s.heap H locs)
    (kk : ∀ (H1 : Heap) (locs1 : List Loc), va_P G.2.1 vwCl (gs_ws G (gs_sI m a i.toNatClampNeg x)) H1 → va_S (gs_A G) s.heap H1 locs1 → W p l e R s m₀ args below meth c H1 locs1 cells slots Q (F0 m₀ (pc + 1) ls rest)) : W p l e R s m₀ args below meth c H locs cells slots Q (F0 m₀ pc ls (.int x :: .int i :: .ref (gs_ad G a) :: rest)) := by
  obtain ⟨hx, hb, -, -, -, hK, -, -⟩ := hC
  obtain ⟨k0, hk0, hk1⟩ := gs_arrP (H := H) G hk ha (by decide)
  rw [gs_ad_lt (Nat.lt_of_lt_of_le ha hR.2.1)]
  refine va_iast hx hb hK hR.1 (gs_D G _ _) hS k0 1 hk0 rfl hi hd (fun H1 locs1 hP1 hD1 hS1 => ?_)
  rw [gs_ws_set (m2 := gs_sI m a i.toNatClampNeg x) ha hk1 rfl ?_ (fun b h => gs_sI_ce h)] at hP1
  · exact kk H1 locs1 hP1 hS1
  · rw [gs_ce_arr hk (by decide)]
    show Sum.inl (G.2.2.1 13, gs_len a, Sum.inl (gs_up2 m.2.1 a i.toNatClampNeg x a)) = _
    rw [gs_up2_row]
    rfl
theorem gs_bast (hC : gs_Cx p s m₀ args meth c G cc nL own u0) (hk : gs_kind a = 12) (ha : a < m.1.1) {i x : Int32} (hi : vp_in i (gs_len a)) (hd : decode cc pc = .ok (.bastore, 1)) (hR : gs_Rep G m H) (hS : va_S (gs_A G) s.heap H locs)
    (kk : ∀ (H1 : Heap) (locs1 : List Loc), va_P G.2.1 vwCl (gs_ws G (gs_sI m a i.toNatClampNeg x.toInt8.toInt32)) H1 → va_S (gs_A G) s.heap H1 locs1 → W p l e R s m₀ args below meth c H1 locs1 cells slots Q (F0 m₀ (pc + 1) ls rest)) : W p l e R s m₀ args below meth c H locs cells slots Q (F0 m₀ pc ls (.int x :: .int i :: .ref (gs_ad G a) :: rest)) := by
  obtain ⟨hx, hb, -, -, -, hK, -, -⟩ := hC
  obtain ⟨k0, hk0, hk1⟩ := gs_arrP (H := H) G hk ha (by decide)
  rw [gs_ad_lt (Nat.lt_of_lt_of_le ha hR.2.1)]
  refine va_bast hx hb hK hR.1 (gs_D G _ _) hS k0 0 hk0 rfl hi hd (fun H1 locs1 hP1 hD1 hS1 => ?_)
  rw [gs_ws_set (m2 := gs_sI m a i.toNatClampNeg x.toInt8.toInt32) ha hk1 rfl ?_ (fun b h => gs_sI_ce h)] at hP1
  · exact kk H1 locs1 hP1 hS1
  · rw [gs_ce_arr hk (by decide), vp_nar_byte]
    show Sum.inl (G.2.2.1 12, gs_len a, Sum.inl (gs_up2 m.2.1 a i.toNatClampNeg x.toInt8.toInt32 a)) = _
    rw [gs_up2_row]
    rfl
theorem gs_last (hC : gs_Cx p s m₀ args meth c G cc nL own u0) (hk : gs_kind a = 14) (ha : a < m.1.1) {i : Int32} {x : Int64} (hi : vp_in i (gs_len a)) (hd : decode cc pc = .ok (.lastore, 1)) (hR : gs_Rep G m H) (hS : va_S (gs_A G) s.heap H locs)
    (kk : ∀ (H1 : Heap) (locs1 : List Loc), va_P G.2.1 vwCl (gs_ws G (gs_sJ m a i.toNatClampNeg x)) H1 → va_S (gs_A G) s.heap H1 locs1 → W p l e R s m₀ args below meth c H1 locs1 cells slots Q (F0 m₀ (pc + 1) ls rest)) : W p l e R s m₀ args below meth c H locs cells slots Q (F0 m₀ pc ls (.long x :: .int i :: .ref (gs_ad G a) :: rest)) := by
  obtain ⟨hx, hb, -, -, -, hK, -, -⟩ := hC
  obtain ⟨k0, hk0, hk1⟩ := gs_arrP (H := H) G hk ha (by decide)
  rw [gs_ad_lt (Nat.lt_of_lt_of_le ha hR.2.1)]
  refine va_last hx hb hK hR.1 (gs_D G _ _) hS k0 2 hk0 rfl hi hd (fun H1 locs1 hP1 hD1 hS1 => ?_)
  rw [gs_ws_set (m2 := gs_sJ m a i.toNatClampNeg x) ha hk1 rfl ?_ (fun b h => gs_sJ_ce h)] at hP1
  · exact kk H1 locs1 hP1 hS1
  · rw [gs_ce_arr hk (by decide)]
    show Sum.inl (G.2.2.1 14, gs_len a, Sum.inr (Sum.inl (gs_up2 m.2.2.1 a i.toNatClampNeg x a))) = _
    rw [gs_up2_row]
    rfl
end GSF
end
