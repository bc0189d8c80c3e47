-- ===== PART A: goes FIRST, ahead of the names: the tables' words, and 'selects' of the private methods out of them =====
/-- a private method of a class that the tables say can be made, by its rows of tables_1 -/
def lw_okq (q : MethodName × Nat) : Prop := (q.1.cls ≠ "java/lang/invoke/MethodHandle" ∧ q.1.cls ≠ "java/lang/invoke/VarHandle") ∧ Cond.instantiable q.1.cls q.2 ∈ tables_1 ∧ Cond.privateMethod q.1 ∈ tables_1 ∧ Cond.instanceMethod q.1 ∈ tables_1
theorem lw_p0 : lw_okq (⟨"NoonRinger", "beginAnew", "()V"⟩, 17) := ⟨⟨by decide +kernel, by decide +kernel⟩, List.mem_of_getElem? (i := 22) (by decide +kernel), List.mem_of_getElem? (i := 350) (by decide +kernel), List.mem_of_getElem? (i := 351) (by decide +kernel)⟩
theorem lw_p1 : lw_okq (⟨"NoonRinger$Ways", "shorten", "(III)V"⟩, 3) := ⟨⟨by decide +kernel, by decide +kernel⟩, List.mem_of_getElem? (i := 234) (by decide +kernel), List.mem_of_getElem? (i := 414) (by decide +kernel), List.mem_of_getElem? (i := 415) (by decide +kernel)⟩
theorem lw_p2 : lw_okq (⟨"NoonRinger$Tokens", "begin", "(II)V"⟩, 6) := ⟨⟨by decide +kernel, by decide +kernel⟩, List.mem_of_getElem? (i := 123) (by decide +kernel), List.mem_of_getElem? (i := 590) (by decide +kernel), List.mem_of_getElem? (i := 591) (by decide +kernel)⟩
theorem lw_p3 : lw_okq (⟨"NoonRinger$Tokens", "grow", "(III)V"⟩, 6) := ⟨⟨by decide +kernel, by decide +kernel⟩, List.mem_of_getElem? (i := 123) (by decide +kernel), List.mem_of_getElem? (i := 595) (by decide +kernel), List.mem_of_getElem? (i := 596) (by decide +kernel)⟩
theorem lw_p4 : lw_okq (⟨"NoonRinger$Tokens", "kindOfWord", "(J)I"⟩, 6) := ⟨⟨by decide +kernel, by decide +kernel⟩, List.mem_of_getElem? (i := 123) (by decide +kernel), List.mem_of_getElem? (i := 616) (by decide +kernel), List.mem_of_getElem? (i := 617) (by decide +kernel)⟩
theorem lw_p5 : lw_okq (⟨"NoonRinger$Reader", "readTown", "()V"⟩, 9) := ⟨⟨by decide +kernel, by decide +kernel⟩, List.mem_of_getElem? (i := 117) (by decide +kernel), List.mem_of_getElem? (i := 622) (by decide +kernel), List.mem_of_getElem? (i := 623) (by decide +kernel)⟩
theorem lw_p6 : lw_okq (⟨"NoonRinger$Reader", "takeOneMore", "(III)V"⟩, 9) := ⟨⟨by decide +kernel, by decide +kernel⟩, List.mem_of_getElem? (i := 117) (by decide +kernel), List.mem_of_getElem? (i := 627) (by decide +kernel), List.mem_of_getElem? (i := 628) (by decide +kernel)⟩
theorem lw_p7 : lw_okq (⟨"NoonRinger$Reader", "stop", "(I)V"⟩, 9) := ⟨⟨by decide +kernel, by decide +kernel⟩, List.mem_of_getElem? (i := 117) (by decide +kernel), List.mem_of_getElem? (i := 631) (by decide +kernel), List.mem_of_getElem? (i := 632) (by decide +kernel)⟩
theorem lw_p8 : lw_okq (⟨"NoonRinger$Reader", "take", "(I)V"⟩, 9) := ⟨⟨by decide +kernel, by decide +kernel⟩, List.mem_of_getElem? (i := 117) (by decide +kernel), List.mem_of_getElem? (i := 635) (by decide +kernel), List.mem_of_getElem? (i := 636) (by decide +kernel)⟩
theorem lw_p9 : lw_okq (⟨"NoonRinger$Reader", "takeNewName", "()J"⟩, 9) := ⟨⟨by decide +kernel, by decide +kernel⟩, List.mem_of_getElem? (i := 117) (by decide +kernel), List.mem_of_getElem? (i := 639) (by decide +kernel), List.mem_of_getElem? (i := 640) (by decide +kernel)⟩
theorem lw_p10 : lw_okq (⟨"NoonRinger$Reader", "note", "(II)V"⟩, 9) := ⟨⟨by decide +kernel, by decide +kernel⟩, List.mem_of_getElem? (i := 117) (by decide +kernel), List.mem_of_getElem? (i := 653) (by decide +kernel), List.mem_of_getElem? (i := 654) (by decide +kernel)⟩
theorem lw_p11 : lw_okq (⟨"NoonRinger$Reader", "readRoad", "()V"⟩, 9) := ⟨⟨by decide +kernel, by decide +kernel⟩, List.mem_of_getElem? (i := 117) (by decide +kernel), List.mem_of_getElem? (i := 662) (by decide +kernel), List.mem_of_getElem? (i := 663) (by decide +kernel)⟩
theorem lw_p12 : lw_okq (⟨"NoonRinger$Reader", "takeTown", "()I"⟩, 9) := ⟨⟨by decide +kernel, by decide +kernel⟩, List.mem_of_getElem? (i := 117) (by decide +kernel), List.mem_of_getElem? (i := 667) (by decide +kernel), List.mem_of_getElem? (i := 668) (by decide +kernel)⟩
theorem lw_p13 : lw_okq (⟨"NoonRinger$Reader", "takeNumber", "(II)I"⟩, 9) := ⟨⟨by decide +kernel, by decide +kernel⟩, List.mem_of_getElem? (i := 117) (by decide +kernel), List.mem_of_getElem? (i := 672) (by decide +kernel), List.mem_of_getElem? (i := 673) (by decide +kernel)⟩
theorem lw_p14 : lw_okq (⟨"NoonRinger$Reader", "readPerson", "()V"⟩, 9) := ⟨⟨by decide +kernel, by decide +kernel⟩, List.mem_of_getElem? (i := 117) (by decide +kernel), List.mem_of_getElem? (i := 681) (by decide +kernel), List.mem_of_getElem? (i := 682) (by decide +kernel)⟩
theorem lw_p15 : lw_okq (⟨"NoonRinger$Reader", "readCapital", "()V"⟩, 9) := ⟨⟨by decide +kernel, by decide +kernel⟩, List.mem_of_getElem? (i := 117) (by decide +kernel), List.mem_of_getElem? (i := 690) (by decide +kernel), List.mem_of_getElem? (i := 691) (by decide +kernel)⟩
def lw_privs_1 : List (MethodName × Nat) := [(⟨"NoonRinger", "beginAnew", "()V"⟩, 17), (⟨"NoonRinger$Ways", "shorten", "(III)V"⟩, 3), (⟨"NoonRinger$Tokens", "begin", "(II)V"⟩, 6), (⟨"NoonRinger$Tokens", "grow", "(III)V"⟩, 6), (⟨"NoonRinger$Tokens", "kindOfWord", "(J)I"⟩, 6), (⟨"NoonRinger$Reader", "readTown", "()V"⟩, 9), (⟨"NoonRinger$Reader", "takeOneMore", "(III)V"⟩, 9), (⟨"NoonRinger$Reader", "stop", "(I)V"⟩, 9), (⟨"NoonRinger$Reader", "take", "(I)V"⟩, 9), (⟨"NoonRinger$Reader", "takeNewName", "()J"⟩, 9), (⟨"NoonRinger$Reader", "note", "(II)V"⟩, 9), (⟨"NoonRinger$Reader", "readRoad", "()V"⟩, 9), (⟨"NoonRinger$Reader", "takeTown", "()I"⟩, 9), (⟨"NoonRinger$Reader", "takeNumber", "(II)I"⟩, 9), (⟨"NoonRinger$Reader", "readPerson", "()V"⟩, 9), (⟨"NoonRinger$Reader", "readCapital", "()V"⟩, 9)]
theorem lw_r1 : ∀ q ∈ lw_privs_1, lw_okq q := List.forall_mem_cons.mpr ⟨lw_p0, List.forall_mem_cons.mpr ⟨lw_p1, List.forall_mem_cons.mpr ⟨lw_p2, List.forall_mem_cons.mpr ⟨lw_p3, List.forall_mem_cons.mpr ⟨lw_p4, List.forall_mem_cons.mpr ⟨lw_p5, List.forall_mem_cons.mpr ⟨lw_p6, List.forall_mem_cons.mpr ⟨lw_p7, List.forall_mem_cons.mpr ⟨lw_p8, List.forall_mem_cons.mpr ⟨lw_p9, List.forall_mem_cons.mpr ⟨lw_p10, List.forall_mem_cons.mpr ⟨lw_p11, List.forall_mem_cons.mpr ⟨lw_p12, List.forall_mem_cons.mpr ⟨lw_p13, List.forall_mem_cons.mpr ⟨lw_p14, List.forall_mem_cons.mpr ⟨lw_p15, fun _ h => absurd h List.not_mem_nil⟩⟩⟩⟩⟩⟩⟩⟩⟩⟩⟩⟩⟩⟩⟩⟩
theorem lw_p16 : lw_okq (⟨"NoonRinger$Reader", "readSeed", "()V"⟩, 9) := ⟨⟨by decide +kernel, by decide +kernel⟩, List.mem_of_getElem? (i := 117) (by decide +kernel), List.mem_of_getElem? (i := 698) (by decide +kernel), List.mem_of_getElem? (i := 699) (by decide +kernel)⟩
theorem lw_p17 : lw_okq (⟨"NoonRinger$Reader", "readLaw", "(I)V"⟩, 9) := ⟨⟨by decide +kernel, by decide +kernel⟩, List.mem_of_getElem? (i := 117) (by decide +kernel), List.mem_of_getElem? (i := 706) (by decide +kernel), List.mem_of_getElem? (i := 707) (by decide +kernel)⟩
theorem lw_p18 : lw_okq (⟨"NoonRinger$Reader", "readIf", "()V"⟩, 9) := ⟨⟨by decide +kernel, by decide +kernel⟩, List.mem_of_getElem? (i := 117) (by decide +kernel), List.mem_of_getElem? (i := 715) (by decide +kernel), List.mem_of_getElem? (i := 716) (by decide +kernel)⟩
theorem lw_p19 : lw_okq (⟨"NoonRinger$Reader", "readSum", "()V"⟩, 9) := ⟨⟨by decide +kernel, by decide +kernel⟩, List.mem_of_getElem? (i := 117) (by decide +kernel), List.mem_of_getElem? (i := 719) (by decide +kernel), List.mem_of_getElem? (i := 720) (by decide +kernel)⟩
theorem lw_p20 : lw_okq (⟨"NoonRinger$Reader", "putAside", "(I)V"⟩, 9) := ⟨⟨by decide +kernel, by decide +kernel⟩, List.mem_of_getElem? (i := 117) (by decide +kernel), List.mem_of_getElem? (i := 723) (by decide +kernel), List.mem_of_getElem? (i := 724) (by decide +kernel)⟩
theorem lw_p21 : lw_okq (⟨"NoonRinger$Reader", "readUnit", "(I)V"⟩, 9) := ⟨⟨by decide +kernel, by decide +kernel⟩, List.mem_of_getElem? (i := 117) (by decide +kernel), List.mem_of_getElem? (i := 728) (by decide +kernel), List.mem_of_getElem? (i := 729) (by decide +kernel)⟩
theorem lw_p22 : lw_okq (⟨"NoonRinger$Reader", "addWaiting", "(I)V"⟩, 9) := ⟨⟨by decide +kernel, by decide +kernel⟩, List.mem_of_getElem? (i := 117) (by decide +kernel), List.mem_of_getElem? (i := 736) (by decide +kernel), List.mem_of_getElem? (i := 737) (by decide +kernel)⟩
theorem lw_p23 : lw_okq (⟨"NoonRinger", "remember", "()V"⟩, 17) := ⟨⟨by decide +kernel, by decide +kernel⟩, List.mem_of_getElem? (i := 22) (by decide +kernel), List.mem_of_getElem? (i := 890) (by decide +kernel), List.mem_of_getElem? (i := 891) (by decide +kernel)⟩
theorem lw_p24 : lw_okq (⟨"NoonRinger$Judge", "mayRing", "(LNoonRinger$State;I)Z"⟩, 3) := ⟨⟨by decide +kernel, by decide +kernel⟩, List.mem_of_getElem? (i := 266) (by decide +kernel), List.mem_of_getElem? (i := 931) (by decide +kernel), List.mem_of_getElem? (i := 932) (by decide +kernel)⟩
theorem lw_p25 : lw_okq (⟨"NoonRinger$Judge", "isFoundOut", "(LNoonRinger$State;II)Z"⟩, 3) := ⟨⟨by decide +kernel, by decide +kernel⟩, List.mem_of_getElem? (i := 266) (by decide +kernel), List.mem_of_getElem? (i := 937) (by decide +kernel), List.mem_of_getElem? (i := 938) (by decide +kernel)⟩
theorem lw_p26 : lw_okq (⟨"NoonRinger$Judge", "strike", "(LNoonRinger$State;I)V"⟩, 3) := ⟨⟨by decide +kernel, by decide +kernel⟩, List.mem_of_getElem? (i := 266) (by decide +kernel), List.mem_of_getElem? (i := 955) (by decide +kernel), List.mem_of_getElem? (i := 956) (by decide +kernel)⟩
theorem lw_p27 : lw_okq (⟨"NoonRinger$Judge", "walk", "(LNoonRinger$State;I)V"⟩, 3) := ⟨⟨by decide +kernel, by decide +kernel⟩, List.mem_of_getElem? (i := 266) (by decide +kernel), List.mem_of_getElem? (i := 961) (by decide +kernel), List.mem_of_getElem? (i := 962) (by decide +kernel)⟩
theorem lw_p28 : lw_okq (⟨"NoonRinger$Survey", "goOnFrom", "(II)V"⟩, 3) := ⟨⟨by decide +kernel, by decide +kernel⟩, List.mem_of_getElem? (i := 250) (by decide +kernel), List.mem_of_getElem? (i := 1002) (by decide +kernel), List.mem_of_getElem? (i := 1003) (by decide +kernel)⟩
theorem lw_p29 : lw_okq (⟨"NoonRinger", "ringerWithout", "(I)I"⟩, 17) := ⟨⟨by decide +kernel, by decide +kernel⟩, List.mem_of_getElem? (i := 22) (by decide +kernel), List.mem_of_getElem? (i := 1026) (by decide +kernel), List.mem_of_getElem? (i := 1027) (by decide +kernel)⟩
theorem lw_p30 : lw_okq (⟨"NoonRinger", "firstNoonOf", "(I)I"⟩, 17) := ⟨⟨by decide +kernel, by decide +kernel⟩, List.mem_of_getElem? (i := 22) (by decide +kernel), List.mem_of_getElem? (i := 1043) (by decide +kernel), List.mem_of_getElem? (i := 1044) (by decide +kernel)⟩
theorem lw_p31 : lw_okq (⟨"NoonRinger", "goOnTrusting", "(I)V"⟩, 17) := ⟨⟨by decide +kernel, by decide +kernel⟩, List.mem_of_getElem? (i := 22) (by decide +kernel), List.mem_of_getElem? (i := 1055) (by decide +kernel), List.mem_of_getElem? (i := 1056) (by decide +kernel)⟩
def lw_privs_2 : List (MethodName × Nat) := [(⟨"NoonRinger$Reader", "readSeed", "()V"⟩, 9), (⟨"NoonRinger$Reader", "readLaw", "(I)V"⟩, 9), (⟨"NoonRinger$Reader", "readIf", "()V"⟩, 9), (⟨"NoonRinger$Reader", "readSum", "()V"⟩, 9), (⟨"NoonRinger$Reader", "putAside", "(I)V"⟩, 9), (⟨"NoonRinger$Reader", "readUnit", "(I)V"⟩, 9), (⟨"NoonRinger$Reader", "addWaiting", "(I)V"⟩, 9), (⟨"NoonRinger", "remember", "()V"⟩, 17), (⟨"NoonRinger$Judge", "mayRing", "(LNoonRinger$State;I)Z"⟩, 3), (⟨"NoonRinger$Judge", "isFoundOut", "(LNoonRinger$State;II)Z"⟩, 3), (⟨"NoonRinger$Judge", "strike", "(LNoonRinger$State;I)V"⟩, 3), (⟨"NoonRinger$Judge", "walk", "(LNoonRinger$State;I)V"⟩, 3), (⟨"NoonRinger$Survey", "goOnFrom", "(II)V"⟩, 3), (⟨"NoonRinger", "ringerWithout", "(I)I"⟩, 17), (⟨"NoonRinger", "firstNoonOf", "(I)I"⟩, 17), (⟨"NoonRinger", "goOnTrusting", "(I)V"⟩, 17)]
theorem lw_r2 : ∀ q ∈ lw_privs_2, lw_okq q := List.forall_mem_cons.mpr ⟨lw_p16, List.forall_mem_cons.mpr ⟨lw_p17, List.forall_mem_cons.mpr ⟨lw_p18, List.forall_mem_cons.mpr ⟨lw_p19, List.forall_mem_cons.mpr ⟨lw_p20, List.forall_mem_cons.mpr ⟨lw_p21, List.forall_mem_cons.mpr ⟨lw_p22, List.forall_mem_cons.mpr ⟨lw_p23, List.forall_mem_cons.mpr ⟨lw_p24, List.forall_mem_cons.mpr ⟨lw_p25, List.forall_mem_cons.mpr ⟨lw_p26, List.forall_mem_cons.mpr ⟨lw_p27, List.forall_mem_cons.mpr ⟨lw_p28, List.forall_mem_cons.mpr ⟨lw_p29, List.forall_mem_cons.mpr ⟨lw_p30, List.forall_mem_cons.mpr ⟨lw_p31, fun _ h => absurd h List.not_mem_nil⟩⟩⟩⟩⟩⟩⟩⟩⟩⟩⟩⟩⟩⟩⟩⟩
theorem lw_p32 : lw_okq (⟨"NoonRinger$Survey", "seesAllRoads", "(I)Z"⟩, 3) := ⟨⟨by decide +kernel, by decide +kernel⟩, List.mem_of_getElem? (i := 250) (by decide +kernel), List.mem_of_getElem? (i := 1085) (by decide +kernel), List.mem_of_getElem? (i := 1086) (by decide +kernel)⟩
theorem lw_p33 : lw_okq (⟨"NoonRinger$Survey", "shortestOutOf", "(I)I"⟩, 3) := ⟨⟨by decide +kernel, by decide +kernel⟩, List.mem_of_getElem? (i := 250) (by decide +kernel), List.mem_of_getElem? (i := 1129) (by decide +kernel), List.mem_of_getElem? (i := 1130) (by decide +kernel)⟩
theorem lw_p34 : lw_okq (⟨"NoonRinger", "goOnDoubting", "(II)V"⟩, 17) := ⟨⟨by decide +kernel, by decide +kernel⟩, List.mem_of_getElem? (i := 22) (by decide +kernel), List.mem_of_getElem? (i := 1146) (by decide +kernel), List.mem_of_getElem? (i := 1147) (by decide +kernel)⟩
theorem lw_p35 : lw_okq (⟨"NoonRinger", "isKnown", "(I)Z"⟩, 17) := ⟨⟨by decide +kernel, by decide +kernel⟩, List.mem_of_getElem? (i := 22) (by decide +kernel), List.mem_of_getElem? (i := 1183) (by decide +kernel), List.mem_of_getElem? (i := 1184) (by decide +kernel)⟩
theorem lw_p36 : lw_okq (⟨"NoonRinger$Hearsay", "agrees", "(II)Z"⟩, 6) := ⟨⟨by decide +kernel, by decide +kernel⟩, List.mem_of_getElem? (i := 305) (by decide +kernel), List.mem_of_getElem? (i := 1193) (by decide +kernel), List.mem_of_getElem? (i := 1194) (by decide +kernel)⟩
theorem lw_p37 : lw_okq (⟨"NoonRinger$Hearsay", "homesStriking", "(II)I"⟩, 6) := ⟨⟨by decide +kernel, by decide +kernel⟩, List.mem_of_getElem? (i := 305) (by decide +kernel), List.mem_of_getElem? (i := 1208) (by decide +kernel), List.mem_of_getElem? (i := 1209) (by decide +kernel)⟩
theorem lw_p38 : lw_okq (⟨"NoonRingerModel", "plain", "(I)V"⟩, 64) := ⟨⟨by decide +kernel, by decide +kernel⟩, List.mem_of_getElem? (i := 1242) (by decide +kernel), List.mem_of_getElem? (i := 1248) (by decide +kernel), List.mem_of_getElem? (i := 1249) (by decide +kernel)⟩
theorem lw_p39 : lw_okq (⟨"NoonRingerModel", "begins", "()V"⟩, 64) := ⟨⟨by decide +kernel, by decide +kernel⟩, List.mem_of_getElem? (i := 1242) (by decide +kernel), List.mem_of_getElem? (i := 1259) (by decide +kernel), List.mem_of_getElem? (i := 1260) (by decide +kernel)⟩
theorem lw_p40 : lw_okq (⟨"NoonRingerModel", "keepsRow", "()V"⟩, 64) := ⟨⟨by decide +kernel, by decide +kernel⟩, List.mem_of_getElem? (i := 1242) (by decide +kernel), List.mem_of_getElem? (i := 1263) (by decide +kernel), List.mem_of_getElem? (i := 1264) (by decide +kernel)⟩
theorem lw_p41 : lw_okq (⟨"NoonRingerModel", "lays", "(I)V"⟩, 64) := ⟨⟨by decide +kernel, by decide +kernel⟩, List.mem_of_getElem? (i := 1242) (by decide +kernel), List.mem_of_getElem? (i := 1463) (by decide +kernel), List.mem_of_getElem? (i := 1464) (by decide +kernel)⟩
theorem lw_p42 : lw_okq (⟨"NoonRingerModel", "cut", "()V"⟩, 64) := ⟨⟨by decide +kernel, by decide +kernel⟩, List.mem_of_getElem? (i := 1242) (by decide +kernel), List.mem_of_getElem? (i := 1475) (by decide +kernel), List.mem_of_getElem? (i := 1476) (by decide +kernel)⟩
theorem lw_p43 : lw_okq (⟨"NoonRingerModel", "byteAt", "(I)I"⟩, 64) := ⟨⟨by decide +kernel, by decide +kernel⟩, List.mem_of_getElem? (i := 1242) (by decide +kernel), List.mem_of_getElem? (i := 1479) (by decide +kernel), List.mem_of_getElem? (i := 1480) (by decide +kernel)⟩
theorem lw_p44 : lw_okq (⟨"NoonRingerModel", "token", "(IIIJ)V"⟩, 64) := ⟨⟨by decide +kernel, by decide +kernel⟩, List.mem_of_getElem? (i := 1242) (by decide +kernel), List.mem_of_getElem? (i := 1483) (by decide +kernel), List.mem_of_getElem? (i := 1484) (by decide +kernel)⟩
theorem lw_p45 : lw_okq (⟨"NoonRingerModel", "sign", "(III)I"⟩, 64) := ⟨⟨by decide +kernel, by decide +kernel⟩, List.mem_of_getElem? (i := 1242) (by decide +kernel), List.mem_of_getElem? (i := 1493) (by decide +kernel), List.mem_of_getElem? (i := 1494) (by decide +kernel)⟩
theorem lw_p46 : lw_okq (⟨"NoonRingerModel", "is", "(I)Z"⟩, 64) := ⟨⟨by decide +kernel, by decide +kernel⟩, List.mem_of_getElem? (i := 1242) (by decide +kernel), List.mem_of_getElem? (i := 1497) (by decide +kernel), List.mem_of_getElem? (i := 1498) (by decide +kernel)⟩
theorem lw_p47 : lw_okq (⟨"NoonRingerModel", "tellOne", "()V"⟩, 64) := ⟨⟨by decide +kernel, by decide +kernel⟩, List.mem_of_getElem? (i := 1242) (by decide +kernel), List.mem_of_getElem? (i := 1501) (by decide +kernel), List.mem_of_getElem? (i := 1502) (by decide +kernel)⟩
def lw_privs_3 : List (MethodName × Nat) := [(⟨"NoonRinger$Survey", "seesAllRoads", "(I)Z"⟩, 3), (⟨"NoonRinger$Survey", "shortestOutOf", "(I)I"⟩, 3), (⟨"NoonRinger", "goOnDoubting", "(II)V"⟩, 17), (⟨"NoonRinger", "isKnown", "(I)Z"⟩, 17), (⟨"NoonRinger$Hearsay", "agrees", "(II)Z"⟩, 6), (⟨"NoonRinger$Hearsay", "homesStriking", "(II)I"⟩, 6), (⟨"NoonRingerModel", "plain", "(I)V"⟩, 64), (⟨"NoonRingerModel", "begins", "()V"⟩, 64), (⟨"NoonRingerModel", "keepsRow", "()V"⟩, 64), (⟨"NoonRingerModel", "lays", "(I)V"⟩, 64), (⟨"NoonRingerModel", "cut", "()V"⟩, 64), (⟨"NoonRingerModel", "byteAt", "(I)I"⟩, 64), (⟨"NoonRingerModel", "token", "(IIIJ)V"⟩, 64), (⟨"NoonRingerModel", "sign", "(III)I"⟩, 64), (⟨"NoonRingerModel", "is", "(I)Z"⟩, 64), (⟨"NoonRingerModel", "tellOne", "()V"⟩, 64)]
theorem lw_r3 : ∀ q ∈ lw_privs_3, lw_okq q := List.forall_mem_cons.mpr ⟨lw_p32, List.forall_mem_cons.mpr ⟨lw_p33, List.forall_mem_cons.mpr ⟨lw_p34, List.forall_mem_cons.mpr ⟨lw_p35, List.forall_mem_cons.mpr ⟨lw_p36, List.forall_mem_cons.mpr ⟨lw_p37, List.forall_mem_cons.mpr ⟨lw_p38, List.forall_mem_cons.mpr ⟨lw_p39, List.forall_mem_cons.mpr ⟨lw_p40, List.forall_mem_cons.mpr ⟨lw_p41, List.forall_mem_cons.mpr ⟨lw_p42, List.forall_mem_cons.mpr ⟨lw_p43, List.forall_mem_cons.mpr ⟨lw_p44, List.forall_mem_cons.mpr ⟨lw_p45, List.forall_mem_cons.mpr ⟨lw_p46, List.forall_mem_cons.mpr ⟨lw_p47, fun _ h => absurd h List.not_mem_nil⟩⟩⟩⟩⟩⟩⟩⟩⟩⟩⟩⟩⟩⟩⟩⟩
theorem lw_p48 : lw_okq (⟨"NoonRingerModel", "roomFor", "(II)V"⟩, 64) := ⟨⟨by decide +kernel, by decide +kernel⟩, List.mem_of_getElem? (i := 1242) (by decide +kernel), List.mem_of_getElem? (i := 1505) (by decide +kernel), List.mem_of_getElem? (i := 1506) (by decide +kernel)⟩
theorem lw_p49 : lw_okq (⟨"NoonRingerModel", "fail", "(I)V"⟩, 64) := ⟨⟨by decide +kernel, by decide +kernel⟩, List.mem_of_getElem? (i := 1242) (by decide +kernel), List.mem_of_getElem? (i := 1509) (by decide +kernel), List.mem_of_getElem? (i := 1510) (by decide +kernel)⟩
theorem lw_p50 : lw_okq (⟨"NoonRingerModel", "goesOn", "()V"⟩, 64) := ⟨⟨by decide +kernel, by decide +kernel⟩, List.mem_of_getElem? (i := 1242) (by decide +kernel), List.mem_of_getElem? (i := 1513) (by decide +kernel), List.mem_of_getElem? (i := 1514) (by decide +kernel)⟩
theorem lw_p51 : lw_okq (⟨"NoonRingerModel", "named", "()I"⟩, 64) := ⟨⟨by decide +kernel, by decide +kernel⟩, List.mem_of_getElem? (i := 1242) (by decide +kernel), List.mem_of_getElem? (i := 1517) (by decide +kernel), List.mem_of_getElem? (i := 1518) (by decide +kernel)⟩
theorem lw_p52 : lw_okq (⟨"NoonRingerModel", "must", "(I)V"⟩, 64) := ⟨⟨by decide +kernel, by decide +kernel⟩, List.mem_of_getElem? (i := 1242) (by decide +kernel), List.mem_of_getElem? (i := 1521) (by decide +kernel), List.mem_of_getElem? (i := 1522) (by decide +kernel)⟩
theorem lw_p53 : lw_okq (⟨"NoonRingerModel", "wrong", "(II)V"⟩, 64) := ⟨⟨by decide +kernel, by decide +kernel⟩, List.mem_of_getElem? (i := 1242) (by decide +kernel), List.mem_of_getElem? (i := 1525) (by decide +kernel), List.mem_of_getElem? (i := 1526) (by decide +kernel)⟩
theorem lw_p54 : lw_okq (⟨"NoonRingerModel", "endsName", "(II)V"⟩, 64) := ⟨⟨by decide +kernel, by decide +kernel⟩, List.mem_of_getElem? (i := 1242) (by decide +kernel), List.mem_of_getElem? (i := 1529) (by decide +kernel), List.mem_of_getElem? (i := 1530) (by decide +kernel)⟩
theorem lw_p55 : lw_okq (⟨"NoonRingerModel", "tellRoad", "()V"⟩, 64) := ⟨⟨by decide +kernel, by decide +kernel⟩, List.mem_of_getElem? (i := 1242) (by decide +kernel), List.mem_of_getElem? (i := 1533) (by decide +kernel), List.mem_of_getElem? (i := 1534) (by decide +kernel)⟩
theorem lw_p56 : lw_okq (⟨"NoonRingerModel", "known", "()I"⟩, 64) := ⟨⟨by decide +kernel, by decide +kernel⟩, List.mem_of_getElem? (i := 1242) (by decide +kernel), List.mem_of_getElem? (i := 1537) (by decide +kernel), List.mem_of_getElem? (i := 1538) (by decide +kernel)⟩
theorem lw_p57 : lw_okq (⟨"NoonRingerModel", "bounded", "(II)I"⟩, 64) := ⟨⟨by decide +kernel, by decide +kernel⟩, List.mem_of_getElem? (i := 1242) (by decide +kernel), List.mem_of_getElem? (i := 1541) (by decide +kernel), List.mem_of_getElem? (i := 1542) (by decide +kernel)⟩
theorem lw_p58 : lw_okq (⟨"NoonRingerModel", "tellPerson", "()V"⟩, 64) := ⟨⟨by decide +kernel, by decide +kernel⟩, List.mem_of_getElem? (i := 1242) (by decide +kernel), List.mem_of_getElem? (i := 1545) (by decide +kernel), List.mem_of_getElem? (i := 1546) (by decide +kernel)⟩
theorem lw_p59 : lw_okq (⟨"NoonRingerModel", "tellLaw", "(I)V"⟩, 64) := ⟨⟨by decide +kernel, by decide +kernel⟩, List.mem_of_getElem? (i := 1242) (by decide +kernel), List.mem_of_getElem? (i := 1549) (by decide +kernel), List.mem_of_getElem? (i := 1550) (by decide +kernel)⟩
theorem lw_p60 : lw_okq (⟨"NoonRingerModel", "expression", "()V"⟩, 64) := ⟨⟨by decide +kernel, by decide +kernel⟩, List.mem_of_getElem? (i := 1242) (by decide +kernel), List.mem_of_getElem? (i := 1553) (by decide +kernel), List.mem_of_getElem? (i := 1554) (by decide +kernel)⟩
theorem lw_p61 : lw_okq (⟨"NoonRingerModel", "unit", "()V"⟩, 64) := ⟨⟨by decide +kernel, by decide +kernel⟩, List.mem_of_getElem? (i := 1242) (by decide +kernel), List.mem_of_getElem? (i := 1557) (by decide +kernel), List.mem_of_getElem? (i := 1558) (by decide +kernel)⟩
theorem lw_p62 : lw_okq (⟨"NoonRingerModel", "emit", "(II)V"⟩, 64) := ⟨⟨by decide +kernel, by decide +kernel⟩, List.mem_of_getElem? (i := 1242) (by decide +kernel), List.mem_of_getElem? (i := 1561) (by decide +kernel), List.mem_of_getElem? (i := 1562) (by decide +kernel)⟩
theorem lw_p63 : lw_okq (⟨"NoonRingerModel", "comesOut", "(Z)V"⟩, 64) := ⟨⟨by decide +kernel, by decide +kernel⟩, List.mem_of_getElem? (i := 1242) (by decide +kernel), List.mem_of_getElem? (i := 1565) (by decide +kernel), List.mem_of_getElem? (i := 1566) (by decide +kernel)⟩
def lw_privs_4 : List (MethodName × Nat) := [(⟨"NoonRingerModel", "roomFor", "(II)V"⟩, 64), (⟨"NoonRingerModel", "fail", "(I)V"⟩, 64), (⟨"NoonRingerModel", "goesOn", "()V"⟩, 64), (⟨"NoonRingerModel", "named", "()I"⟩, 64), (⟨"NoonRingerModel", "must", "(I)V"⟩, 64), (⟨"NoonRingerModel", "wrong", "(II)V"⟩, 64), (⟨"NoonRingerModel", "endsName", "(II)V"⟩, 64), (⟨"NoonRingerModel", "tellRoad", "()V"⟩, 64), (⟨"NoonRingerModel", "known", "()I"⟩, 64), (⟨"NoonRingerModel", "bounded", "(II)I"⟩, 64), (⟨"NoonRingerModel", "tellPerson", "()V"⟩, 64), (⟨"NoonRingerModel", "tellLaw", "(I)V"⟩, 64), (⟨"NoonRingerModel", "expression", "()V"⟩, 64), (⟨"NoonRingerModel", "unit", "()V"⟩, 64), (⟨"NoonRingerModel", "emit", "(II)V"⟩, 64), (⟨"NoonRingerModel", "comesOut", "(Z)V"⟩, 64)]
theorem lw_r4 : ∀ q ∈ lw_privs_4, lw_okq q := List.forall_mem_cons.mpr ⟨lw_p48, List.forall_mem_cons.mpr ⟨lw_p49, List.forall_mem_cons.mpr ⟨lw_p50, List.forall_mem_cons.mpr ⟨lw_p51, List.forall_mem_cons.mpr ⟨lw_p52, List.forall_mem_cons.mpr ⟨lw_p53, List.forall_mem_cons.mpr ⟨lw_p54, List.forall_mem_cons.mpr ⟨lw_p55, List.forall_mem_cons.mpr ⟨lw_p56, List.forall_mem_cons.mpr ⟨lw_p57, List.forall_mem_cons.mpr ⟨lw_p58, List.forall_mem_cons.mpr ⟨lw_p59, List.forall_mem_cons.mpr ⟨lw_p60, List.forall_mem_cons.mpr ⟨lw_p61, List.forall_mem_cons.mpr ⟨lw_p62, List.forall_mem_cons.mpr ⟨lw_p63, fun _ h => absurd h List.not_mem_nil⟩⟩⟩⟩⟩⟩⟩⟩⟩⟩⟩⟩⟩⟩⟩⟩
theorem lw_p64 : lw_okq (⟨"NoonRingerModel", "term", "()V"⟩, 64) := ⟨⟨by decide +kernel, by decide +kernel⟩, List.mem_of_getElem? (i := 1242) (by decide +kernel), List.mem_of_getElem? (i := 1569) (by decide +kernel), List.mem_of_getElem? (i := 1570) (by decide +kernel)⟩
theorem lw_p65 : lw_okq (⟨"NoonRingerModel", "isTown", "(I)Z"⟩, 64) := ⟨⟨by decide +kernel, by decide +kernel⟩, List.mem_of_getElem? (i := 1242) (by decide +kernel), List.mem_of_getElem? (i := 1581) (by decide +kernel), List.mem_of_getElem? (i := 1582) (by decide +kernel)⟩
theorem lw_p66 : lw_okq (⟨"NoonRingerModel", "copies", "()V"⟩, 64) := ⟨⟨by decide +kernel, by decide +kernel⟩, List.mem_of_getElem? (i := 1242) (by decide +kernel), List.mem_of_getElem? (i := 1588) (by decide +kernel), List.mem_of_getElem? (i := 1589) (by decide +kernel)⟩
theorem lw_p67 : lw_okq (⟨"NoonRingerModel", "fillsFar", "()V"⟩, 64) := ⟨⟨by decide +kernel, by decide +kernel⟩, List.mem_of_getElem? (i := 1242) (by decide +kernel), List.mem_of_getElem? (i := 1592) (by decide +kernel), List.mem_of_getElem? (i := 1593) (by decide +kernel)⟩
theorem lw_p68 : lw_okq (⟨"NoonRingerModel", "roadBits", "(I)I"⟩, 64) := ⟨⟨by decide +kernel, by decide +kernel⟩, List.mem_of_getElem? (i := 1242) (by decide +kernel), List.mem_of_getElem? (i := 1596) (by decide +kernel), List.mem_of_getElem? (i := 1597) (by decide +kernel)⟩
theorem lw_p69 : lw_okq (⟨"NoonRingerModel", "isOpen", "(I)Z"⟩, 64) := ⟨⟨by decide +kernel, by decide +kernel⟩, List.mem_of_getElem? (i := 1242) (by decide +kernel), List.mem_of_getElem? (i := 1600) (by decide +kernel), List.mem_of_getElem? (i := 1601) (by decide +kernel)⟩
theorem lw_p70 : lw_okq (⟨"NoonRingerModel", "isEnd", "(II)Z"⟩, 64) := ⟨⟨by decide +kernel, by decide +kernel⟩, List.mem_of_getElem? (i := 1242) (by decide +kernel), List.mem_of_getElem? (i := 1604) (by decide +kernel), List.mem_of_getElem? (i := 1605) (by decide +kernel)⟩
theorem lw_p71 : lw_okq (⟨"NoonRingerModel", "whoAt", "(I)I"⟩, 64) := ⟨⟨by decide +kernel, by decide +kernel⟩, List.mem_of_getElem? (i := 1242) (by decide +kernel), List.mem_of_getElem? (i := 1608) (by decide +kernel), List.mem_of_getElem? (i := 1609) (by decide +kernel)⟩
theorem lw_p72 : lw_okq (⟨"NoonRingerModel", "farFrom", "(I)I"⟩, 64) := ⟨⟨by decide +kernel, by decide +kernel⟩, List.mem_of_getElem? (i := 1242) (by decide +kernel), List.mem_of_getElem? (i := 1612) (by decide +kernel), List.mem_of_getElem? (i := 1613) (by decide +kernel)⟩
theorem lw_p73 : lw_okq (⟨"NoonRingerModel", "isRoad", "(I)Z"⟩, 64) := ⟨⟨by decide +kernel, by decide +kernel⟩, List.mem_of_getElem? (i := 1242) (by decide +kernel), List.mem_of_getElem? (i := 1620) (by decide +kernel), List.mem_of_getElem? (i := 1621) (by decide +kernel)⟩
theorem lw_p74 : lw_okq (⟨"NoonRingerModel", "isPerson", "(I)Z"⟩, 64) := ⟨⟨by decide +kernel, by decide +kernel⟩, List.mem_of_getElem? (i := 1242) (by decide +kernel), List.mem_of_getElem? (i := 1628) (by decide +kernel), List.mem_of_getElem? (i := 1629) (by decide +kernel)⟩
theorem lw_p75 : lw_okq (⟨"NoonRingerModel", "homeAt", "(I)I"⟩, 64) := ⟨⟨by decide +kernel, by decide +kernel⟩, List.mem_of_getElem? (i := 1242) (by decide +kernel), List.mem_of_getElem? (i := 1632) (by decide +kernel), List.mem_of_getElem? (i := 1633) (by decide +kernel)⟩
theorem lw_p76 : lw_okq (⟨"NoonRingerModel", "farOf", "(I)I"⟩, 64) := ⟨⟨by decide +kernel, by decide +kernel⟩, List.mem_of_getElem? (i := 1242) (by decide +kernel), List.mem_of_getElem? (i := 1636) (by decide +kernel), List.mem_of_getElem? (i := 1637) (by decide +kernel)⟩
theorem lw_p77 : lw_okq (⟨"NoonRingerModel", "claimOf", "(I)I"⟩, 64) := ⟨⟨by decide +kernel, by decide +kernel⟩, List.mem_of_getElem? (i := 1242) (by decide +kernel), List.mem_of_getElem? (i := 1640) (by decide +kernel), List.mem_of_getElem? (i := 1641) (by decide +kernel)⟩
theorem lw_p78 : lw_okq (⟨"NoonRingerModel", "claimBy", "(II)I"⟩, 64) := ⟨⟨by decide +kernel, by decide +kernel⟩, List.mem_of_getElem? (i := 1242) (by decide +kernel), List.mem_of_getElem? (i := 1644) (by decide +kernel), List.mem_of_getElem? (i := 1645) (by decide +kernel)⟩
theorem lw_p79 : lw_okq (⟨"NoonRingerModel", "looks", "(II)V"⟩, 64) := ⟨⟨by decide +kernel, by decide +kernel⟩, List.mem_of_getElem? (i := 1242) (by decide +kernel), List.mem_of_getElem? (i := 1648) (by decide +kernel), List.mem_of_getElem? (i := 1649) (by decide +kernel)⟩
def lw_privs_5 : List (MethodName × Nat) := [(⟨"NoonRingerModel", "term", "()V"⟩, 64), (⟨"NoonRingerModel", "isTown", "(I)Z"⟩, 64), (⟨"NoonRingerModel", "copies", "()V"⟩, 64), (⟨"NoonRingerModel", "fillsFar", "()V"⟩, 64), (⟨"NoonRingerModel", "roadBits", "(I)I"⟩, 64), (⟨"NoonRingerModel", "isOpen", "(I)Z"⟩, 64), (⟨"NoonRingerModel", "isEnd", "(II)Z"⟩, 64), (⟨"NoonRingerModel", "whoAt", "(I)I"⟩, 64), (⟨"NoonRingerModel", "farFrom", "(I)I"⟩, 64), (⟨"NoonRingerModel", "isRoad", "(I)Z"⟩, 64), (⟨"NoonRingerModel", "isPerson", "(I)Z"⟩, 64), (⟨"NoonRingerModel", "homeAt", "(I)I"⟩, 64), (⟨"NoonRingerModel", "farOf", "(I)I"⟩, 64), (⟨"NoonRingerModel", "claimOf", "(I)I"⟩, 64), (⟨"NoonRingerModel", "claimBy", "(II)I"⟩, 64), (⟨"NoonRingerModel", "looks", "(II)V"⟩, 64)]
theorem lw_r5 : ∀ q ∈ lw_privs_5, lw_okq q := List.forall_mem_cons.mpr ⟨lw_p64, List.forall_mem_cons.mpr ⟨lw_p65, List.forall_mem_cons.mpr ⟨lw_p66, List.forall_mem_cons.mpr ⟨lw_p67, List.forall_mem_cons.mpr ⟨lw_p68, List.forall_mem_cons.mpr ⟨lw_p69, List.forall_mem_cons.mpr ⟨lw_p70, List.forall_mem_cons.mpr ⟨lw_p71, List.forall_mem_cons.mpr ⟨lw_p72, List.forall_mem_cons.mpr ⟨lw_p73, List.forall_mem_cons.mpr ⟨lw_p74, List.forall_mem_cons.mpr ⟨lw_p75, List.forall_mem_cons.mpr ⟨lw_p76, List.forall_mem_cons.mpr ⟨lw_p77, List.forall_mem_cons.mpr ⟨lw_p78, List.forall_mem_cons.mpr ⟨lw_p79, fun _ h => absurd h List.not_mem_nil⟩⟩⟩⟩⟩⟩⟩⟩⟩⟩⟩⟩⟩⟩⟩⟩
theorem lw_p80 : lw_okq (⟨"NoonRingerModel", "thereBits", "()I"⟩, 64) := ⟨⟨by decide +kernel, by decide +kernel⟩, List.mem_of_getElem? (i := 1242) (by decide +kernel), List.mem_of_getElem? (i := 1652) (by decide +kernel), List.mem_of_getElem? (i := 1653) (by decide +kernel)⟩
theorem lw_p81 : lw_okq (⟨"NoonRingerModel", "isThere", "(I)Z"⟩, 64) := ⟨⟨by decide +kernel, by decide +kernel⟩, List.mem_of_getElem? (i := 1242) (by decide +kernel), List.mem_of_getElem? (i := 1656) (by decide +kernel), List.mem_of_getElem? (i := 1657) (by decide +kernel)⟩
theorem lw_p82 : lw_okq (⟨"NoonRingerModel", "lawTells", "(II)I"⟩, 64) := ⟨⟨by decide +kernel, by decide +kernel⟩, List.mem_of_getElem? (i := 1242) (by decide +kernel), List.mem_of_getElem? (i := 1663) (by decide +kernel), List.mem_of_getElem? (i := 1664) (by decide +kernel)⟩
theorem lw_p83 : lw_okq (⟨"NoonRingerModel", "termOf", "(II)I"⟩, 64) := ⟨⟨by decide +kernel, by decide +kernel⟩, List.mem_of_getElem? (i := 1242) (by decide +kernel), List.mem_of_getElem? (i := 1667) (by decide +kernel), List.mem_of_getElem? (i := 1668) (by decide +kernel)⟩
theorem lw_p84 : lw_okq (⟨"NoonRingerModel", "strokesBy", "(II)I"⟩, 64) := ⟨⟨by decide +kernel, by decide +kernel⟩, List.mem_of_getElem? (i := 1242) (by decide +kernel), List.mem_of_getElem? (i := 1674) (by decide +kernel), List.mem_of_getElem? (i := 1675) (by decide +kernel)⟩
theorem lw_p85 : lw_okq (⟨"NoonRingerModel", "toldBy", "(III)I"⟩, 64) := ⟨⟨by decide +kernel, by decide +kernel⟩, List.mem_of_getElem? (i := 1242) (by decide +kernel), List.mem_of_getElem? (i := 1678) (by decide +kernel), List.mem_of_getElem? (i := 1679) (by decide +kernel)⟩
theorem lw_p86 : lw_okq (⟨"NoonRingerModel", "giftsOf", "(I)I"⟩, 64) := ⟨⟨by decide +kernel, by decide +kernel⟩, List.mem_of_getElem? (i := 1242) (by decide +kernel), List.mem_of_getElem? (i := 1682) (by decide +kernel), List.mem_of_getElem? (i := 1683) (by decide +kernel)⟩
theorem lw_p87 : lw_okq (⟨"NoonRingerModel", "doubtsOf", "(I)I"⟩, 64) := ⟨⟨by decide +kernel, by decide +kernel⟩, List.mem_of_getElem? (i := 1242) (by decide +kernel), List.mem_of_getElem? (i := 1686) (by decide +kernel), List.mem_of_getElem? (i := 1687) (by decide +kernel)⟩
theorem lw_p88 : lw_okq (⟨"NoonRingerModel", "does", "(II)Z"⟩, 64) := ⟨⟨by decide +kernel, by decide +kernel⟩, List.mem_of_getElem? (i := 1242) (by decide +kernel), List.mem_of_getElem? (i := 1694) (by decide +kernel), List.mem_of_getElem? (i := 1695) (by decide +kernel)⟩
theorem lw_p89 : lw_okq (⟨"NoonRingerModel", "records", "()V"⟩, 64) := ⟨⟨by decide +kernel, by decide +kernel⟩, List.mem_of_getElem? (i := 1242) (by decide +kernel), List.mem_of_getElem? (i := 1698) (by decide +kernel), List.mem_of_getElem? (i := 1699) (by decide +kernel)⟩
theorem lw_p90 : lw_okq (⟨"NoonRingerModel", "goes", "(I)V"⟩, 64) := ⟨⟨by decide +kernel, by decide +kernel⟩, List.mem_of_getElem? (i := 1242) (by decide +kernel), List.mem_of_getElem? (i := 1717) (by decide +kernel), List.mem_of_getElem? (i := 1718) (by decide +kernel)⟩
theorem lw_p91 : lw_okq (⟨"NoonRingerModel", "noonRings", "()V"⟩, 64) := ⟨⟨by decide +kernel, by decide +kernel⟩, List.mem_of_getElem? (i := 1242) (by decide +kernel), List.mem_of_getElem? (i := 1721) (by decide +kernel), List.mem_of_getElem? (i := 1722) (by decide +kernel)⟩
theorem lw_p92 : lw_okq (⟨"NoonRingerModel", "ringerNow", "()I"⟩, 64) := ⟨⟨by decide +kernel, by decide +kernel⟩, List.mem_of_getElem? (i := 1242) (by decide +kernel), List.mem_of_getElem? (i := 1725) (by decide +kernel), List.mem_of_getElem? (i := 1726) (by decide +kernel)⟩
theorem lw_p93 : lw_okq (⟨"NoonRingerModel", "ringerBy", "(Z)I"⟩, 64) := ⟨⟨by decide +kernel, by decide +kernel⟩, List.mem_of_getElem? (i := 1242) (by decide +kernel), List.mem_of_getElem? (i := 1729) (by decide +kernel), List.mem_of_getElem? (i := 1730) (by decide +kernel)⟩
theorem lw_p94 : lw_okq (⟨"NoonRingerModel", "mayRing", "(I)Z"⟩, 64) := ⟨⟨by decide +kernel, by decide +kernel⟩, List.mem_of_getElem? (i := 1242) (by decide +kernel), List.mem_of_getElem? (i := 1733) (by decide +kernel), List.mem_of_getElem? (i := 1734) (by decide +kernel)⟩
theorem lw_p95 : lw_okq (⟨"NoonRingerModel", "doesLie", "(I)Z"⟩, 64) := ⟨⟨by decide +kernel, by decide +kernel⟩, List.mem_of_getElem? (i := 1242) (by decide +kernel), List.mem_of_getElem? (i := 1737) (by decide +kernel), List.mem_of_getElem? (i := 1738) (by decide +kernel)⟩
def lw_privs_6 : List (MethodName × Nat) := [(⟨"NoonRingerModel", "thereBits", "()I"⟩, 64), (⟨"NoonRingerModel", "isThere", "(I)Z"⟩, 64), (⟨"NoonRingerModel", "lawTells", "(II)I"⟩, 64), (⟨"NoonRingerModel", "termOf", "(II)I"⟩, 64), (⟨"NoonRingerModel", "strokesBy", "(II)I"⟩, 64), (⟨"NoonRingerModel", "toldBy", "(III)I"⟩, 64), (⟨"NoonRingerModel", "giftsOf", "(I)I"⟩, 64), (⟨"NoonRingerModel", "doubtsOf", "(I)I"⟩, 64), (⟨"NoonRingerModel", "does", "(II)Z"⟩, 64), (⟨"NoonRingerModel", "records", "()V"⟩, 64), (⟨"NoonRingerModel", "goes", "(I)V"⟩, 64), (⟨"NoonRingerModel", "noonRings", "()V"⟩, 64), (⟨"NoonRingerModel", "ringerNow", "()I"⟩, 64), (⟨"NoonRingerModel", "ringerBy", "(Z)I"⟩, 64), (⟨"NoonRingerModel", "mayRing", "(I)Z"⟩, 64), (⟨"NoonRingerModel", "doesLie", "(I)Z"⟩, 64)]
theorem lw_r6 : ∀ q ∈ lw_privs_6, lw_okq q := List.forall_mem_cons.mpr ⟨lw_p80, List.forall_mem_cons.mpr ⟨lw_p81, List.forall_mem_cons.mpr ⟨lw_p82, List.forall_mem_cons.mpr ⟨lw_p83, List.forall_mem_cons.mpr ⟨lw_p84, List.forall_mem_cons.mpr ⟨lw_p85, List.forall_mem_cons.mpr ⟨lw_p86, List.forall_mem_cons.mpr ⟨lw_p87, List.forall_mem_cons.mpr ⟨lw_p88, List.forall_mem_cons.mpr ⟨lw_p89, List.forall_mem_cons.mpr ⟨lw_p90, List.forall_mem_cons.mpr ⟨lw_p91, List.forall_mem_cons.mpr ⟨lw_p92, List.forall_mem_cons.mpr ⟨lw_p93, List.forall_mem_cons.mpr ⟨lw_p94, List.forall_mem_cons.mpr ⟨lw_p95, fun _ h => absurd h List.not_mem_nil⟩⟩⟩⟩⟩⟩⟩⟩⟩⟩⟩⟩⟩⟩⟩⟩
theorem lw_p96 : lw_okq (⟨"NoonRingerModel", "lotOf", "(I)I"⟩, 64) := ⟨⟨by decide +kernel, by decide +kernel⟩, List.mem_of_getElem? (i := 1242) (by decide +kernel), List.mem_of_getElem? (i := 1741) (by decide +kernel), List.mem_of_getElem? (i := 1742) (by decide +kernel)⟩
theorem lw_p97 : lw_okq (⟨"NoonRingerModel", "walksOne", "(I)V"⟩, 64) := ⟨⟨by decide +kernel, by decide +kernel⟩, List.mem_of_getElem? (i := 1242) (by decide +kernel), List.mem_of_getElem? (i := 1750) (by decide +kernel), List.mem_of_getElem? (i := 1751) (by decide +kernel)⟩
theorem lw_p98 : lw_okq (⟨"NoonRingerModel", "roadOf", "(I)I"⟩, 64) := ⟨⟨by decide +kernel, by decide +kernel⟩, List.mem_of_getElem? (i := 1242) (by decide +kernel), List.mem_of_getElem? (i := 1754) (by decide +kernel), List.mem_of_getElem? (i := 1755) (by decide +kernel)⟩
theorem lw_p99 : lw_okq (⟨"NoonRingerModel", "roadFor", "(II)I"⟩, 64) := ⟨⟨by decide +kernel, by decide +kernel⟩, List.mem_of_getElem? (i := 1242) (by decide +kernel), List.mem_of_getElem? (i := 1758) (by decide +kernel), List.mem_of_getElem? (i := 1759) (by decide +kernel)⟩
theorem lw_p100 : lw_okq (⟨"NoonRingerModel", "otherEnd", "(II)I"⟩, 64) := ⟨⟨by decide +kernel, by decide +kernel⟩, List.mem_of_getElem? (i := 1242) (by decide +kernel), List.mem_of_getElem? (i := 1762) (by decide +kernel), List.mem_of_getElem? (i := 1763) (by decide +kernel)⟩
theorem lw_p101 : lw_okq (⟨"NoonRingerModel", "isOpenNow", "(I)Z"⟩, 64) := ⟨⟨by decide +kernel, by decide +kernel⟩, List.mem_of_getElem? (i := 1242) (by decide +kernel), List.mem_of_getElem? (i := 1790) (by decide +kernel), List.mem_of_getElem? (i := 1791) (by decide +kernel)⟩
theorem lw_p102 : lw_okq (⟨"NoonRingerModel", "ringerWithout", "(I)I"⟩, 64) := ⟨⟨by decide +kernel, by decide +kernel⟩, List.mem_of_getElem? (i := 1242) (by decide +kernel), List.mem_of_getElem? (i := 1794) (by decide +kernel), List.mem_of_getElem? (i := 1795) (by decide +kernel)⟩
theorem lw_p103 : lw_okq (⟨"NoonRingerModel", "copiesStill", "()V"⟩, 64) := ⟨⟨by decide +kernel, by decide +kernel⟩, List.mem_of_getElem? (i := 1242) (by decide +kernel), List.mem_of_getElem? (i := 1806) (by decide +kernel), List.mem_of_getElem? (i := 1807) (by decide +kernel)⟩
theorem lw_p104 : lw_okq (⟨"NoonRingerModel", "whenRings", "(I)I"⟩, 64) := ⟨⟨by decide +kernel, by decide +kernel⟩, List.mem_of_getElem? (i := 1242) (by decide +kernel), List.mem_of_getElem? (i := 1810) (by decide +kernel), List.mem_of_getElem? (i := 1811) (by decide +kernel)⟩
theorem lw_p105 : lw_okq (⟨"NoonRingerModel", "sendsIn", "(I)V"⟩, 64) := ⟨⟨by decide +kernel, by decide +kernel⟩, List.mem_of_getElem? (i := 1242) (by decide +kernel), List.mem_of_getElem? (i := 1818) (by decide +kernel), List.mem_of_getElem? (i := 1819) (by decide +kernel)⟩
theorem lw_p106 : lw_okq (⟨"NoonRingerModel", "leastTown", "(ZI)I"⟩, 64) := ⟨⟨by decide +kernel, by decide +kernel⟩, List.mem_of_getElem? (i := 1242) (by decide +kernel), List.mem_of_getElem? (i := 1850) (by decide +kernel), List.mem_of_getElem? (i := 1851) (by decide +kernel)⟩
theorem lw_p107 : lw_okq (⟨"NoonRingerModel", "sumTo", "(I)I"⟩, 64) := ⟨⟨by decide +kernel, by decide +kernel⟩, List.mem_of_getElem? (i := 1242) (by decide +kernel), List.mem_of_getElem? (i := 1854) (by decide +kernel), List.mem_of_getElem? (i := 1855) (by decide +kernel)⟩
theorem lw_p108 : lw_okq (⟨"NoonRingerModel", "widestOf", "(I)I"⟩, 64) := ⟨⟨by decide +kernel, by decide +kernel⟩, List.mem_of_getElem? (i := 1242) (by decide +kernel), List.mem_of_getElem? (i := 1858) (by decide +kernel), List.mem_of_getElem? (i := 1859) (by decide +kernel)⟩
theorem lw_p109 : lw_okq (⟨"NoonRingerModel", "barredBits", "()I"⟩, 64) := ⟨⟨by decide +kernel, by decide +kernel⟩, List.mem_of_getElem? (i := 1242) (by decide +kernel), List.mem_of_getElem? (i := 1890) (by decide +kernel), List.mem_of_getElem? (i := 1891) (by decide +kernel)⟩
theorem lw_p110 : lw_okq (⟨"NoonRingerModel", "whenceBits", "(II)I"⟩, 64) := ⟨⟨by decide +kernel, by decide +kernel⟩, List.mem_of_getElem? (i := 1242) (by decide +kernel), List.mem_of_getElem? (i := 1913) (by decide +kernel), List.mem_of_getElem? (i := 1914) (by decide +kernel)⟩
theorem lw_p111 : lw_okq (⟨"NoonRingerModel", "sumNow", "(I)I"⟩, 64) := ⟨⟨by decide +kernel, by decide +kernel⟩, List.mem_of_getElem? (i := 1242) (by decide +kernel), List.mem_of_getElem? (i := 1933) (by decide +kernel), List.mem_of_getElem? (i := 1934) (by decide +kernel)⟩
def lw_privs_7 : List (MethodName × Nat) := [(⟨"NoonRingerModel", "lotOf", "(I)I"⟩, 64), (⟨"NoonRingerModel", "walksOne", "(I)V"⟩, 64), (⟨"NoonRingerModel", "roadOf", "(I)I"⟩, 64), (⟨"NoonRingerModel", "roadFor", "(II)I"⟩, 64), (⟨"NoonRingerModel", "otherEnd", "(II)I"⟩, 64), (⟨"NoonRingerModel", "isOpenNow", "(I)Z"⟩, 64), (⟨"NoonRingerModel", "ringerWithout", "(I)I"⟩, 64), (⟨"NoonRingerModel", "copiesStill", "()V"⟩, 64), (⟨"NoonRingerModel", "whenRings", "(I)I"⟩, 64), (⟨"NoonRingerModel", "sendsIn", "(I)V"⟩, 64), (⟨"NoonRingerModel", "leastTown", "(ZI)I"⟩, 64), (⟨"NoonRingerModel", "sumTo", "(I)I"⟩, 64), (⟨"NoonRingerModel", "widestOf", "(I)I"⟩, 64), (⟨"NoonRingerModel", "barredBits", "()I"⟩, 64), (⟨"NoonRingerModel", "whenceBits", "(II)I"⟩, 64), (⟨"NoonRingerModel", "sumNow", "(I)I"⟩, 64)]
theorem lw_r7 : ∀ q ∈ lw_privs_7, lw_okq q := List.forall_mem_cons.mpr ⟨lw_p96, List.forall_mem_cons.mpr ⟨lw_p97, List.forall_mem_cons.mpr ⟨lw_p98, List.forall_mem_cons.mpr ⟨lw_p99, List.forall_mem_cons.mpr ⟨lw_p100, List.forall_mem_cons.mpr ⟨lw_p101, List.forall_mem_cons.mpr ⟨lw_p102, List.forall_mem_cons.mpr ⟨lw_p103, List.forall_mem_cons.mpr ⟨lw_p104, List.forall_mem_cons.mpr ⟨lw_p105, List.forall_mem_cons.mpr ⟨lw_p106, List.forall_mem_cons.mpr ⟨lw_p107, List.forall_mem_cons.mpr ⟨lw_p108, List.forall_mem_cons.mpr ⟨lw_p109, List.forall_mem_cons.mpr ⟨lw_p110, List.forall_mem_cons.mpr ⟨lw_p111, fun _ h => absurd h List.not_mem_nil⟩⟩⟩⟩⟩⟩⟩⟩⟩⟩⟩⟩⟩⟩⟩⟩
def lw_privs : List (MethodName × Nat) := lw_privs_1 ++ (lw_privs_2 ++ (lw_privs_3 ++ (lw_privs_4 ++ (lw_privs_5 ++ (lw_privs_6 ++ (lw_privs_7))))))
def lw_tbl : List Cond := k2_sels lw_privs ++ tables_1
theorem lw_privs_ok : ∀ q ∈ lw_privs, lw_okq q := by
  show ∀ q ∈ lw_privs_1 ++ (lw_privs_2 ++ (lw_privs_3 ++ (lw_privs_4 ++ (lw_privs_5 ++ (lw_privs_6 ++ (lw_privs_7)))))), lw_okq q
  exact List.forall_mem_append.mpr ⟨lw_r1, List.forall_mem_append.mpr ⟨lw_r2, List.forall_mem_append.mpr ⟨lw_r3, List.forall_mem_append.mpr ⟨lw_r4, List.forall_mem_append.mpr ⟨lw_r5, List.forall_mem_append.mpr ⟨lw_r6, lw_r7⟩⟩⟩⟩⟩⟩
def RJ0 : String := "java/lang/String"
def RJ1 : String := "java/lang/StringLatin1"
def RJ2 : String := "java/lang/StringUTF16"
def RJ3 : String := "jdk/internal/util/Preconditions"
def RJ6 : String := "java/lang/Integer"
def RJ9 : String := "java/lang/Math"
def RJ11 : String := "java/lang/Character"
def RX0 : String := "NoonRinger$Hearsay"
def TX0 : u_T := fun k => match k with
  | 0 => ("NoonRinger$Hearsay", "realm", "LNoonRinger$Realm;", true)
  | 1 => ("NoonRinger$Hearsay", "judge", "LNoonRinger$Judge;", true)
  | 2 => ("NoonRinger$Hearsay", "strokes", "[I", true)
  | 3 => ("NoonRinger$Hearsay", "struck", "[Z", true)
  | 4 => ("NoonRinger$Hearsay", "strokesFrom", "[I", true)
  | _ => ("NoonRinger$Hearsay", "count", "I", false)
def tyX0 : Nat → FieldType := fun k => match k with
  | 0 => .object "NoonRinger$Realm"
  | 1 => .object "NoonRinger$Judge"
  | 2 => .array .int
  | 3 => .array .boolean
  | 4 => .array .int
  | _ => .int
theorem nmX0 : ∀ a, a < 6 → ∀ b, b < 6 → a ≠ b → (TX0 a).2.1 ≠ (TX0 b).2.1 := by decide +kernel
theorem tyX0_ok : ∀ k, k < 6 → parseFieldDescriptor (TX0 k).2.2.1 = some (tyX0 k) := by decide +kernel
def RX1 : String := "NoonRinger$Judge"
def TX1 : u_T := fun k => match k with
  | 0 => ("NoonRinger$Judge", "realm", "LNoonRinger$Realm;", true)
  | 1 => ("NoonRinger$Judge", "ways", "LNoonRinger$Ways;", true)
  | _ => ("NoonRinger$Judge", "vars", "[I", true)
def tyX1 : Nat → FieldType := fun k => match k with
  | 0 => .object "NoonRinger$Realm"
  | 1 => .object "NoonRinger$Ways"
  | _ => .array .int
theorem nmX1 : ∀ a, a < 3 → ∀ b, b < 3 → a ≠ b → (TX1 a).2.1 ≠ (TX1 b).2.1 := by decide +kernel
theorem tyX1_ok : ∀ k, k < 3 → parseFieldDescriptor (TX1 k).2.2.1 = some (tyX1 k) := by decide +kernel
def RX2 : String := "NoonRinger$Laws"
def TX2 : u_T := fun k => match k with
  | 0 => ("NoonRinger$Laws", "steps", "[I", true)
  | 1 => ("NoonRinger$Laws", "values", "[I", true)
  | 2 => ("NoonRinger$Laws", "starts", "[I", true)
  | 3 => ("NoonRinger$Laws", "stack", "[I", true)
  | _ => ("NoonRinger$Laws", "size", "I", false)
def tyX2 : Nat → FieldType := fun k => match k with
  | 0 => .array .int
  | 1 => .array .int
  | 2 => .array .int
  | 3 => .array .int
  | _ => .int
theorem nmX2 : ∀ a, a < 5 → ∀ b, b < 5 → a ≠ b → (TX2 a).2.1 ≠ (TX2 b).2.1 := by decide +kernel
theorem tyX2_ok : ∀ k, k < 5 → parseFieldDescriptor (TX2 k).2.2.1 = some (tyX2 k) := by decide +kernel
def RX3 : String := "NoonRinger$Reader"
def TX3 : u_T := fun k => match k with
  | 0 => ("NoonRinger$Reader", "tape", "LNoonRinger$Tape;", true)
  | 1 => ("NoonRinger$Reader", "tokens", "LNoonRinger$Tokens;", true)
  | 2 => ("NoonRinger$Reader", "draft", "LNoonRinger$Realm;", true)
  | 3 => ("NoonRinger$Reader", "waiting", "[I", true)
  | 4 => ("NoonRinger$Reader", "waitingCount", "I", false)
  | 5 => ("NoonRinger$Reader", "next", "I", false)
  | 6 => ("NoonRinger$Reader", "fault", "I", false)
  | 7 => ("NoonRinger$Reader", "laterFault", "I", false)
  | _ => ("NoonRinger$Reader", "laterFaultToken", "I", false)
def tyX3 : Nat → FieldType := fun k => match k with
  | 0 => .object "NoonRinger$Tape"
  | 1 => .object "NoonRinger$Tokens"
  | 2 => .object "NoonRinger$Realm"
  | 3 => .array .int
  | 4 => .int
  | 5 => .int
  | 6 => .int
  | 7 => .int
  | _ => .int
theorem nmX3 : ∀ a, a < 9 → ∀ b, b < 9 → a ≠ b → (TX3 a).2.1 ≠ (TX3 b).2.1 := by decide +kernel
theorem tyX3_ok : ∀ k, k < 9 → parseFieldDescriptor (TX3 k).2.2.1 = some (tyX3 k) := by decide +kernel
def RX4 : String := "NoonRinger$Realm"
def TX4 : u_T := fun k => match k with
  | 0 => ("NoonRinger$Realm", "townNames", "[J", true)
  | 1 => ("NoonRinger$Realm", "oneEnds", "[I", true)
  | 2 => ("NoonRinger$Realm", "otherEnds", "[I", true)
  | 3 => ("NoonRinger$Realm", "miles", "[I", true)
  | 4 => ("NoonRinger$Realm", "personNames", "[J", true)
  | 5 => ("NoonRinger$Realm", "honesties", "[I", true)
  | 6 => ("NoonRinger$Realm", "homes", "[I", true)
  | 7 => ("NoonRinger$Realm", "firstPlaces", "[I", true)
  | 8 => ("NoonRinger$Realm", "laws", "LNoonRinger$Laws;", true)
  | 9 => ("NoonRinger$Realm", "towns", "I", false)
  | 10 => ("NoonRinger$Realm", "roads", "I", false)
  | 11 => ("NoonRinger$Realm", "people", "I", false)
  | 12 => ("NoonRinger$Realm", "capital", "I", false)
  | _ => ("NoonRinger$Realm", "seed", "I", false)
def tyX4 : Nat → FieldType := fun k => match k with
  | 0 => .array .long
  | 1 => .array .int
  | 2 => .array .int
  | 3 => .array .int
  | 4 => .array .long
  | 5 => .array .int
  | 6 => .array .int
  | 7 => .array .int
  | 8 => .object "NoonRinger$Laws"
  | 9 => .int
  | 10 => .int
  | 11 => .int
  | 12 => .int
  | _ => .int
theorem nmX4 : ∀ a, a < 14 → ∀ b, b < 14 → a ≠ b → (TX4 a).2.1 ≠ (TX4 b).2.1 := by decide +kernel
theorem tyX4_ok : ∀ k, k < 14 → parseFieldDescriptor (TX4 k).2.2.1 = some (tyX4 k) := by decide +kernel
def RX5 : String := "NoonRinger$Shelf"
def TX5 : u_T := fun k => match k with
  | _ => ("NoonRinger$Shelf", "cells", "[I", true)
def tyX5 : Nat → FieldType := fun k => match k with
  | _ => .array .int
theorem nmX5 : ∀ a, a < 1 → ∀ b, b < 1 → a ≠ b → (TX5 a).2.1 ≠ (TX5 b).2.1 := by decide +kernel
theorem tyX5_ok : ∀ k, k < 1 → parseFieldDescriptor (TX5 k).2.2.1 = some (tyX5 k) := by decide +kernel
def RX6 : String := "NoonRinger$State"
def TX6 : u_T := fun k => match k with
  | _ => ("NoonRinger$State", "cells", "[I", true)
def tyX6 : Nat → FieldType := fun k => match k with
  | _ => .array .int
theorem nmX6 : ∀ a, a < 1 → ∀ b, b < 1 → a ≠ b → (TX6 a).2.1 ≠ (TX6 b).2.1 := by decide +kernel
theorem tyX6_ok : ∀ k, k < 1 → parseFieldDescriptor (TX6 k).2.2.1 = some (tyX6 k) := by decide +kernel
def RX7 : String := "NoonRinger$Survey"
def TX7 : u_T := fun k => match k with
  | 0 => ("NoonRinger$Survey", "realm", "LNoonRinger$Realm;", true)
  | 1 => ("NoonRinger$Survey", "ways", "LNoonRinger$Ways;", true)
  | _ => ("NoonRinger$Survey", "longest", "[I", true)
def tyX7 : Nat → FieldType := fun k => match k with
  | 0 => .object "NoonRinger$Realm"
  | 1 => .object "NoonRinger$Ways"
  | _ => .array .int
theorem nmX7 : ∀ a, a < 3 → ∀ b, b < 3 → a ≠ b → (TX7 a).2.1 ≠ (TX7 b).2.1 := by decide +kernel
theorem tyX7_ok : ∀ k, k < 3 → parseFieldDescriptor (TX7 k).2.2.1 = some (tyX7 k) := by decide +kernel
def RX8 : String := "NoonRinger$Tape"
def TX8 : u_T := fun k => match k with
  | 0 => ("NoonRinger$Tape", "bytes", "[B", true)
  | _ => ("NoonRinger$Tape", "length", "I", false)
def tyX8 : Nat → FieldType := fun k => match k with
  | 0 => .array .byte
  | _ => .int
theorem nmX8 : ∀ a, a < 2 → ∀ b, b < 2 → a ≠ b → (TX8 a).2.1 ≠ (TX8 b).2.1 := by decide +kernel
theorem tyX8_ok : ∀ k, k < 2 → parseFieldDescriptor (TX8 k).2.2.1 = some (tyX8 k) := by decide +kernel
def RX9 : String := "NoonRinger$Tokens"
def TX9 : u_T := fun k => match k with
  | 0 => ("NoonRinger$Tokens", "kinds", "[I", true)
  | 1 => ("NoonRinger$Tokens", "starts", "[I", true)
  | 2 => ("NoonRinger$Tokens", "values", "[J", true)
  | 3 => ("NoonRinger$Tokens", "words", "[J", true)
  | 4 => ("NoonRinger$Tokens", "count", "I", false)
  | _ => ("NoonRinger$Tokens", "end", "I", false)
def tyX9 : Nat → FieldType := fun k => match k with
  | 0 => .array .int
  | 1 => .array .int
  | 2 => .array .long
  | 3 => .array .long
  | 4 => .int
  | _ => .int
theorem nmX9 : ∀ a, a < 6 → ∀ b, b < 6 → a ≠ b → (TX9 a).2.1 ≠ (TX9 b).2.1 := by decide +kernel
theorem tyX9_ok : ∀ k, k < 6 → parseFieldDescriptor (TX9 k).2.2.1 = some (tyX9 k) := by decide +kernel
def RX10 : String := "NoonRinger$Ways"
def TX10 : u_T := fun k => match k with
  | 0 => ("NoonRinger$Ways", "realm", "LNoonRinger$Realm;", true)
  | 1 => ("NoonRinger$Ways", "miles", "[I", true)
  | _ => ("NoonRinger$Ways", "closed", "I", false)
def tyX10 : Nat → FieldType := fun k => match k with
  | 0 => .object "NoonRinger$Realm"
  | 1 => .array .int
  | _ => .int
theorem nmX10 : ∀ a, a < 3 → ∀ b, b < 3 → a ≠ b → (TX10 a).2.1 ≠ (TX10 b).2.1 := by decide +kernel
theorem tyX10_ok : ∀ k, k < 3 → parseFieldDescriptor (TX10 k).2.2.1 = some (tyX10 k) := by decide +kernel
def RX11 : String := "NoonRinger"
def TX11 : u_T := fun k => match k with
  | 0 => ("NoonRinger", "tape", "LNoonRinger$Tape;", true)
  | 1 => ("NoonRinger", "realm", "LNoonRinger$Realm;", true)
  | 2 => ("NoonRinger", "reader", "LNoonRinger$Reader;", true)
  | 3 => ("NoonRinger", "ways", "LNoonRinger$Ways;", true)
  | 4 => ("NoonRinger", "otherWays", "LNoonRinger$Ways;", true)
  | 5 => ("NoonRinger", "survey", "LNoonRinger$Survey;", true)
  | 6 => ("NoonRinger", "judge", "LNoonRinger$Judge;", true)
  | 7 => ("NoonRinger", "otherJudge", "LNoonRinger$Judge;", true)
  | 8 => ("NoonRinger", "now", "LNoonRinger$State;", true)
  | 9 => ("NoonRinger", "wouldBe", "LNoonRinger$State;", true)
  | 10 => ("NoonRinger", "past", "LNoonRinger$Shelf;", true)
  | 11 => ("NoonRinger", "slots", "LNoonRinger$Shelf;", true)
  | 12 => ("NoonRinger", "hearsay", "LNoonRinger$Hearsay;", true)
  | 13 => ("NoonRinger", "undoable", "I", false)
  | 14 => ("NoonRinger", "newest", "I", false)
  | 15 => ("NoonRinger", "heldSlots", "I", false)
  | _ => ("NoonRinger", "faultPlace", "I", false)
def tyX11 : Nat → FieldType := fun k => match k with
  | 0 => .object "NoonRinger$Tape"
  | 1 => .object "NoonRinger$Realm"
  | 2 => .object "NoonRinger$Reader"
  | 3 => .object "NoonRinger$Ways"
  | 4 => .object "NoonRinger$Ways"
  | 5 => .object "NoonRinger$Survey"
  | 6 => .object "NoonRinger$Judge"
  | 7 => .object "NoonRinger$Judge"
  | 8 => .object "NoonRinger$State"
  | 9 => .object "NoonRinger$State"
  | 10 => .object "NoonRinger$Shelf"
  | 11 => .object "NoonRinger$Shelf"
  | 12 => .object "NoonRinger$Hearsay"
  | 13 => .int
  | 14 => .int
  | 15 => .int
  | _ => .int
theorem nmX11 : ∀ a, a < 17 → ∀ b, b < 17 → a ≠ b → (TX11 a).2.1 ≠ (TX11 b).2.1 := by decide +kernel
theorem tyX11_ok : ∀ k, k < 17 → parseFieldDescriptor (TX11 k).2.2.1 = some (tyX11 k) := by decide +kernel
def RX12 : String := "NoonRingerModel"
def TX12 : u_T := fun k => match k with
  | 0 => ("NoonRingerModel", "thrown", "I", false)
  | 1 => ("NoonRingerModel", "tape", "[B", true)
  | 2 => ("NoonRingerModel", "taped", "I", false)
  | 3 => ("NoonRingerModel", "text", "[B", true)
  | 4 => ("NoonRingerModel", "size", "I", false)
  | 5 => ("NoonRingerModel", "tKind", "[I", true)
  | 6 => ("NoonRingerModel", "tPlace", "[I", true)
  | 7 => ("NoonRingerModel", "tValue", "[I", true)
  | 8 => ("NoonRingerModel", "tName", "[J", true)
  | 9 => ("NoonRingerModel", "keys", "[J", true)
  | 10 => ("NoonRingerModel", "tokens", "I", false)
  | 11 => ("NoonRingerModel", "t", "I", false)
  | 12 => ("NoonRingerModel", "open", "I", false)
  | 13 => ("NoonRingerModel", "fault", "I", false)
  | 14 => ("NoonRingerModel", "faultPlace", "I", false)
  | 15 => ("NoonRingerModel", "worst", "I", false)
  | 16 => ("NoonRingerModel", "worstPlace", "I", false)
  | 17 => ("NoonRingerModel", "place", "I", false)
  | 18 => ("NoonRingerModel", "live", "I", false)
  | 19 => ("NoonRingerModel", "side", "I", false)
  | 20 => ("NoonRingerModel", "names", "I", false)
  | 21 => ("NoonRingerModel", "nameOf", "[J", true)
  | 22 => ("NoonRingerModel", "nameAt", "[I", true)
  | 23 => ("NoonRingerModel", "townMany", "[I", true)
  | 24 => ("NoonRingerModel", "roads", "[I", true)
  | 25 => ("NoonRingerModel", "oneOf", "[I", true)
  | 26 => ("NoonRingerModel", "otherOf", "[I", true)
  | 27 => ("NoonRingerModel", "longOf", "[I", true)
  | 28 => ("NoonRingerModel", "people", "[I", true)
  | 29 => ("NoonRingerModel", "honestOf", "[I", true)
  | 30 => ("NoonRingerModel", "homeOf", "[I", true)
  | 31 => ("NoonRingerModel", "firstAt", "[I", true)
  | 32 => ("NoonRingerModel", "capital", "[I", true)
  | 33 => ("NoonRingerModel", "seed", "[I", true)
  | 34 => ("NoonRingerModel", "lawFirst", "[I", true)
  | 35 => ("NoonRingerModel", "lawLast", "[I", true)
  | 36 => ("NoonRingerModel", "branches", "I", false)
  | 37 => ("NoonRingerModel", "hasTest", "[Z", true)
  | 38 => ("NoonRingerModel", "testFrom", "[I", true)
  | 39 => ("NoonRingerModel", "testMid", "[I", true)
  | 40 => ("NoonRingerModel", "testTo", "[I", true)
  | 41 => ("NoonRingerModel", "termTo", "[I", true)
  | 42 => ("NoonRingerModel", "codes", "I", false)
  | 43 => ("NoonRingerModel", "code", "[I", true)
  | 44 => ("NoonRingerModel", "codeInt", "[I", true)
  | 45 => ("NoonRingerModel", "waits", "[I", true)
  | 46 => ("NoonRingerModel", "waiting", "I", false)
  | 47 => ("NoonRingerModel", "variables", "[I", true)
  | 48 => ("NoonRingerModel", "pile", "[I", true)
  | 49 => ("NoonRingerModel", "isBroken", "Z", false)
  | 50 => ("NoonRingerModel", "now", "[I", true)
  | 51 => ("NoonRingerModel", "row", "[I", true)
  | 52 => ("NoonRingerModel", "lots", "I", false)
  | 53 => ("NoonRingerModel", "isStill", "Z", false)
  | 54 => ("NoonRingerModel", "farBy", "[I", true)
  | 55 => ("NoonRingerModel", "undos", "I", false)
  | 56 => ("NoonRingerModel", "history", "[I", true)
  | 57 => ("NoonRingerModel", "pathBy", "[I", true)
  | 58 => ("NoonRingerModel", "tolds", "I", false)
  | 59 => ("NoonRingerModel", "toldBy", "[I", true)
  | 60 => ("NoonRingerModel", "toldSo", "[Z", true)
  | 61 => ("NoonRingerModel", "strokesFrom", "[I", true)
  | 62 => ("NoonRingerModel", "isHeld", "[Z", true)
  | _ => ("NoonRingerModel", "heldRows", "[I", true)
def tyX12 : Nat → FieldType := fun k => match k with
  | 0 => .int
  | 1 => .array .byte
  | 2 => .int
  | 3 => .array .byte
  | 4 => .int
  | 5 => .array .int
  | 6 => .array .int
  | 7 => .array .int
  | 8 => .array .long
  | 9 => .array .long
  | 10 => .int
  | 11 => .int
  | 12 => .int
  | 13 => .int
  | 14 => .int
  | 15 => .int
  | 16 => .int
  | 17 => .int
  | 18 => .int
  | 19 => .int
  | 20 => .int
  | 21 => .array .long
  | 22 => .array .int
  | 23 => .array .int
  | 24 => .array .int
  | 25 => .array .int
  | 26 => .array .int
  | 27 => .array .int
  | 28 => .array .int
  | 29 => .array .int
  | 30 => .array .int
  | 31 => .array .int
  | 32 => .array .int
  | 33 => .array .int
  | 34 => .array .int
  | 35 => .array .int
  | 36 => .int
  | 37 => .array .boolean
  | 38 => .array .int
  | 39 => .array .int
  | 40 => .array .int
  | 41 => .array .int
  | 42 => .int
  | 43 => .array .int
  | 44 => .array .int
  | 45 => .array .int
  | 46 => .int
  | 47 => .array .int
  | 48 => .array .int
  | 49 => .boolean
  | 50 => .array .int
  | 51 => .array .int
  | 52 => .int
  | 53 => .boolean
  | 54 => .array .int
  | 55 => .int
  | 56 => .array .int
  | 57 => .array .int
  | 58 => .int
  | 59 => .array .int
  | 60 => .array .boolean
  | 61 => .array .int
  | 62 => .array .boolean
  | _ => .array .int
theorem nmX12 : ∀ a, a < 64 → ∀ b, b < 64 → a ≠ b → (TX12 a).2.1 ≠ (TX12 b).2.1 := by decide +kernel
theorem tyX12_ok : ∀ k, k < 64 → parseFieldDescriptor (TX12 k).2.2.1 = some (tyX12 k) := by decide +kernel
abbrev vwCl : List vw_C := [(RX0, TX0, 6), (RX1, TX1, 3), (RX2, TX2, 5), (RX3, TX3, 9), (RX4, TX4, 14), (RX5, TX5, 1), (RX6, TX6, 1), (RX7, TX7, 3), (RX8, TX8, 2), (RX9, TX9, 6), (RX10, TX10, 3), (RX11, TX11, 17), (RX12, TX12, 64)]
abbrev xM : Type := MethodName × ByteArray × Nat × Option FieldType
def mX0_init : xM := (⟨RX0, "<init>", "(LNoonRinger$Realm;LNoonRinger$Judge;)V"⟩, prog_2_method_1_code, 3, none)
def mX0_size : xM := (⟨RX0, "size", "()I"⟩, prog_2_method_2_code, 1, (some .int))
def mX0_clear : xM := (⟨RX0, "clear", "()V"⟩, prog_2_method_3_code, 1, none)
def mX0_add : xM := (⟨RX0, "add", "(IZ)I"⟩, prog_2_method_4_code, 3, (some .int))
def mX0_homesLeft : xM := (⟨RX0, "homesLeft", "(LNoonRinger$State;II)I"⟩, prog_2_method_5_code, 7, (some .int))
def mX0_agrees : xM := (⟨RX0, "agrees", "(II)Z"⟩, prog_2_method_6_code, 4, (some .boolean))
def mX0_bestQuestion : xM := (⟨RX0, "bestQuestion", "(I)I"⟩, prog_2_method_7_code, 8, (some .int))
def mX0_homesStriking : xM := (⟨RX0, "homesStriking", "(II)I"⟩, prog_2_method_8_code, 5, (some .int))
def mX1_init : xM := (⟨RX1, "<init>", "(LNoonRinger$Realm;LNoonRinger$Ways;)V"⟩, prog_3_method_1_code, 3, none)
def mX1_trueFarOf : xM := (⟨RX1, "trueFarOf", "(I)I"⟩, prog_3_method_2_code, 2, (some .int))
def mX1_lawNow : xM := (⟨RX1, "lawNow", "(LNoonRinger$State;II)I"⟩, prog_3_method_3_code, 4, (some .int))
def mX1_lawFrom : xM := (⟨RX1, "lawFrom", "(LNoonRinger$State;III)I"⟩, prog_3_method_4_code, 6, (some .int))
def mX1_heldTo : xM := (⟨RX1, "heldTo", "(II)I"⟩, prog_3_method_5_code, 2, (some .int))
def mX1_lies : xM := (⟨RX1, "lies", "(LNoonRinger$State;I)Z"⟩, prog_3_method_6_code, 3, (some .boolean))
def mX1_ringerOf : xM := (⟨RX1, "ringerOf", "(LNoonRinger$State;)I"⟩, prog_3_method_7_code, 6, (some .int))
def mX1_trueRingerOf : xM := (⟨RX1, "trueRingerOf", "(LNoonRinger$State;)I"⟩, prog_3_method_8_code, 4, (some .int))
def mX1_mayRing : xM := (⟨RX1, "mayRing", "(LNoonRinger$State;I)Z"⟩, prog_3_method_9_code, 3, (some .boolean))
def mX1_strangerOf : xM := (⟨RX1, "strangerOf", "()I"⟩, prog_3_method_10_code, 3, (some .int))
def mX1_goThroughNoon : xM := (⟨RX1, "goThroughNoon", "(LNoonRinger$State;IZ)V"⟩, prog_3_method_11_code, 6, none)
def mX1_isFoundOut : xM := (⟨RX1, "isFoundOut", "(LNoonRinger$State;II)Z"⟩, prog_3_method_12_code, 4, (some .boolean))
def mX1_lot : xM := (⟨RX1, "lot", "(II)I"⟩, prog_3_method_13_code, 3, (some .int))
def mX1_mix : xM := (⟨RX1, "mix", "(II)I"⟩, prog_3_method_14_code, 3, (some .int))
def mX1_strike : xM := (⟨RX1, "strike", "(LNoonRinger$State;I)V"⟩, prog_3_method_15_code, 6, none)
def mX1_walk : xM := (⟨RX1, "walk", "(LNoonRinger$State;I)V"⟩, prog_3_method_16_code, 8, none)
def mX2_init : xM := (⟨RX2, "<init>", "()V"⟩, prog_4_method_1_code, 1, none)
def mX2_clear : xM := (⟨RX2, "clear", "()V"⟩, prog_4_method_2_code, 1, none)
def mX2_copyFrom : xM := (⟨RX2, "copyFrom", "(LNoonRinger$Laws;)V"⟩, prog_4_method_3_code, 2, none)
def mX2_size : xM := (⟨RX2, "size", "()I"⟩, prog_4_method_4_code, 1, (some .int))
def mX2_begin : xM := (⟨RX2, "begin", "(I)V"⟩, prog_4_method_5_code, 2, none)
def mX2_add : xM := (⟨RX2, "add", "(II)V"⟩, prog_4_method_6_code, 3, none)
def mX2_skipToHere : xM := (⟨RX2, "skipToHere", "(I)V"⟩, prog_4_method_7_code, 2, none)
def mX2_answer : xM := (⟨RX2, "answer", "(I[I)I"⟩, prog_4_method_8_code, 10, (some .int))
def mX2_joined : xM := (⟨RX2, "joined", "(III)I"⟩, prog_4_method_9_code, 3, (some .int))
def mX2_mostOf : xM := (⟨RX2, "mostOf", "(I)I"⟩, prog_4_method_10_code, 1, (some .int))
def mX3_init : xM := (⟨RX3, "<init>", "(LNoonRinger$Tape;)V"⟩, prog_5_method_1_code, 2, none)
def mX3_draft : xM := (⟨RX3, "draft", "()LNoonRinger$Realm;"⟩, prog_5_method_2_code, 1, (some (.object "NoonRinger$Realm")))
def mX3_faultPlace : xM := (⟨RX3, "faultPlace", "()I"⟩, prog_5_method_3_code, 1, (some .int))
def mX3_readText : xM := (⟨RX3, "readText", "()I"⟩, prog_5_method_4_code, 2, (some .int))
def mX3_readTown : xM := (⟨RX3, "readTown", "()V"⟩, prog_5_method_5_code, 1, none)
def mX3_readRoad : xM := (⟨RX3, "readRoad", "()V"⟩, prog_5_method_6_code, 4, none)
def mX3_readPerson : xM := (⟨RX3, "readPerson", "()V"⟩, prog_5_method_7_code, 5, none)
def mX3_readCapital : xM := (⟨RX3, "readCapital", "()V"⟩, prog_5_method_8_code, 1, none)
def mX3_readSeed : xM := (⟨RX3, "readSeed", "()V"⟩, prog_5_method_9_code, 1, none)
def mX3_readLaw : xM := (⟨RX3, "readLaw", "(I)V"⟩, prog_5_method_10_code, 3, none)
def mX3_readIf : xM := (⟨RX3, "readIf", "()V"⟩, prog_5_method_11_code, 3, none)
def mX3_readSum : xM := (⟨RX3, "readSum", "()V"⟩, prog_5_method_12_code, 5, none)
def mX3_readUnit : xM := (⟨RX3, "readUnit", "(I)V"⟩, prog_5_method_13_code, 2, none)
def mX3_bindingOf : xM := (⟨RX3, "bindingOf", "(I)I"⟩, prog_5_method_14_code, 1, (some .int))
def mX3_putAside : xM := (⟨RX3, "putAside", "(I)V"⟩, prog_5_method_15_code, 2, none)
def mX3_addWaiting : xM := (⟨RX3, "addWaiting", "(I)V"⟩, prog_5_method_16_code, 3, none)
def mX3_takeNewName : xM := (⟨RX3, "takeNewName", "()J"⟩, prog_5_method_17_code, 3, (some .long))
def mX3_takeTown : xM := (⟨RX3, "takeTown", "()I"⟩, prog_5_method_18_code, 2, (some .int))
def mX3_takeNumber : xM := (⟨RX3, "takeNumber", "(II)I"⟩, prog_5_method_19_code, 4, (some .int))
def mX3_takeOneMore : xM := (⟨RX3, "takeOneMore", "(III)V"⟩, prog_5_method_20_code, 4, none)
def mX3_take : xM := (⟨RX3, "take", "(I)V"⟩, prog_5_method_21_code, 2, none)
def mX3_stop : xM := (⟨RX3, "stop", "(I)V"⟩, prog_5_method_22_code, 2, none)
def mX3_note : xM := (⟨RX3, "note", "(II)V"⟩, prog_5_method_23_code, 3, none)
def mX4_init : xM := (⟨RX4, "<init>", "()V"⟩, prog_6_method_1_code, 1, none)
def mX4_clear : xM := (⟨RX4, "clear", "()V"⟩, prog_6_method_2_code, 1, none)
def mX4_copyFrom : xM := (⟨RX4, "copyFrom", "(LNoonRinger$Realm;)V"⟩, prog_6_method_3_code, 2, none)
def mX4_addTown : xM := (⟨RX4, "addTown", "(J)V"⟩, prog_6_method_4_code, 3, none)
def mX4_addRoad : xM := (⟨RX4, "addRoad", "(III)V"⟩, prog_6_method_5_code, 4, none)
def mX4_addPerson : xM := (⟨RX4, "addPerson", "(JIII)V"⟩, prog_6_method_6_code, 6, none)
def mX4_setCapital : xM := (⟨RX4, "setCapital", "(I)V"⟩, prog_6_method_7_code, 2, none)
def mX4_setSeed : xM := (⟨RX4, "setSeed", "(I)V"⟩, prog_6_method_8_code, 2, none)
def mX4_townNamed : xM := (⟨RX4, "townNamed", "(J)I"⟩, prog_6_method_9_code, 4, (some .int))
def mX4_hasName : xM := (⟨RX4, "hasName", "(J)Z"⟩, prog_6_method_10_code, 4, (some .boolean))
def mX4_towns : xM := (⟨RX4, "towns", "()I"⟩, prog_6_method_11_code, 1, (some .int))
def mX4_roads : xM := (⟨RX4, "roads", "()I"⟩, prog_6_method_12_code, 1, (some .int))
def mX4_people : xM := (⟨RX4, "people", "()I"⟩, prog_6_method_13_code, 1, (some .int))
def mX4_capital : xM := (⟨RX4, "capital", "()I"⟩, prog_6_method_14_code, 1, (some .int))
def mX4_seed : xM := (⟨RX4, "seed", "()I"⟩, prog_6_method_15_code, 1, (some .int))
def mX4_laws : xM := (⟨RX4, "laws", "()LNoonRinger$Laws;"⟩, prog_6_method_16_code, 1, (some (.object "NoonRinger$Laws")))
def mX4_isTown : xM := (⟨RX4, "isTown", "(I)Z"⟩, prog_6_method_17_code, 2, (some .boolean))
def mX4_isRoad : xM := (⟨RX4, "isRoad", "(I)Z"⟩, prog_6_method_18_code, 2, (some .boolean))
def mX4_isPerson : xM := (⟨RX4, "isPerson", "(I)Z"⟩, prog_6_method_19_code, 2, (some .boolean))
def mX4_oneEndOf : xM := (⟨RX4, "oneEndOf", "(I)I"⟩, prog_6_method_20_code, 2, (some .int))
def mX4_otherEndOf : xM := (⟨RX4, "otherEndOf", "(I)I"⟩, prog_6_method_21_code, 2, (some .int))
def mX4_milesOf : xM := (⟨RX4, "milesOf", "(I)I"⟩, prog_6_method_22_code, 2, (some .int))
def mX4_honestyOf : xM := (⟨RX4, "honestyOf", "(I)I"⟩, prog_6_method_23_code, 2, (some .int))
def mX4_homeOf : xM := (⟨RX4, "homeOf", "(I)I"⟩, prog_6_method_24_code, 2, (some .int))
def mX4_firstPlaceOf : xM := (⟨RX4, "firstPlaceOf", "(I)I"⟩, prog_6_method_25_code, 2, (some .int))
def mX4_acrossFrom : xM := (⟨RX4, "acrossFrom", "(II)I"⟩, prog_6_method_26_code, 3, (some .int))
def mX5_init : xM := (⟨RX5, "<init>", "(I)V"⟩, prog_7_method_1_code, 2, none)
def mX5_keep : xM := (⟨RX5, "keep", "(ILNoonRinger$State;)V"⟩, prog_7_method_2_code, 4, none)
def mX5_take : xM := (⟨RX5, "take", "(ILNoonRinger$State;)V"⟩, prog_7_method_3_code, 4, none)
def mX6_init : xM := (⟨RX6, "<init>", "()V"⟩, prog_8_method_1_code, 1, none)
def mX6_get : xM := (⟨RX6, "get", "(I)I"⟩, prog_8_method_2_code, 2, (some .int))
def mX6_set : xM := (⟨RX6, "set", "(II)V"⟩, prog_8_method_3_code, 3, none)
def mX6_of : xM := (⟨RX6, "of", "(II)I"⟩, prog_8_method_4_code, 3, (some .int))
def mX6_setOf : xM := (⟨RX6, "setOf", "(III)V"⟩, prog_8_method_5_code, 4, none)
def mX6_begin : xM := (⟨RX6, "begin", "(LNoonRinger$Realm;)V"⟩, prog_8_method_6_code, 3, none)
def mX6_copyFrom : xM := (⟨RX6, "copyFrom", "(LNoonRinger$State;)V"⟩, prog_8_method_7_code, 2, none)
def mX6_isBarred : xM := (⟨RX6, "isBarred", "(I)Z"⟩, prog_8_method_8_code, 2, (some .boolean))
def mX6_peopleIn : xM := (⟨RX6, "peopleIn", "(II)I"⟩, prog_8_method_9_code, 5, (some .int))
def mX6_goers : xM := (⟨RX6, "goers", "(I)I"⟩, prog_8_method_10_code, 4, (some .int))
def mX6_sumOf : xM := (⟨RX6, "sumOf", "(II)I"⟩, prog_8_method_11_code, 5, (some .int))
def mX7_init : xM := (⟨RX7, "<init>", "(LNoonRinger$Realm;LNoonRinger$Ways;)V"⟩, prog_9_method_1_code, 3, none)
def mX7_openRoadsOf : xM := (⟨RX7, "openRoadsOf", "(I)I"⟩, prog_9_method_2_code, 4, (some .int))
def mX7_openMiles : xM := (⟨RX7, "openMiles", "()I"⟩, prog_9_method_3_code, 3, (some .int))
def mX7_longestWay : xM := (⟨RX7, "longestWay", "(II)I"⟩, prog_9_method_4_code, 6, (some .int))
def mX7_goOnFrom : xM := (⟨RX7, "goOnFrom", "(II)V"⟩, prog_9_method_5_code, 7, none)
def mX7_clerkTowns : xM := (⟨RX7, "clerkTowns", "()I"⟩, prog_9_method_6_code, 3, (some .int))
def mX7_seesAllRoads : xM := (⟨RX7, "seesAllRoads", "(I)Z"⟩, prog_9_method_7_code, 4, (some .boolean))
def mX7_greatestFarFrom : xM := (⟨RX7, "greatestFarFrom", "(I)I"⟩, prog_9_method_8_code, 4, (some .int))
def mX7_centralTown : xM := (⟨RX7, "centralTown", "()I"⟩, prog_9_method_9_code, 3, (some .int))
def mX7_allFarTo : xM := (⟨RX7, "allFarTo", "(ILNoonRinger$State;)I"⟩, prog_9_method_10_code, 5, (some .int))
def mX7_meetingTown : xM := (⟨RX7, "meetingTown", "(LNoonRinger$State;)I"⟩, prog_9_method_11_code, 4, (some .int))
def mX7_leastMilesToJoin : xM := (⟨RX7, "leastMilesToJoin", "()I"⟩, prog_9_method_12_code, 5, (some .int))
def mX7_shortestOutOf : xM := (⟨RX7, "shortestOutOf", "(I)I"⟩, prog_9_method_13_code, 6, (some .int))
def mX8_init : xM := (⟨RX8, "<init>", "()V"⟩, prog_10_method_1_code, 1, none)
def mX8_size : xM := (⟨RX8, "size", "()I"⟩, prog_10_method_2_code, 1, (some .int))
def mX8_clear : xM := (⟨RX8, "clear", "()V"⟩, prog_10_method_3_code, 1, none)
def mX8_hasRoomForFive : xM := (⟨RX8, "hasRoomForFive", "()Z"⟩, prog_10_method_4_code, 1, (some .boolean))
def mX8_append : xM := (⟨RX8, "append", "(I)V"⟩, prog_10_method_5_code, 3, none)
def mX8_cut : xM := (⟨RX8, "cut", "(I)Z"⟩, prog_10_method_6_code, 2, (some .boolean))
def mX8_byteAt : xM := (⟨RX8, "byteAt", "(I)I"⟩, prog_10_method_7_code, 2, (some .int))
def mX9_init : xM := (⟨RX9, "<init>", "()V"⟩, prog_11_method_1_code, 6, none)
def mX9_withLetter : xM := (⟨RX9, "withLetter", "(JI)J"⟩, prog_11_method_2_code, 3, (some .long))
def mX9_kindAt : xM := (⟨RX9, "kindAt", "(I)I"⟩, prog_11_method_3_code, 2, (some .int))
def mX9_startOf : xM := (⟨RX9, "startOf", "(I)I"⟩, prog_11_method_4_code, 2, (some .int))
def mX9_valueOf : xM := (⟨RX9, "valueOf", "(I)J"⟩, prog_11_method_5_code, 2, (some .long))
def mX9_scan : xM := (⟨RX9, "scan", "(LNoonRinger$Tape;)V"⟩, prog_11_method_6_code, 7, none)
def mX9_kindBegunBy : xM := (⟨RX9, "kindBegunBy", "(I)I"⟩, prog_11_method_7_code, 2, (some .int))
def mX9_begin : xM := (⟨RX9, "begin", "(II)V"⟩, prog_11_method_8_code, 3, none)
def mX9_grow : xM := (⟨RX9, "grow", "(III)V"⟩, prog_11_method_9_code, 8, none)
def mX9_kindOfWord : xM := (⟨RX9, "kindOfWord", "(J)I"⟩, prog_11_method_10_code, 4, (some .int))
def mX10_init : xM := (⟨RX10, "<init>", "(LNoonRinger$Realm;)V"⟩, prog_12_method_1_code, 2, none)
def mX10_measure : xM := (⟨RX10, "measure", "(I)V"⟩, prog_12_method_2_code, 5, none)
def mX10_shorten : xM := (⟨RX10, "shorten", "(III)V"⟩, prog_12_method_3_code, 4, none)
def mX10_between : xM := (⟨RX10, "between", "(II)I"⟩, prog_12_method_4_code, 3, (some .int))
def mX10_isOpen : xM := (⟨RX10, "isOpen", "(I)Z"⟩, prog_12_method_5_code, 2, (some .boolean))
def mX10_roadToward : xM := (⟨RX10, "roadToward", "(II)I"⟩, prog_12_method_6_code, 8, (some .int))
def mX11_init : xM := (⟨RX11, "<init>", "()V"⟩, prog_1_method_1_code, 1, none)
def mX11_feed : xM := (⟨RX11, "feed", "(IIIII)I"⟩, prog_1_method_2_code, 6, (some .int))
def mX11_back : xM := (⟨RX11, "back", "(I)I"⟩, prog_1_method_3_code, 2, (some .int))
def mX11_read : xM := (⟨RX11, "read", "()I"⟩, prog_1_method_4_code, 2, (some .int))
def mX11_place : xM := (⟨RX11, "place", "()I"⟩, prog_1_method_5_code, 1, (some .int))
def mX11_beginAnew : xM := (⟨RX11, "beginAnew", "()V"⟩, prog_1_method_6_code, 1, none)
def mX11_town : xM := (⟨RX11, "town", "(II)I"⟩, prog_1_method_7_code, 3, (some .int))
def mX11_road : xM := (⟨RX11, "road", "(II)I"⟩, prog_1_method_8_code, 3, (some .int))
def mX11_person : xM := (⟨RX11, "person", "(II)I"⟩, prog_1_method_9_code, 3, (some .int))
def mX11_send : xM := (⟨RX11, "send", "(II)Z"⟩, prog_1_method_10_code, 4, (some .boolean))
def mX11_close : xM := (⟨RX11, "close", "(IZ)Z"⟩, prog_1_method_11_code, 3, (some .boolean))
def mX11_admit : xM := (⟨RX11, site_515.name, "(I)Z"⟩, prog_1_method_12_code, 2, (some .boolean))
def mX11_days : xM := (⟨RX11, "days", "(I)I"⟩, prog_1_method_13_code, 3, (some .int))
def mX11_undo : xM := (⟨RX11, "undo", "()Z"⟩, prog_1_method_14_code, 1, (some .boolean))
def mX11_remember : xM := (⟨RX11, "remember", "()V"⟩, prog_1_method_15_code, 1, none)
def mX11_ringer : xM := (⟨RX11, "ringer", "()I"⟩, prog_1_method_16_code, 1, (some .int))
def mX11_far : xM := (⟨RX11, "far", "(II)I"⟩, prog_1_method_17_code, 3, (some .int))
def mX11_longest : xM := (⟨RX11, "longest", "(II)I"⟩, prog_1_method_18_code, 3, (some .int))
def mX11_liars : xM := (⟨RX11, "liars", "()I"⟩, prog_1_method_19_code, 3, (some .int))
def mX11_truth : xM := (⟨RX11, "truth", "()I"⟩, prog_1_method_20_code, 1, (some .int))
def mX11_turns : xM := (⟨RX11, "turns", "()I"⟩, prog_1_method_21_code, 4, (some .int))
def mX11_wish : xM := (⟨RX11, "wish", "(I)I"⟩, prog_1_method_22_code, 4, (some .int))
def mX11_ringerWithout : xM := (⟨RX11, "ringerWithout", "(I)I"⟩, prog_1_method_23_code, 2, (some .int))
def mX11_when : xM := (⟨RX11, "when", "(I)I"⟩, prog_1_method_24_code, 2, (some .int))
def mX11_soonest : xM := (⟨RX11, "soonest", "(I)I"⟩, prog_1_method_25_code, 3, (some .int))
def mX11_firstNoonOf : xM := (⟨RX11, "firstNoonOf", "(I)I"⟩, prog_1_method_26_code, 3, (some .int))
def mX11_often : xM := (⟨RX11, "often", "(II)I"⟩, prog_1_method_27_code, 3, (some .int))
def mX11_rings : xM := (⟨RX11, "rings", "(I)I"⟩, prog_1_method_28_code, 2, (some .int))
def mX11_goOnTrusting : xM := (⟨RX11, "goOnTrusting", "(I)V"⟩, prog_1_method_29_code, 3, none)
def mX11_walks : xM := (⟨RX11, "walks", "(I)I"⟩, prog_1_method_30_code, 2, (some .int))
def mX11_stranger : xM := (⟨RX11, "stranger", "(I)I"⟩, prog_1_method_31_code, 3, (some .int))
def mX11_clerks : xM := (⟨RX11, "clerks", "(I)I"⟩, prog_1_method_32_code, 3, (some .int))
def mX11_centre : xM := (⟨RX11, "centre", "(I)I"⟩, prog_1_method_33_code, 3, (some .int))
def mX11_meet : xM := (⟨RX11, "meet", "(I)I"⟩, prog_1_method_34_code, 3, (some .int))
def mX11_tree : xM := (⟨RX11, "tree", "()I"⟩, prog_1_method_35_code, 1, (some .int))
def mX11_bridges : xM := (⟨RX11, "bridges", "()I"⟩, prog_1_method_36_code, 4, (some .int))
def mX11_steps : xM := (⟨RX11, "steps", "(II)I"⟩, prog_1_method_37_code, 5, (some .int))
def mX11_then : xM := (⟨RX11, "then", "(II)I"⟩, prog_1_method_38_code, 3, (some .int))
def mX11_rungIn : xM := (⟨RX11, "rungIn", "(II)I"⟩, prog_1_method_39_code, 3, (some .int))
def mX11_barredIn : xM := (⟨RX11, "barredIn", "(I)I"⟩, prog_1_method_40_code, 2, (some .int))
def mX11_year : xM := (⟨RX11, "year", "(III)I"⟩, prog_1_method_41_code, 6, (some .int))
def mX11_goOnDoubting : xM := (⟨RX11, "goOnDoubting", "(II)V"⟩, prog_1_method_42_code, 4, none)
def mX11_tell : xM := (⟨RX11, "tell", "(IZ)I"⟩, prog_1_method_43_code, 3, (some .int))
def mX11_forget : xM := (⟨RX11, "forget", "()I"⟩, prog_1_method_44_code, 2, (some .int))
def mX11_whence : xM := (⟨RX11, "whence", "(III)I"⟩, prog_1_method_45_code, 5, (some .int))
def mX11_listen : xM := (⟨RX11, "listen", "(II)I"⟩, prog_1_method_46_code, 3, (some .int))
def mX11_isKnown : xM := (⟨RX11, "isKnown", "(I)Z"⟩, prog_1_method_47_code, 2, (some .boolean))
def mX11_hold : xM := (⟨RX11, "hold", "(I)Z"⟩, prog_1_method_48_code, 2, (some .boolean))
def mX11_restore : xM := (⟨RX11, "restore", "(I)Z"⟩, prog_1_method_49_code, 2, (some .boolean))
def mX11_count : xM := (⟨RX11, "count", "(I)I"⟩, prog_1_method_50_code, 2, (some .int))
def mX11_isSpan : xM := (⟨RX11, "isSpan", "(I)Z"⟩, prog_1_method_51_code, 1, (some .boolean))
def mX11_isSlot : xM := (⟨RX11, "isSlot", "(I)Z"⟩, prog_1_method_52_code, 1, (some .boolean))
def mX11_bit : xM := (⟨RX11, "bit", "(I)I"⟩, prog_1_method_53_code, 1, (some .int))
def mX11_at : xM := (⟨RX11, "at", "([II)I"⟩, prog_1_method_54_code, 2, (some .int))
def mX11_put : xM := (⟨RX11, "put", "([III)V"⟩, prog_1_method_55_code, 3, none)
def mX11_longAt : xM := (⟨RX11, "longAt", "([JI)J"⟩, prog_1_method_56_code, 2, (some .long))
def mX11_putLong : xM := (⟨RX11, "putLong", "([JIJ)V"⟩, prog_1_method_57_code, 4, none)
def mX11_copyAll : xM := (⟨RX11, "copyAll", "([I[I)V"⟩, prog_1_method_58_code, 3, none)
def mX12_init : xM := (⟨RX12, "<init>", "()V"⟩, prog_14_method_2_code, 1, none)
def mX12_feed : xM := (⟨RX12, "feed", "(IIIII)I"⟩, prog_14_method_3_code, 6, (some .int))
def mX12_lays : xM := (⟨RX12, "lays", "(I)V"⟩, prog_14_method_4_code, 3, none)
def mX12_back : xM := (⟨RX12, "back", "(I)I"⟩, prog_14_method_5_code, 2, (some .int))
def mX12_byteAt : xM := (⟨RX12, "byteAt", "(I)I"⟩, prog_14_method_6_code, 2, (some .int))
def mX12_isDigit : xM := (⟨RX12, "isDigit", "(I)Z"⟩, prog_14_method_7_code, 1, (some .boolean))
def mX12_isLetter : xM := (⟨RX12, "isLetter", "(I)Z"⟩, prog_14_method_8_code, 1, (some .boolean))
def mX12_appends : xM := (⟨RX12, "appends", "(JI)J"⟩, prog_14_method_9_code, 3, (some .long))
def mX12_letters : xM := (⟨RX12, "letters", "(IIIIIII)J"⟩, prog_14_method_10_code, 7, (some .long))
def mX12_token : xM := (⟨RX12, "token", "(IIIJ)V"⟩, prog_14_method_11_code, 6, none)
def mX12_cut : xM := (⟨RX12, "cut", "()V"⟩, prog_14_method_12_code, 8, none)
def mX12_sign : xM := (⟨RX12, "sign", "(III)I"⟩, prog_14_method_13_code, 5, (some .int))
def mX12_is : xM := (⟨RX12, "is", "(I)Z"⟩, prog_14_method_14_code, 2, (some .boolean))
def mX12_fail : xM := (⟨RX12, "fail", "(I)V"⟩, prog_14_method_15_code, 2, none)
def mX12_wrong : xM := (⟨RX12, "wrong", "(II)V"⟩, prog_14_method_16_code, 4, none)
def mX12_goesOn : xM := (⟨RX12, "goesOn", "()V"⟩, prog_14_method_17_code, 1, none)
def mX12_must : xM := (⟨RX12, "must", "(I)V"⟩, prog_14_method_18_code, 2, none)
def mX12_plain : xM := (⟨RX12, "plain", "(I)V"⟩, prog_14_method_19_code, 3, none)
def mX12_read : xM := (⟨RX12, "read", "()I"⟩, prog_14_method_20_code, 2, (some .int))
def mX12_place : xM := (⟨RX12, "place", "()I"⟩, prog_14_method_21_code, 1, (some .int))
def mX12_roomFor : xM := (⟨RX12, "roomFor", "(II)V"⟩, prog_14_method_22_code, 3, none)
def mX12_tellOne : xM := (⟨RX12, "tellOne", "()V"⟩, prog_14_method_23_code, 2, none)
def mX12_named : xM := (⟨RX12, "named", "()I"⟩, prog_14_method_24_code, 3, (some .int))
def mX12_endsName : xM := (⟨RX12, "endsName", "(II)V"⟩, prog_14_method_25_code, 3, none)
def mX12_known : xM := (⟨RX12, "known", "()I"⟩, prog_14_method_26_code, 3, (some .int))
def mX12_bounded : xM := (⟨RX12, "bounded", "(II)I"⟩, prog_14_method_27_code, 4, (some .int))
def mX12_tellRoad : xM := (⟨RX12, "tellRoad", "()V"⟩, prog_14_method_28_code, 3, none)
def mX12_tellPerson : xM := (⟨RX12, "tellPerson", "()V"⟩, prog_14_method_29_code, 3, none)
def mX12_tellLaw : xM := (⟨RX12, "tellLaw", "(I)V"⟩, prog_14_method_30_code, 4, none)
def mX12_term : xM := (⟨RX12, "term", "()V"⟩, prog_14_method_31_code, 1, none)
def mX12_emit : xM := (⟨RX12, "emit", "(II)V"⟩, prog_14_method_32_code, 3, none)
def mX12_comesOut : xM := (⟨RX12, "comesOut", "(Z)V"⟩, prog_14_method_33_code, 3, none)
def mX12_expression : xM := (⟨RX12, "expression", "()V"⟩, prog_14_method_34_code, 3, none)
def mX12_unit : xM := (⟨RX12, "unit", "()V"⟩, prog_14_method_35_code, 1, none)
def mX12_termOf : xM := (⟨RX12, "termOf", "(II)I"⟩, prog_14_method_36_code, 8, (some .int))
def mX12_in : xM := (⟨RX12, "in", "(III)Z"⟩, prog_14_method_37_code, 3, (some .boolean))
def mX12_within : xM := (⟨RX12, "within", "(III)I"⟩, prog_14_method_38_code, 3, (some .int))
def mX12_bits : xM := (⟨RX12, "bits", "(I)I"⟩, prog_14_method_39_code, 3, (some .int))
def mX12_isTown : xM := (⟨RX12, "isTown", "(I)Z"⟩, prog_14_method_40_code, 2, (some .boolean))
def mX12_isRoad : xM := (⟨RX12, "isRoad", "(I)Z"⟩, prog_14_method_41_code, 2, (some .boolean))
def mX12_isPerson : xM := (⟨RX12, "isPerson", "(I)Z"⟩, prog_14_method_42_code, 2, (some .boolean))
def mX12_homeAt : xM := (⟨RX12, "homeAt", "(I)I"⟩, prog_14_method_43_code, 2, (some .int))
def mX12_begins : xM := (⟨RX12, "begins", "()V"⟩, prog_14_method_44_code, 2, none)
def mX12_keepsRow : xM := (⟨RX12, "keepsRow", "()V"⟩, prog_14_method_45_code, 2, none)
def mX12_fillsFar : xM := (⟨RX12, "fillsFar", "()V"⟩, prog_14_method_46_code, 4, none)
def mX12_copies : xM := (⟨RX12, "copies", "()V"⟩, prog_14_method_47_code, 2, none)
def mX12_copiesStill : xM := (⟨RX12, "copiesStill", "()V"⟩, prog_14_method_48_code, 1, none)
def mX12_mixed : xM := (⟨RX12, "mixed", "(II)I"⟩, prog_14_method_49_code, 3, (some .int))
def mX12_lotOf : xM := (⟨RX12, "lotOf", "(I)I"⟩, prog_14_method_50_code, 2, (some .int))
def mX12_isOpen : xM := (⟨RX12, "isOpen", "(I)Z"⟩, prog_14_method_51_code, 2, (some .boolean))
def mX12_isEnd : xM := (⟨RX12, "isEnd", "(II)Z"⟩, prog_14_method_52_code, 3, (some .boolean))
def mX12_otherEnd : xM := (⟨RX12, "otherEnd", "(II)I"⟩, prog_14_method_53_code, 3, (some .int))
def mX12_isThere : xM := (⟨RX12, "isThere", "(I)Z"⟩, prog_14_method_54_code, 2, (some .boolean))
def mX12_thereBits : xM := (⟨RX12, "thereBits", "()I"⟩, prog_14_method_55_code, 3, (some .int))
def mX12_lawTells : xM := (⟨RX12, "lawTells", "(II)I"⟩, prog_14_method_56_code, 7, (some .int))
def mX12_looks : xM := (⟨RX12, "looks", "(II)V"⟩, prog_14_method_57_code, 3, none)
def mX12_farFrom : xM := (⟨RX12, "farFrom", "(I)I"⟩, prog_14_method_58_code, 2, (some .int))
def mX12_farOf : xM := (⟨RX12, "farOf", "(I)I"⟩, prog_14_method_59_code, 2, (some .int))
def mX12_claimBy : xM := (⟨RX12, "claimBy", "(II)I"⟩, prog_14_method_60_code, 3, (some .int))
def mX12_claimOf : xM := (⟨RX12, "claimOf", "(I)I"⟩, prog_14_method_61_code, 2, (some .int))
def mX12_toldBy : xM := (⟨RX12, "toldBy", "(III)I"⟩, prog_14_method_62_code, 5, (some .int))
def mX12_strokesBy : xM := (⟨RX12, "strokesBy", "(II)I"⟩, prog_14_method_63_code, 3, (some .int))
def mX12_giftsOf : xM := (⟨RX12, "giftsOf", "(I)I"⟩, prog_14_method_64_code, 2, (some .int))
def mX12_doubtsOf : xM := (⟨RX12, "doubtsOf", "(I)I"⟩, prog_14_method_65_code, 2, (some .int))
def mX12_doesLie : xM := (⟨RX12, "doesLie", "(I)Z"⟩, prog_14_method_66_code, 2, (some .boolean))
def mX12_mayRing : xM := (⟨RX12, "mayRing", "(I)Z"⟩, prog_14_method_67_code, 2, (some .boolean))
def mX12_ringerBy : xM := (⟨RX12, "ringerBy", "(Z)I"⟩, prog_14_method_68_code, 6, (some .int))
def mX12_ringerNow : xM := (⟨RX12, "ringerNow", "()I"⟩, prog_14_method_69_code, 1, (some .int))
def mX12_roadFor : xM := (⟨RX12, "roadFor", "(II)I"⟩, prog_14_method_70_code, 8, (some .int))
def mX12_roadOf : xM := (⟨RX12, "roadOf", "(I)I"⟩, prog_14_method_71_code, 2, (some .int))
def mX12_walksOne : xM := (⟨RX12, "walksOne", "(I)V"⟩, prog_14_method_72_code, 3, none)
def mX12_noonRings : xM := (⟨RX12, "noonRings", "()V"⟩, prog_14_method_73_code, 3, none)
def mX12_goes : xM := (⟨RX12, "goes", "(I)V"⟩, prog_14_method_74_code, 3, none)
def mX12_town : xM := (⟨RX12, "town", "(II)I"⟩, prog_14_method_75_code, 3, (some .int))
def mX12_roadBits : xM := (⟨RX12, "roadBits", "(I)I"⟩, prog_14_method_76_code, 4, (some .int))
def mX12_whoAt : xM := (⟨RX12, "whoAt", "(I)I"⟩, prog_14_method_77_code, 4, (some .int))
def mX12_road : xM := (⟨RX12, "road", "(II)I"⟩, prog_14_method_78_code, 3, (some .int))
def mX12_person : xM := (⟨RX12, "person", "(II)I"⟩, prog_14_method_79_code, 3, (some .int))
def mX12_records : xM := (⟨RX12, "records", "()V"⟩, prog_14_method_80_code, 2, none)
def mX12_does : xM := (⟨RX12, "does", "(II)Z"⟩, prog_14_method_81_code, 3, (some .boolean))
def mX12_send : xM := (⟨RX12, "send", "(II)Z"⟩, prog_14_method_82_code, 4, (some .boolean))
def mX12_close : xM := (⟨RX12, "close", "(IZ)Z"⟩, prog_14_method_83_code, 3, (some .boolean))
def mX12_admit : xM := (⟨RX12, site_524.name, "(I)Z"⟩, prog_14_method_84_code, 2, (some .boolean))
def mX12_isLong : xM := (⟨RX12, "isLong", "(I)Z"⟩, prog_14_method_85_code, 1, (some .boolean))
def mX12_days : xM := (⟨RX12, "days", "(I)I"⟩, prog_14_method_86_code, 2, (some .int))
def mX12_undo : xM := (⟨RX12, "undo", "()Z"⟩, prog_14_method_87_code, 2, (some .boolean))
def mX12_ringer : xM := (⟨RX12, "ringer", "()I"⟩, prog_14_method_88_code, 1, (some .int))
def mX12_far : xM := (⟨RX12, "far", "(II)I"⟩, prog_14_method_89_code, 3, (some .int))
def mX12_liars : xM := (⟨RX12, "liars", "()I"⟩, prog_14_method_90_code, 3, (some .int))
def mX12_truth : xM := (⟨RX12, "truth", "()I"⟩, prog_14_method_91_code, 1, (some .int))
def mX12_ringerWithout : xM := (⟨RX12, "ringerWithout", "(I)I"⟩, prog_14_method_92_code, 2, (some .int))
def mX12_isOpenNow : xM := (⟨RX12, "isOpenNow", "(I)Z"⟩, prog_14_method_93_code, 2, (some .boolean))
def mX12_turns : xM := (⟨RX12, "turns", "()I"⟩, prog_14_method_94_code, 4, (some .int))
def mX12_wish : xM := (⟨RX12, "wish", "(I)I"⟩, prog_14_method_95_code, 4, (some .int))
def mX12_whenRings : xM := (⟨RX12, "whenRings", "(I)I"⟩, prog_14_method_96_code, 3, (some .int))
def mX12_when : xM := (⟨RX12, "when", "(I)I"⟩, prog_14_method_97_code, 2, (some .int))
def mX12_sendsIn : xM := (⟨RX12, "sendsIn", "(I)V"⟩, prog_14_method_98_code, 2, none)
def mX12_soonest : xM := (⟨RX12, "soonest", "(I)I"⟩, prog_14_method_99_code, 2, (some .int))
def mX12_often : xM := (⟨RX12, "often", "(II)I"⟩, prog_14_method_100_code, 3, (some .int))
def mX12_rings : xM := (⟨RX12, "rings", "(I)I"⟩, prog_14_method_101_code, 2, (some .int))
def mX12_walks : xM := (⟨RX12, "walks", "(I)I"⟩, prog_14_method_102_code, 2, (some .int))
def mX12_stranger : xM := (⟨RX12, "stranger", "(I)I"⟩, prog_14_method_103_code, 4, (some .int))
def mX12_longest : xM := (⟨RX12, "longest", "(II)I"⟩, prog_14_method_104_code, 8, (some .int))
def mX12_clerks : xM := (⟨RX12, "clerks", "(I)I"⟩, prog_14_method_105_code, 6, (some .int))
def mX12_widestOf : xM := (⟨RX12, "widestOf", "(I)I"⟩, prog_14_method_106_code, 4, (some .int))
def mX12_sumTo : xM := (⟨RX12, "sumTo", "(I)I"⟩, prog_14_method_107_code, 4, (some .int))
def mX12_leastTown : xM := (⟨RX12, "leastTown", "(ZI)I"⟩, prog_14_method_108_code, 7, (some .int))
def mX12_centre : xM := (⟨RX12, "centre", "(I)I"⟩, prog_14_method_109_code, 2, (some .int))
def mX12_meet : xM := (⟨RX12, "meet", "(I)I"⟩, prog_14_method_110_code, 2, (some .int))
def mX12_tree : xM := (⟨RX12, "tree", "()I"⟩, prog_14_method_111_code, 8, (some .int))
def mX12_bridges : xM := (⟨RX12, "bridges", "()I"⟩, prog_14_method_112_code, 3, (some .int))
def mX12_steps : xM := (⟨RX12, "steps", "(II)I"⟩, prog_14_method_113_code, 6, (some .int))
def mX12_then : xM := (⟨RX12, "then", "(II)I"⟩, prog_14_method_114_code, 3, (some .int))
def mX12_rungIn : xM := (⟨RX12, "rungIn", "(II)I"⟩, prog_14_method_115_code, 3, (some .int))
def mX12_barredBits : xM := (⟨RX12, "barredBits", "()I"⟩, prog_14_method_116_code, 3, (some .int))
def mX12_barredIn : xM := (⟨RX12, "barredIn", "(I)I"⟩, prog_14_method_117_code, 2, (some .int))
def mX12_year : xM := (⟨RX12, "year", "(III)I"⟩, prog_14_method_118_code, 6, (some .int))
def mX12_isStrokes : xM := (⟨RX12, "isStrokes", "(I)Z"⟩, prog_14_method_119_code, 1, (some .boolean))
def mX12_tell : xM := (⟨RX12, "tell", "(IZ)I"⟩, prog_14_method_120_code, 3, (some .int))
def mX12_forget : xM := (⟨RX12, "forget", "()I"⟩, prog_14_method_121_code, 2, (some .int))
def mX12_whenceBits : xM := (⟨RX12, "whenceBits", "(II)I"⟩, prog_14_method_122_code, 7, (some .int))
def mX12_whence : xM := (⟨RX12, "whence", "(III)I"⟩, prog_14_method_123_code, 5, (some .int))
def mX12_listen : xM := (⟨RX12, "listen", "(II)I"⟩, prog_14_method_124_code, 9, (some .int))
def mX12_hold : xM := (⟨RX12, "hold", "(I)Z"⟩, prog_14_method_125_code, 3, (some .boolean))
def mX12_restore : xM := (⟨RX12, "restore", "(I)Z"⟩, prog_14_method_126_code, 3, (some .boolean))
def mX12_sumNow : xM := (⟨RX12, "sumNow", "(I)I"⟩, prog_14_method_127_code, 4, (some .int))
def mX12_count : xM := (⟨RX12, "count", "(I)I"⟩, prog_14_method_128_code, 4, (some .int))
def mJ11_isValidCodePoint_9a6ad : xM := (⟨RJ11, "isValidCodePoint", "(I)Z"⟩, prog_15_method_11_code, 2, (some .boolean))
def mJ11_highSurrogate_5068e : xM := (⟨RJ11, "highSurrogate", "(I)C"⟩, prog_15_method_28_code, 1, (some .char))
def mJ11_lowSurrogate_5068e : xM := (⟨RJ11, "lowSurrogate", "(I)C"⟩, prog_15_method_29_code, 1, (some .char))
def mJ6_bitCount_0f7a4 : xM := (⟨RJ6, "bitCount", "(I)I"⟩, prog_16_method_49_code, 1, (some .int))
def mJ9_max_7cf53 : xM := (⟨RJ9, "max", "(II)I"⟩, prog_17_method_65_code, 2, (some .int))
def mJ9_min_7cf53 : xM := (⟨RJ9, "min", "(II)I"⟩, prog_17_method_69_code, 2, (some .int))
def mJ0_length_8abf5 : xM := (⟨RJ0, "length", "()I"⟩, prog_18_method_54_code, 1, (some .int))
def mJ0_charAt_5068e : xM := (⟨RJ0, "charAt", "(I)C"⟩, prog_18_method_56_code, 2, (some .char))
def mJ0_indexOf_0f7a4 : xM := (⟨RJ0, "indexOf", "(I)I"⟩, prog_18_method_79_code, 2, (some .int))
def mJ0_indexOf_7cf53 : xM := (⟨RJ0, "indexOf", "(II)I"⟩, prog_18_method_80_code, 3, (some .int))
def mJ0_coder_7d493 : xM := (⟨RJ0, "coder", "()B"⟩, prog_18_method_152_code, 1, (some .byte))
def mJ0_isLatin1_aae02 : xM := (⟨RJ0, "isLatin1", "()Z"⟩, prog_18_method_154_code, 1, (some .boolean))
def mJ0_checkIndex_df160 : xM := (⟨RJ0, "checkIndex", "(II)V"⟩, prog_18_method_155_code, 2, none)
def mJ0_checkBoundsBeginEnd_23922 : xM := (⟨RJ0, "checkBoundsBeginEnd", "(III)V"⟩, prog_18_method_158_code, 3, none)
def mJ1_charAt_3b067 : xM := (⟨RJ1, "charAt", "([BI)C"⟩, prog_19_method_2_code, 2, (some .char))
def mJ1_canEncode_9a6ad : xM := (⟨RJ1, "canEncode", "(I)Z"⟩, prog_19_method_4_code, 1, (some .boolean))
def mJ1_indexOf_4cfef : xM := (⟨RJ1, "indexOf", "([BIII)I"⟩, prog_19_method_22_code, 4, (some .int))
def mJ1_indexOfChar_4cfef : xM := (⟨RJ1, "indexOfChar", "([BIII)I"⟩, prog_19_method_23_code, 6, (some .int))
def mJ2_getChar_3b067 : xM := (⟨RJ2, "getChar", "([BI)C"⟩, prog_20_method_5_code, 2, (some .char))
def mJ2_length_9d52b : xM := (⟨RJ2, "length", "([B)I"⟩, prog_20_method_6_code, 1, (some .int))
def mJ2_indexOf_4cfef : xM := (⟨RJ2, "indexOf", "([BIII)I"⟩, prog_20_method_40_code, 4, (some .int))
def mJ2_indexOfChar_4cfef : xM := (⟨RJ2, "indexOfChar", "([BIII)I"⟩, prog_20_method_47_code, 4, (some .int))
def mJ2_indexOfCharUnsafe_4cfef : xM := (⟨RJ2, "indexOfCharUnsafe", "([BIII)I"⟩, prog_20_method_48_code, 5, (some .int))
def mJ2_indexOfSupplementary_4cfef : xM := (⟨RJ2, "indexOfSupplementary", "([BIII)I"⟩, prog_20_method_49_code, 7, (some .int))
def mJ2_charAt_3b067 : xM := (⟨RJ2, "charAt", "([BI)C"⟩, prog_20_method_83_code, 2, (some .char))
def mJ2_checkIndex_2214a : xM := (⟨RJ2, "checkIndex", "(I[B)V"⟩, prog_20_method_91_code, 2, none)
def mJ2_checkBoundsBeginEnd_d044e : xM := (⟨RJ2, "checkBoundsBeginEnd", "(II[B)V"⟩, prog_20_method_93_code, 3, none)
def mJ3_checkIndex_8e157 : xM := (⟨RJ3, "checkIndex", "(IILjava/util/function/BiFunction;)I"⟩, prog_21_method_11_code, 3, (some .int))
def mJ3_checkFromToIndex_8c36e : xM := (⟨RJ3, "checkFromToIndex", "(IIILjava/util/function/BiFunction;)I"⟩, prog_21_method_12_code, 4, (some .int))
abbrev xIxW : Nat := 23
abbrev xTxW : String := "town road person capital claims strokes gifts doubts seed if then else far walked honest rung day which claim there purse "
abbrev xIxS : Nat := 97
abbrev xTxS : String := ";=+-*/<()"
abbrev xLens : List Nat := [122, 9]
abbrev xByts : List (List Int32) := [[116, 111, 119, 110, 32, 114, 111, 97, 100, 32, 112, 101, 114, 115, 111, 110, 32, 99, 97, 112, 105, 116, 97, 108, 32, 99, 108, 97, 105, 109, 115, 32, 115, 116, 114, 111, 107, 101, 115, 32, 103, 105, 102, 116, 115, 32, 100, 111, 117, 98, 116, 115, 32, 115, 101, 101, 100, 32, 105, 102, 32, 116, 104, 101, 110, 32, 101, 108, 115, 101, 32, 102, 97, 114, 32, 119, 97, 108, 107, 101, 100, 32, 104, 111, 110, 101, 115, 116, 32, 114, 117, 110, 103, 32, 100, 97, 121, 32, 119, 104, 105, 99, 104, 32, 99, 108, 97, 105, 109, 32, 116, 104, 101, 114, 101, 32, 112, 117, 114, 115, 101, 32], [59, 61, 43, 45, 42, 47, 60, 40, 41]]
abbrev xNest : List (String × Nat × MethodName × String) := [("NoonRinger", 9, ⟨"NoonRinger$Tape", "<init>", "()V"⟩, "NoonRinger"), ("NoonRinger", 18, ⟨"NoonRinger$Realm", "<init>", "()V"⟩, "NoonRinger"), ("NoonRinger$Realm", 39, ⟨"NoonRinger$Laws", "<init>", "()V"⟩, "NoonRinger"), ("NoonRinger$Tokens", 35, ⟨"NoonRinger", "putLong", "([JIJ)V"⟩, "NoonRinger"), ("NoonRinger$Reader", 20, ⟨"NoonRinger$Realm", "<init>", "()V"⟩, "NoonRinger"), ("NoonRinger", 65, ⟨"NoonRinger$State", "<init>", "()V"⟩, "NoonRinger"), ("NoonRinger$Laws", 42, ⟨"NoonRinger", "put", "([III)V"⟩, "NoonRinger"), ("NoonRinger$State", 19, ⟨"NoonRinger", "put", "([III)V"⟩, "NoonRinger"), ("NoonRinger$Realm", 87, ⟨"NoonRinger", "at", "([II)I"⟩, "NoonRinger"), ("NoonRinger$State", 15, ⟨"NoonRinger", "at", "([II)I"⟩, "NoonRinger"), ("NoonRinger$Ways", 68, ⟨"NoonRinger", "bit", "(I)I"⟩, "NoonRinger"), ("NoonRinger$Ways", 61, ⟨"NoonRinger", "at", "([II)I"⟩, "NoonRinger"), ("NoonRinger$Ways", 54, ⟨"NoonRinger", "put", "([III)V"⟩, "NoonRinger"), ("NoonRinger$Tokens", 93, ⟨"NoonRinger", "put", "([III)V"⟩, "NoonRinger"), ("NoonRinger$Tokens", 51, ⟨"NoonRinger", "at", "([II)I"⟩, "NoonRinger"), ("NoonRinger$Tokens", 58, ⟨"NoonRinger", "longAt", "([JI)J"⟩, "NoonRinger"), ("NoonRinger$Realm", 79, ⟨"NoonRinger", "longAt", "([JI)J"⟩, "NoonRinger"), ("NoonRinger$Realm", 71, ⟨"NoonRinger", "putLong", "([JIJ)V"⟩, "NoonRinger"), ("NoonRinger$Realm", 75, ⟨"NoonRinger", "put", "([III)V"⟩, "NoonRinger"), ("NoonRinger$Reader", 174, ⟨"NoonRinger", "put", "([III)V"⟩, "NoonRinger"), ("NoonRinger$Reader", 178, ⟨"NoonRinger", "at", "([II)I"⟩, "NoonRinger"), ("NoonRinger$Realm", 63, ⟨"NoonRinger", "copyAll", "([I[I)V"⟩, "NoonRinger"), ("NoonRinger$Laws", 38, ⟨"NoonRinger", "copyAll", "([I[I)V"⟩, "NoonRinger"), ("NoonRinger$Survey", 39, ⟨"NoonRinger", "bit", "(I)I"⟩, "NoonRinger"), ("NoonRinger$State", 48, ⟨"NoonRinger", "bit", "(I)I"⟩, "NoonRinger"), ("NoonRinger$Judge", 45, ⟨"NoonRinger", "put", "([III)V"⟩, "NoonRinger"), ("NoonRinger$Laws", 46, ⟨"NoonRinger", "at", "([II)I"⟩, "NoonRinger"), ("NoonRinger$Shelf", 25, ⟨"NoonRinger", "put", "([III)V"⟩, "NoonRinger"), ("NoonRinger$Judge", 116, ⟨"NoonRinger", "bit", "(I)I"⟩, "NoonRinger"), ("NoonRinger$Shelf", 31, ⟨"NoonRinger", "at", "([II)I"⟩, "NoonRinger"), ("NoonRinger$Survey", 46, ⟨"NoonRinger", "put", "([III)V"⟩, "NoonRinger"), ("NoonRinger$Survey", 53, ⟨"NoonRinger", "at", "([II)I"⟩, "NoonRinger"), ("NoonRinger$State", 41, ⟨"NoonRinger", "copyAll", "([I[I)V"⟩, "NoonRinger"), ("NoonRinger$Hearsay", 34, ⟨"NoonRinger", "put", "([III)V"⟩, "NoonRinger"), ("NoonRinger$Hearsay", 60, ⟨"NoonRinger", "at", "([II)I"⟩, "NoonRinger"), ("NoonRinger$Hearsay", 56, ⟨"NoonRinger", "bit", "(I)I"⟩, "NoonRinger")]
