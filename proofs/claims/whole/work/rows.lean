section
-- ===== PART A: goes FIRST, ahead of the names: the tables' words, and 'selects' of the private methods out of them =====
/-- a private method of a class that the tables say can be made, by its rows of tables_1 -/
def lw_okq (q : MethodName × Nat) : Prop := (q.1.cls ≠ "java/lang/invoke/MethodHandle" ∧ q.1.cls ≠ "java/lang/invoke/VarHandle") ∧ Cond.instantiable q.1.cls q.2 ∈ tables_1 ∧ Cond.privateMethod q.1 ∈ tables_1 ∧ Cond.instanceMethod q.1 ∈ tables_1
theorem lw_p0 : lw_okq (⟨"KeyStreets$Page", "belongs", "(I)Z"⟩, 2) := ⟨⟨by decide +kernel, by decide +kernel⟩, List.mem_of_getElem? (i := 29) (by decide +kernel), List.mem_of_getElem? (i := 203) (by decide +kernel), List.mem_of_getElem? (i := 204) (by decide +kernel)⟩
theorem lw_p1 : lw_okq (⟨"KeyStreets$Page", "isCorner", "(I)Z"⟩, 2) := ⟨⟨by decide +kernel, by decide +kernel⟩, List.mem_of_getElem? (i := 29) (by decide +kernel), List.mem_of_getElem? (i := 302) (by decide +kernel), List.mem_of_getElem? (i := 303) (by decide +kernel)⟩
theorem lw_p2 : lw_okq (⟨"KeyStreets", "again", "(LKeyStreets$Street;I)I"⟩, 8) := ⟨⟨by decide +kernel, by decide +kernel⟩, List.mem_of_getElem? (i := 21) (by decide +kernel), List.mem_of_getElem? (i := 530) (by decide +kernel), List.mem_of_getElem? (i := 531) (by decide +kernel)⟩
theorem lw_p3 : lw_okq (⟨"KeyStreets", "tonics", "(LKeyStreets$Street;I)I"⟩, 8) := ⟨⟨by decide +kernel, by decide +kernel⟩, List.mem_of_getElem? (i := 21) (by decide +kernel), List.mem_of_getElem? (i := 543) (by decide +kernel), List.mem_of_getElem? (i := 544) (by decide +kernel)⟩
theorem lw_p4 : lw_okq (⟨"KeyStreets", "noCity", "()Z"⟩, 8) := ⟨⟨by decide +kernel, by decide +kernel⟩, List.mem_of_getElem? (i := 21) (by decide +kernel), List.mem_of_getElem? (i := 623) (by decide +kernel), List.mem_of_getElem? (i := 624) (by decide +kernel)⟩
theorem lw_p5 : lw_okq (⟨"KeyStreets", "noTunes", "()Z"⟩, 8) := ⟨⟨by decide +kernel, by decide +kernel⟩, List.mem_of_getElem? (i := 21) (by decide +kernel), List.mem_of_getElem? (i := 641) (by decide +kernel), List.mem_of_getElem? (i := 642) (by decide +kernel)⟩
theorem lw_p6 : lw_okq (⟨"KeyStreets$Walks", "seekWay", "(JIII)Z"⟩, 9) := ⟨⟨by decide +kernel, by decide +kernel⟩, List.mem_of_getElem? (i := 44) (by decide +kernel), List.mem_of_getElem? (i := 650) (by decide +kernel), List.mem_of_getElem? (i := 651) (by decide +kernel)⟩
theorem lw_p7 : lw_okq (⟨"KeyStreets$Walks", "passage", "(IIJ)LKeyStreets$Street;"⟩, 9) := ⟨⟨by decide +kernel, by decide +kernel⟩, List.mem_of_getElem? (i := 44) (by decide +kernel), List.mem_of_getElem? (i := 654) (by decide +kernel), List.mem_of_getElem? (i := 655) (by decide +kernel)⟩
theorem lw_p8 : lw_okq (⟨"KeyStreets$Walks", "meetTunes", "(JII)V"⟩, 9) := ⟨⟨by decide +kernel, by decide +kernel⟩, List.mem_of_getElem? (i := 44) (by decide +kernel), List.mem_of_getElem? (i := 690) (by decide +kernel), List.mem_of_getElem? (i := 691) (by decide +kernel)⟩
theorem lw_p9 : lw_okq (⟨"KeyStreets$Walks", "meet", "(J)V"⟩, 9) := ⟨⟨by decide +kernel, by decide +kernel⟩, List.mem_of_getElem? (i := 44) (by decide +kernel), List.mem_of_getElem? (i := 694) (by decide +kernel), List.mem_of_getElem? (i := 695) (by decide +kernel)⟩
theorem lw_p10 : lw_okq (⟨"KeyStreets$Walks", "drawStreet", "(I)I"⟩, 9) := ⟨⟨by decide +kernel, by decide +kernel⟩, List.mem_of_getElem? (i := 44) (by decide +kernel), List.mem_of_getElem? (i := 735) (by decide +kernel), List.mem_of_getElem? (i := 736) (by decide +kernel)⟩
theorem lw_p11 : lw_okq (⟨"KeyStreets", "digestTune", "(JI)J"⟩, 8) := ⟨⟨by decide +kernel, by decide +kernel⟩, List.mem_of_getElem? (i := 21) (by decide +kernel), List.mem_of_getElem? (i := 787) (by decide +kernel), List.mem_of_getElem? (i := 788) (by decide +kernel)⟩
theorem lw_p12 : lw_okq (⟨"KeyStreetsModel", "faultOf", "()I"⟩, 40) := ⟨⟨by decide +kernel, by decide +kernel⟩, List.mem_of_getElem? (i := 796) (by decide +kernel), List.mem_of_getElem? (i := 939) (by decide +kernel), List.mem_of_getElem? (i := 940) (by decide +kernel)⟩
theorem lw_p13 : lw_okq (⟨"KeyStreetsModel", "isStreetLetter", "(I)Z"⟩, 40) := ⟨⟨by decide +kernel, by decide +kernel⟩, List.mem_of_getElem? (i := 796) (by decide +kernel), List.mem_of_getElem? (i := 945) (by decide +kernel), List.mem_of_getElem? (i := 946) (by decide +kernel)⟩
theorem lw_p14 : lw_okq (⟨"KeyStreetsModel", "isCorner", "(I)Z"⟩, 40) := ⟨⟨by decide +kernel, by decide +kernel⟩, List.mem_of_getElem? (i := 796) (by decide +kernel), List.mem_of_getElem? (i := 952) (by decide +kernel), List.mem_of_getElem? (i := 953) (by decide +kernel)⟩
theorem lw_p15 : lw_okq (⟨"KeyStreetsModel", "isTuneText", "()Z"⟩, 40) := ⟨⟨by decide +kernel, by decide +kernel⟩, List.mem_of_getElem? (i := 796) (by decide +kernel), List.mem_of_getElem? (i := 967) (by decide +kernel), List.mem_of_getElem? (i := 968) (by decide +kernel)⟩
def lw_privs_1 : List (MethodName × Nat) := [(⟨"KeyStreets$Page", "belongs", "(I)Z"⟩, 2), (⟨"KeyStreets$Page", "isCorner", "(I)Z"⟩, 2), (⟨"KeyStreets", "again", "(LKeyStreets$Street;I)I"⟩, 8), (⟨"KeyStreets", "tonics", "(LKeyStreets$Street;I)I"⟩, 8), (⟨"KeyStreets", "noCity", "()Z"⟩, 8), (⟨"KeyStreets", "noTunes", "()Z"⟩, 8), (⟨"KeyStreets$Walks", "seekWay", "(JIII)Z"⟩, 9), (⟨"KeyStreets$Walks", "passage", "(IIJ)LKeyStreets$Street;"⟩, 9), (⟨"KeyStreets$Walks", "meetTunes", "(JII)V"⟩, 9), (⟨"KeyStreets$Walks", "meet", "(J)V"⟩, 9), (⟨"KeyStreets$Walks", "drawStreet", "(I)I"⟩, 9), (⟨"KeyStreets", "digestTune", "(JI)J"⟩, 8), (⟨"KeyStreetsModel", "faultOf", "()I"⟩, 40), (⟨"KeyStreetsModel", "isStreetLetter", "(I)Z"⟩, 40), (⟨"KeyStreetsModel", "isCorner", "(I)Z"⟩, 40), (⟨"KeyStreetsModel", "isTuneText", "()Z"⟩, 40)]
theorem lw_r1 : ∀ q ∈ lw_privs_1, lw_okq q := List.forall_mem_cons.mpr ⟨lw_p0, List.forall_mem_cons.mpr ⟨lw_p1, List.forall_mem_cons.mpr ⟨lw_p2, List.forall_mem_cons.mpr ⟨lw_p3, List.forall_mem_cons.mpr ⟨lw_p4, List.forall_mem_cons.mpr ⟨lw_p5, List.forall_mem_cons.mpr ⟨lw_p6, List.forall_mem_cons.mpr ⟨lw_p7, List.forall_mem_cons.mpr ⟨lw_p8, List.forall_mem_cons.mpr ⟨lw_p9, List.forall_mem_cons.mpr ⟨lw_p10, List.forall_mem_cons.mpr ⟨lw_p11, List.forall_mem_cons.mpr ⟨lw_p12, List.forall_mem_cons.mpr ⟨lw_p13, List.forall_mem_cons.mpr ⟨lw_p14, List.forall_mem_cons.mpr ⟨lw_p15, fun _ h => absurd h List.not_mem_nil⟩⟩⟩⟩⟩⟩⟩⟩⟩⟩⟩⟩⟩⟩⟩⟩
theorem lw_p16 : lw_okq (⟨"KeyStreetsModel", "isTune", "(I)Z"⟩, 40) := ⟨⟨by decide +kernel, by decide +kernel⟩, List.mem_of_getElem? (i := 796) (by decide +kernel), List.mem_of_getElem? (i := 976) (by decide +kernel), List.mem_of_getElem? (i := 977) (by decide +kernel)⟩
theorem lw_p17 : lw_okq (⟨"KeyStreetsModel", "manyOf", "(I)I"⟩, 40) := ⟨⟨by decide +kernel, by decide +kernel⟩, List.mem_of_getElem? (i := 796) (by decide +kernel), List.mem_of_getElem? (i := 980) (by decide +kernel), List.mem_of_getElem? (i := 981) (by decide +kernel)⟩
theorem lw_p18 : lw_okq (⟨"KeyStreetsModel", "tellTune", "(II)I"⟩, 40) := ⟨⟨by decide +kernel, by decide +kernel⟩, List.mem_of_getElem? (i := 796) (by decide +kernel), List.mem_of_getElem? (i := 984) (by decide +kernel), List.mem_of_getElem? (i := 985) (by decide +kernel)⟩
theorem lw_p19 : lw_okq (⟨"KeyStreetsModel", "noteAt", "(II)I"⟩, 40) := ⟨⟨by decide +kernel, by decide +kernel⟩, List.mem_of_getElem? (i := 796) (by decide +kernel), List.mem_of_getElem? (i := 990) (by decide +kernel), List.mem_of_getElem? (i := 991) (by decide +kernel)⟩
theorem lw_p20 : lw_okq (⟨"KeyStreetsModel", "keyOf", "(I)I"⟩, 40) := ⟨⟨by decide +kernel, by decide +kernel⟩, List.mem_of_getElem? (i := 796) (by decide +kernel), List.mem_of_getElem? (i := 1000) (by decide +kernel), List.mem_of_getElem? (i := 1001) (by decide +kernel)⟩
theorem lw_p21 : lw_okq (⟨"KeyStreetsModel", "inKey", "(II)I"⟩, 40) := ⟨⟨by decide +kernel, by decide +kernel⟩, List.mem_of_getElem? (i := 796) (by decide +kernel), List.mem_of_getElem? (i := 1004) (by decide +kernel), List.mem_of_getElem? (i := 1005) (by decide +kernel)⟩
theorem lw_p22 : lw_okq (⟨"KeyStreetsModel", "notesOf", "(I)I"⟩, 40) := ⟨⟨by decide +kernel, by decide +kernel⟩, List.mem_of_getElem? (i := 796) (by decide +kernel), List.mem_of_getElem? (i := 1011) (by decide +kernel), List.mem_of_getElem? (i := 1012) (by decide +kernel)⟩
theorem lw_p23 : lw_okq (⟨"KeyStreetsModel", "isStreet", "(I)Z"⟩, 40) := ⟨⟨by decide +kernel, by decide +kernel⟩, List.mem_of_getElem? (i := 796) (by decide +kernel), List.mem_of_getElem? (i := 1019) (by decide +kernel), List.mem_of_getElem? (i := 1020) (by decide +kernel)⟩
theorem lw_p24 : lw_okq (⟨"KeyStreetsModel", "comesOut", "(III)I"⟩, 40) := ⟨⟨by decide +kernel, by decide +kernel⟩, List.mem_of_getElem? (i := 796) (by decide +kernel), List.mem_of_getElem? (i := 1027) (by decide +kernel), List.mem_of_getElem? (i := 1028) (by decide +kernel)⟩
theorem lw_p25 : lw_okq (⟨"KeyStreetsModel", "tellStreet", "(II)I"⟩, 40) := ⟨⟨by decide +kernel, by decide +kernel⟩, List.mem_of_getElem? (i := 796) (by decide +kernel), List.mem_of_getElem? (i := 1041) (by decide +kernel), List.mem_of_getElem? (i := 1042) (by decide +kernel)⟩
theorem lw_p26 : lw_okq (⟨"KeyStreetsModel", "leavesOf", "(I)I"⟩, 40) := ⟨⟨by decide +kernel, by decide +kernel⟩, List.mem_of_getElem? (i := 796) (by decide +kernel), List.mem_of_getElem? (i := 1045) (by decide +kernel), List.mem_of_getElem? (i := 1046) (by decide +kernel)⟩
theorem lw_p27 : lw_okq (⟨"KeyStreetsModel", "againOf", "(I)I"⟩, 40) := ⟨⟨by decide +kernel, by decide +kernel⟩, List.mem_of_getElem? (i := 796) (by decide +kernel), List.mem_of_getElem? (i := 1049) (by decide +kernel), List.mem_of_getElem? (i := 1050) (by decide +kernel)⟩
theorem lw_p28 : lw_okq (⟨"KeyStreetsModel", "goStreet", "(I[II)V"⟩, 40) := ⟨⟨by decide +kernel, by decide +kernel⟩, List.mem_of_getElem? (i := 796) (by decide +kernel), List.mem_of_getElem? (i := 1056) (by decide +kernel), List.mem_of_getElem? (i := 1057) (by decide +kernel)⟩
theorem lw_p29 : lw_okq (⟨"KeyStreetsModel", "tonicsOf", "(I)I"⟩, 40) := ⟨⟨by decide +kernel, by decide +kernel⟩, List.mem_of_getElem? (i := 796) (by decide +kernel), List.mem_of_getElem? (i := 1063) (by decide +kernel), List.mem_of_getElem? (i := 1064) (by decide +kernel)⟩
theorem lw_p30 : lw_okq (⟨"KeyStreetsModel", "askOf", "(I)I"⟩, 40) := ⟨⟨by decide +kernel, by decide +kernel⟩, List.mem_of_getElem? (i := 796) (by decide +kernel), List.mem_of_getElem? (i := 1067) (by decide +kernel), List.mem_of_getElem? (i := 1068) (by decide +kernel)⟩
theorem lw_p31 : lw_okq (⟨"KeyStreetsModel", "endsAt", "(II)Z"⟩, 40) := ⟨⟨by decide +kernel, by decide +kernel⟩, List.mem_of_getElem? (i := 796) (by decide +kernel), List.mem_of_getElem? (i := 1080) (by decide +kernel), List.mem_of_getElem? (i := 1081) (by decide +kernel)⟩
def lw_privs_2 : List (MethodName × Nat) := [(⟨"KeyStreetsModel", "isTune", "(I)Z"⟩, 40), (⟨"KeyStreetsModel", "manyOf", "(I)I"⟩, 40), (⟨"KeyStreetsModel", "tellTune", "(II)I"⟩, 40), (⟨"KeyStreetsModel", "noteAt", "(II)I"⟩, 40), (⟨"KeyStreetsModel", "keyOf", "(I)I"⟩, 40), (⟨"KeyStreetsModel", "inKey", "(II)I"⟩, 40), (⟨"KeyStreetsModel", "notesOf", "(I)I"⟩, 40), (⟨"KeyStreetsModel", "isStreet", "(I)Z"⟩, 40), (⟨"KeyStreetsModel", "comesOut", "(III)I"⟩, 40), (⟨"KeyStreetsModel", "tellStreet", "(II)I"⟩, 40), (⟨"KeyStreetsModel", "leavesOf", "(I)I"⟩, 40), (⟨"KeyStreetsModel", "againOf", "(I)I"⟩, 40), (⟨"KeyStreetsModel", "goStreet", "(I[II)V"⟩, 40), (⟨"KeyStreetsModel", "tonicsOf", "(I)I"⟩, 40), (⟨"KeyStreetsModel", "askOf", "(I)I"⟩, 40), (⟨"KeyStreetsModel", "endsAt", "(II)Z"⟩, 40)]
theorem lw_r2 : ∀ q ∈ lw_privs_2, lw_okq q := List.forall_mem_cons.mpr ⟨lw_p16, List.forall_mem_cons.mpr ⟨lw_p17, List.forall_mem_cons.mpr ⟨lw_p18, List.forall_mem_cons.mpr ⟨lw_p19, List.forall_mem_cons.mpr ⟨lw_p20, List.forall_mem_cons.mpr ⟨lw_p21, List.forall_mem_cons.mpr ⟨lw_p22, List.forall_mem_cons.mpr ⟨lw_p23, List.forall_mem_cons.mpr ⟨lw_p24, List.forall_mem_cons.mpr ⟨lw_p25, List.forall_mem_cons.mpr ⟨lw_p26, List.forall_mem_cons.mpr ⟨lw_p27, List.forall_mem_cons.mpr ⟨lw_p28, List.forall_mem_cons.mpr ⟨lw_p29, List.forall_mem_cons.mpr ⟨lw_p30, List.forall_mem_cons.mpr ⟨lw_p31, fun _ h => absurd h List.not_mem_nil⟩⟩⟩⟩⟩⟩⟩⟩⟩⟩⟩⟩⟩⟩⟩⟩
theorem lw_p32 : lw_okq (⟨"KeyStreetsModel", "isOpen", "(I[II)Z"⟩, 40) := ⟨⟨by decide +kernel, by decide +kernel⟩, List.mem_of_getElem? (i := 796) (by decide +kernel), List.mem_of_getElem? (i := 1084) (by decide +kernel), List.mem_of_getElem? (i := 1085) (by decide +kernel)⟩
theorem lw_p33 : lw_okq (⟨"KeyStreetsModel", "otherEnd", "(II)I"⟩, 40) := ⟨⟨by decide +kernel, by decide +kernel⟩, List.mem_of_getElem? (i := 796) (by decide +kernel), List.mem_of_getElem? (i := 1088) (by decide +kernel), List.mem_of_getElem? (i := 1089) (by decide +kernel)⟩
theorem lw_p34 : lw_okq (⟨"KeyStreetsModel", "lacks", "()Z"⟩, 40) := ⟨⟨by decide +kernel, by decide +kernel⟩, List.mem_of_getElem? (i := 796) (by decide +kernel), List.mem_of_getElem? (i := 1096) (by decide +kernel), List.mem_of_getElem? (i := 1097) (by decide +kernel)⟩
theorem lw_p35 : lw_okq (⟨"KeyStreetsModel", "areBoth", "()Z"⟩, 40) := ⟨⟨by decide +kernel, by decide +kernel⟩, List.mem_of_getElem? (i := 796) (by decide +kernel), List.mem_of_getElem? (i := 1117) (by decide +kernel), List.mem_of_getElem? (i := 1118) (by decide +kernel)⟩
theorem lw_p36 : lw_okq (⟨"KeyStreetsModel", "wayOf", "(I)I"⟩, 40) := ⟨⟨by decide +kernel, by decide +kernel⟩, List.mem_of_getElem? (i := 796) (by decide +kernel), List.mem_of_getElem? (i := 1121) (by decide +kernel), List.mem_of_getElem? (i := 1122) (by decide +kernel)⟩
theorem lw_p37 : lw_okq (⟨"KeyStreetsModel", "layWay", "(I)Z"⟩, 40) := ⟨⟨by decide +kernel, by decide +kernel⟩, List.mem_of_getElem? (i := 796) (by decide +kernel), List.mem_of_getElem? (i := 1125) (by decide +kernel), List.mem_of_getElem? (i := 1126) (by decide +kernel)⟩
theorem lw_p38 : lw_okq (⟨"KeyStreetsModel", "beginWalk", "()V"⟩, 40) := ⟨⟨by decide +kernel, by decide +kernel⟩, List.mem_of_getElem? (i := 796) (by decide +kernel), List.mem_of_getElem? (i := 1129) (by decide +kernel), List.mem_of_getElem? (i := 1130) (by decide +kernel)⟩
theorem lw_p39 : lw_okq (⟨"KeyStreetsModel", "isThere", "(I)Z"⟩, 40) := ⟨⟨by decide +kernel, by decide +kernel⟩, List.mem_of_getElem? (i := 796) (by decide +kernel), List.mem_of_getElem? (i := 1133) (by decide +kernel), List.mem_of_getElem? (i := 1134) (by decide +kernel)⟩
theorem lw_p40 : lw_okq (⟨"KeyStreetsModel", "goOn", "(II)Z"⟩, 40) := ⟨⟨by decide +kernel, by decide +kernel⟩, List.mem_of_getElem? (i := 796) (by decide +kernel), List.mem_of_getElem? (i := 1137) (by decide +kernel), List.mem_of_getElem? (i := 1138) (by decide +kernel)⟩
theorem lw_p41 : lw_okq (⟨"KeyStreetsModel", "becomeOf", "(I)I"⟩, 40) := ⟨⟨by decide +kernel, by decide +kernel⟩, List.mem_of_getElem? (i := 796) (by decide +kernel), List.mem_of_getElem? (i := 1146) (by decide +kernel), List.mem_of_getElem? (i := 1147) (by decide +kernel)⟩
theorem lw_p42 : lw_okq (⟨"KeyStreetsModel", "meet", "(I)V"⟩, 40) := ⟨⟨by decide +kernel, by decide +kernel⟩, List.mem_of_getElem? (i := 796) (by decide +kernel), List.mem_of_getElem? (i := 1150) (by decide +kernel), List.mem_of_getElem? (i := 1151) (by decide +kernel)⟩
theorem lw_p43 : lw_okq (⟨"KeyStreetsModel", "nearOf", "()I"⟩, 40) := ⟨⟨by decide +kernel, by decide +kernel⟩, List.mem_of_getElem? (i := 796) (by decide +kernel), List.mem_of_getElem? (i := 1165) (by decide +kernel), List.mem_of_getElem? (i := 1166) (by decide +kernel)⟩
theorem lw_p44 : lw_okq (⟨"KeyStreetsModel", "endsMany", "(I)I"⟩, 40) := ⟨⟨by decide +kernel, by decide +kernel⟩, List.mem_of_getElem? (i := 796) (by decide +kernel), List.mem_of_getElem? (i := 1183) (by decide +kernel), List.mem_of_getElem? (i := 1184) (by decide +kernel)⟩
theorem lw_p45 : lw_okq (⟨"KeyStreetsModel", "draw", "(I)I"⟩, 40) := ⟨⟨by decide +kernel, by decide +kernel⟩, List.mem_of_getElem? (i := 796) (by decide +kernel), List.mem_of_getElem? (i := 1187) (by decide +kernel), List.mem_of_getElem? (i := 1188) (by decide +kernel)⟩
theorem lw_p46 : lw_okq (⟨"KeyStreetsModel", "endsNo", "(II)I"⟩, 40) := ⟨⟨by decide +kernel, by decide +kernel⟩, List.mem_of_getElem? (i := 796) (by decide +kernel), List.mem_of_getElem? (i := 1195) (by decide +kernel), List.mem_of_getElem? (i := 1196) (by decide +kernel)⟩
theorem lw_p47 : lw_okq (⟨"KeyStreetsModel", "countOf", "(I)I"⟩, 40) := ⟨⟨by decide +kernel, by decide +kernel⟩, List.mem_of_getElem? (i := 796) (by decide +kernel), List.mem_of_getElem? (i := 1211) (by decide +kernel), List.mem_of_getElem? (i := 1212) (by decide +kernel)⟩
def lw_privs_3 : List (MethodName × Nat) := [(⟨"KeyStreetsModel", "isOpen", "(I[II)Z"⟩, 40), (⟨"KeyStreetsModel", "otherEnd", "(II)I"⟩, 40), (⟨"KeyStreetsModel", "lacks", "()Z"⟩, 40), (⟨"KeyStreetsModel", "areBoth", "()Z"⟩, 40), (⟨"KeyStreetsModel", "wayOf", "(I)I"⟩, 40), (⟨"KeyStreetsModel", "layWay", "(I)Z"⟩, 40), (⟨"KeyStreetsModel", "beginWalk", "()V"⟩, 40), (⟨"KeyStreetsModel", "isThere", "(I)Z"⟩, 40), (⟨"KeyStreetsModel", "goOn", "(II)Z"⟩, 40), (⟨"KeyStreetsModel", "becomeOf", "(I)I"⟩, 40), (⟨"KeyStreetsModel", "meet", "(I)V"⟩, 40), (⟨"KeyStreetsModel", "nearOf", "()I"⟩, 40), (⟨"KeyStreetsModel", "endsMany", "(I)I"⟩, 40), (⟨"KeyStreetsModel", "draw", "(I)I"⟩, 40), (⟨"KeyStreetsModel", "endsNo", "(II)I"⟩, 40), (⟨"KeyStreetsModel", "countOf", "(I)I"⟩, 40)]
theorem lw_r3 : ∀ q ∈ lw_privs_3, lw_okq q := List.forall_mem_cons.mpr ⟨lw_p32, List.forall_mem_cons.mpr ⟨lw_p33, List.forall_mem_cons.mpr ⟨lw_p34, List.forall_mem_cons.mpr ⟨lw_p35, List.forall_mem_cons.mpr ⟨lw_p36, List.forall_mem_cons.mpr ⟨lw_p37, List.forall_mem_cons.mpr ⟨lw_p38, List.forall_mem_cons.mpr ⟨lw_p39, List.forall_mem_cons.mpr ⟨lw_p40, List.forall_mem_cons.mpr ⟨lw_p41, List.forall_mem_cons.mpr ⟨lw_p42, List.forall_mem_cons.mpr ⟨lw_p43, List.forall_mem_cons.mpr ⟨lw_p44, List.forall_mem_cons.mpr ⟨lw_p45, List.forall_mem_cons.mpr ⟨lw_p46, List.forall_mem_cons.mpr ⟨lw_p47, fun _ h => absurd h List.not_mem_nil⟩⟩⟩⟩⟩⟩⟩⟩⟩⟩⟩⟩⟩⟩⟩⟩
theorem lw_p48 : lw_okq (⟨"KeyStreetsModel", "openMany", "()I"⟩, 40) := ⟨⟨by decide +kernel, by decide +kernel⟩, List.mem_of_getElem? (i := 796) (by decide +kernel), List.mem_of_getElem? (i := 1215) (by decide +kernel), List.mem_of_getElem? (i := 1216) (by decide +kernel)⟩
theorem lw_p49 : lw_okq (⟨"KeyStreetsModel", "say", "(J)V"⟩, 40) := ⟨⟨by decide +kernel, by decide +kernel⟩, List.mem_of_getElem? (i := 796) (by decide +kernel), List.mem_of_getElem? (i := 1224) (by decide +kernel), List.mem_of_getElem? (i := 1225) (by decide +kernel)⟩
theorem lw_p50 : lw_okq (⟨"KeyStreetsModel", "sayTune", "(I)V"⟩, 40) := ⟨⟨by decide +kernel, by decide +kernel⟩, List.mem_of_getElem? (i := 796) (by decide +kernel), List.mem_of_getElem? (i := 1229) (by decide +kernel), List.mem_of_getElem? (i := 1230) (by decide +kernel)⟩
def lw_privs_4 : List (MethodName × Nat) := [(⟨"KeyStreetsModel", "openMany", "()I"⟩, 40), (⟨"KeyStreetsModel", "say", "(J)V"⟩, 40), (⟨"KeyStreetsModel", "sayTune", "(I)V"⟩, 40)]
theorem lw_r4 : ∀ q ∈ lw_privs_4, lw_okq q := List.forall_mem_cons.mpr ⟨lw_p48, List.forall_mem_cons.mpr ⟨lw_p49, List.forall_mem_cons.mpr ⟨lw_p50, fun _ h => absurd h List.not_mem_nil⟩⟩⟩
def lw_privs : List (MethodName × Nat) := lw_privs_1 ++ (lw_privs_2 ++ (lw_privs_3 ++ (lw_privs_4)))
def lw_tbl : List Cond := k2_sels lw_privs ++ tables_1
theorem lw_privs_ok : ∀ q ∈ lw_privs, lw_okq q := by
  show ∀ q ∈ lw_privs_1 ++ (lw_privs_2 ++ (lw_privs_3 ++ (lw_privs_4))), lw_okq q
  exact List.forall_mem_append.mpr ⟨lw_r1, List.forall_mem_append.mpr ⟨lw_r2, List.forall_mem_append.mpr ⟨lw_r3, lw_r4⟩⟩⟩
-- ===== end of PART A; then your names; then what follows =====
end
section
def RX0 : String := "KeyStreets$Bridge"
def TX0 : u_T := fun k => match k with
  | 0 => ("KeyStreets$Street", "one", "I", true)
  | _ => ("KeyStreets$Street", "other", "I", true)
def tyX0 : Nat → FieldType := fun k => match k with
  | 0 => .int
  | _ => .int
theorem nmX0 : ∀ a, a < 2 → ∀ b, b < 2 → a ≠ b → (TX0 a).2.1 ≠ (TX0 b).2.1 := by decide +kernel
theorem tyX0_ok : ∀ k, k < 2 → parseFieldDescriptor (TX0 k).2.2.1 = some (tyX0 k) := by decide +kernel
abbrev cX0_init : ByteArray := prog_2_method_1_code
def yX0_init : MethodName := ⟨RX0, "<init>", "(II)V"⟩
abbrev cX0_kind : ByteArray := prog_2_method_2_code
def yX0_kind : MethodName := ⟨RX0, "kind", "()I"⟩
abbrev cX0_heard : ByteArray := prog_2_method_3_code
def yX0_heard : MethodName := ⟨RX0, "heard", "(JII)I"⟩
abbrev cX0_open : ByteArray := prog_2_method_4_code
def yX0_open : MethodName := ⟨RX0, "open", "(JZ)Z"⟩
def RX1 : String := "KeyStreets$City"
def TX1 : u_T := fun k => match k with
  | 0 => ("KeyStreets$City", "streets", "[LKeyStreets$Street;", true)
  | 1 => ("KeyStreets$City", "corners", "I", false)
  | _ => ("KeyStreets$City", "size", "I", false)
def tyX1 : Nat → FieldType := fun k => match k with
  | 0 => .array (.object "KeyStreets$Street")
  | 1 => .int
  | _ => .int
theorem nmX1 : ∀ a, a < 3 → ∀ b, b < 3 → a ≠ b → (TX1 a).2.1 ≠ (TX1 b).2.1 := by decide +kernel
theorem tyX1_ok : ∀ k, k < 3 → parseFieldDescriptor (TX1 k).2.2.1 = some (tyX1 k) := by decide +kernel
abbrev cX1_init : ByteArray := prog_3_method_1_code
def yX1_init : MethodName := ⟨RX1, "<init>", "()V"⟩
abbrev cX1_read : ByteArray := prog_3_method_2_code
def yX1_read : MethodName := ⟨RX1, "read", "(LKeyStreets$Page;)V"⟩
abbrev cX1_make : ByteArray := prog_3_method_3_code
def yX1_make : MethodName := ⟨RX1, "make", "(III)LKeyStreets$Street;"⟩
abbrev cX1_at : ByteArray := prog_3_method_4_code
def yX1_at : MethodName := ⟨RX1, "at", "(I)LKeyStreets$Street;"⟩
abbrev cX1_from : ByteArray := prog_3_method_5_code
def yX1_from : MethodName := ⟨RX1, "from", "(II)LKeyStreets$Street;"⟩
abbrev cX1_countAt : ByteArray := prog_3_method_6_code
def yX1_countAt : MethodName := ⟨RX1, "countAt", "(I)I"⟩
abbrev cX1_numberAt : ByteArray := prog_3_method_7_code
def yX1_numberAt : MethodName := ⟨RX1, "numberAt", "(II)I"⟩
def RX2 : String := "KeyStreets$Minor"
def TX2 : u_T := fun k => match k with
  | 0 => ("KeyStreets$Street", "one", "I", true)
  | _ => ("KeyStreets$Street", "other", "I", true)
def tyX2 : Nat → FieldType := fun k => match k with
  | 0 => .int
  | _ => .int
theorem nmX2 : ∀ a, a < 2 → ∀ b, b < 2 → a ≠ b → (TX2 a).2.1 ≠ (TX2 b).2.1 := by decide +kernel
theorem tyX2_ok : ∀ k, k < 2 → parseFieldDescriptor (TX2 k).2.2.1 = some (tyX2 k) := by decide +kernel
abbrev cX2_init : ByteArray := prog_4_method_1_code
def yX2_init : MethodName := ⟨RX2, "<init>", "(II)V"⟩
abbrev cX2_kind : ByteArray := prog_4_method_2_code
def yX2_kind : MethodName := ⟨RX2, "kind", "()I"⟩
abbrev cX2_heard : ByteArray := prog_4_method_3_code
def yX2_heard : MethodName := ⟨RX2, "heard", "(JII)I"⟩
def RX3 : String := "KeyStreets$Now"
def TX3 : u_T := fun k => match k with
  | 0 => ("KeyStreets$Now", "tonics", "[I", true)
  | 1 => ("KeyStreets$Now", "streetWalks", "[I", true)
  | 2 => ("KeyStreets$Now", "seenStreets", "[I", true)
  | 3 => ("KeyStreets$Now", "seenNotes", "[I", true)
  | 4 => ("KeyStreets$Now", "seenOuts", "[I", true)
  | 5 => ("KeyStreets$Now", "carried", "J", false)
  | 6 => ("KeyStreets$Now", "toldOf", "J", false)
  | 7 => ("KeyStreets$Now", "corner", "I", false)
  | 8 => ("KeyStreets$Now", "night", "Z", false)
  | 9 => ("KeyStreets$Now", "walked", "I", false)
  | _ => ("KeyStreets$Now", "seen", "I", false)
def tyX3 : Nat → FieldType := fun k => match k with
  | 0 => .array .int
  | 1 => .array .int
  | 2 => .array .int
  | 3 => .array .int
  | 4 => .array .int
  | 5 => .long
  | 6 => .long
  | 7 => .int
  | 8 => .boolean
  | 9 => .int
  | _ => .int
theorem nmX3 : ∀ a, a < 11 → ∀ b, b < 11 → a ≠ b → (TX3 a).2.1 ≠ (TX3 b).2.1 := by decide +kernel
theorem tyX3_ok : ∀ k, k < 11 → parseFieldDescriptor (TX3 k).2.2.1 = some (tyX3 k) := by decide +kernel
abbrev cX3_init : ByteArray := prog_5_method_1_code
def yX3_init : MethodName := ⟨RX3, "<init>", "()V"⟩
abbrev cX3_enter : ByteArray := prog_5_method_2_code
def yX3_enter : MethodName := ⟨RX3, "enter", "(LKeyStreets$Page;I)V"⟩
abbrev cX3_copy : ByteArray := prog_5_method_3_code
def yX3_copy : MethodName := ⟨RX3, "copy", "(LKeyStreets$Now;)V"⟩
abbrev cX3_tuneOf : ByteArray := prog_5_method_4_code
def yX3_tuneOf : MethodName := ⟨RX3, "tuneOf", "(I)J"⟩
abbrev cX3_setTune : ByteArray := prog_5_method_5_code
def yX3_setTune : MethodName := ⟨RX3, "setTune", "(IJ)V"⟩
abbrev cX3_tonic : ByteArray := prog_5_method_6_code
def yX3_tonic : MethodName := ⟨RX3, "tonic", "(I)I"⟩
abbrev cX3_setTonic : ByteArray := prog_5_method_7_code
def yX3_setTonic : MethodName := ⟨RX3, "setTonic", "(II)V"⟩
abbrev cX3_walks : ByteArray := prog_5_method_8_code
def yX3_walks : MethodName := ⟨RX3, "walks", "(I)I"⟩
abbrev cX3_addWalk : ByteArray := prog_5_method_9_code
def yX3_addWalk : MethodName := ⟨RX3, "addWalk", "(I)V"⟩
abbrev cX3_addSight : ByteArray := prog_5_method_10_code
def yX3_addSight : MethodName := ⟨RX3, "addSight", "(III)V"⟩
abbrev cX3_fits : ByteArray := prog_5_method_11_code
def yX3_fits : MethodName := ⟨RX3, "fits", "(LKeyStreets$Street;II)Z"⟩
def RX4 : String := "KeyStreets$Page"
def TX4 : u_T := fun k => match k with
  | 0 => ("KeyStreets$Page", "letters", "[I", true)
  | _ => ("KeyStreets$Page", "length", "I", false)
def tyX4 : Nat → FieldType := fun k => match k with
  | 0 => .array .int
  | _ => .int
theorem nmX4 : ∀ a, a < 2 → ∀ b, b < 2 → a ≠ b → (TX4 a).2.1 ≠ (TX4 b).2.1 := by decide +kernel
theorem tyX4_ok : ∀ k, k < 2 → parseFieldDescriptor (TX4 k).2.2.1 = some (tyX4 k) := by decide +kernel
abbrev cX4_init : ByteArray := prog_6_method_1_code
def yX4_init : MethodName := ⟨RX4, "<init>", "()V"⟩
abbrev cX4_add : ByteArray := prog_6_method_2_code
def yX4_add : MethodName := ⟨RX4, "add", "(I)V"⟩
abbrev cX4_at : ByteArray := prog_6_method_3_code
def yX4_at : MethodName := ⟨RX4, "at", "(I)I"⟩
abbrev cX4_noteAt : ByteArray := prog_6_method_4_code
def yX4_noteAt : MethodName := ⟨RX4, "noteAt", "(I)I"⟩
abbrev cX4_digitAt : ByteArray := prog_6_method_5_code
def yX4_digitAt : MethodName := ⟨RX4, "digitAt", "(I)I"⟩
abbrev cX4_kindOf : ByteArray := prog_6_method_6_code
def yX4_kindOf : MethodName := ⟨RX4, "kindOf", "(I)I"⟩
abbrev cX4_oneEndOf : ByteArray := prog_6_method_7_code
def yX4_oneEndOf : MethodName := ⟨RX4, "oneEndOf", "(I)I"⟩
abbrev cX4_otherEndOf : ByteArray := prog_6_method_8_code
def yX4_otherEndOf : MethodName := ⟨RX4, "otherEndOf", "(I)I"⟩
abbrev cX4_tonicOf : ByteArray := prog_6_method_9_code
def yX4_tonicOf : MethodName := ⟨RX4, "tonicOf", "(I)I"⟩
abbrev cX4_asTune : ByteArray := prog_6_method_10_code
def yX4_asTune : MethodName := ⟨RX4, "asTune", "()J"⟩
abbrev cX4_isCity : ByteArray := prog_6_method_11_code
def yX4_isCity : MethodName := ⟨RX4, "isCity", "()Z"⟩
abbrev cX4_streets : ByteArray := prog_6_method_12_code
def yX4_streets : MethodName := ⟨RX4, "streets", "()I"⟩
abbrev cX4_firstFault : ByteArray := prog_6_method_13_code
def yX4_firstFault : MethodName := ⟨RX4, "firstFault", "()I"⟩
abbrev cX4_belongs : ByteArray := prog_6_method_14_code
def yX4_belongs : MethodName := ⟨RX4, "belongs", "(I)Z"⟩
abbrev cX4_isCorner : ByteArray := prog_6_method_15_code
def yX4_isCorner : MethodName := ⟨RX4, "isCorner", "(I)Z"⟩
def RX5 : String := "KeyStreets$Picardy"
def TX5 : u_T := fun k => match k with
  | 0 => ("KeyStreets$Street", "one", "I", true)
  | _ => ("KeyStreets$Street", "other", "I", true)
def tyX5 : Nat → FieldType := fun k => match k with
  | 0 => .int
  | _ => .int
theorem nmX5 : ∀ a, a < 2 → ∀ b, b < 2 → a ≠ b → (TX5 a).2.1 ≠ (TX5 b).2.1 := by decide +kernel
theorem tyX5_ok : ∀ k, k < 2 → parseFieldDescriptor (TX5 k).2.2.1 = some (tyX5 k) := by decide +kernel
abbrev cX5_init : ByteArray := prog_7_method_1_code
def yX5_init : MethodName := ⟨RX5, "<init>", "(II)V"⟩
abbrev cX5_kind : ByteArray := prog_7_method_2_code
def yX5_kind : MethodName := ⟨RX5, "kind", "()I"⟩
abbrev cX5_heard : ByteArray := prog_7_method_3_code
def yX5_heard : MethodName := ⟨RX5, "heard", "(JII)I"⟩
def RX6 : String := "KeyStreets$Police"
def TX6 : u_T := fun k => match k with
  | 0 => ("KeyStreets$Street", "one", "I", true)
  | _ => ("KeyStreets$Street", "other", "I", true)
def tyX6 : Nat → FieldType := fun k => match k with
  | 0 => .int
  | _ => .int
theorem nmX6 : ∀ a, a < 2 → ∀ b, b < 2 → a ≠ b → (TX6 a).2.1 ≠ (TX6 b).2.1 := by decide +kernel
theorem tyX6_ok : ∀ k, k < 2 → parseFieldDescriptor (TX6 k).2.2.1 = some (tyX6 k) := by decide +kernel
abbrev cX6_init : ByteArray := prog_8_method_1_code
def yX6_init : MethodName := ⟨RX6, "<init>", "(II)V"⟩
abbrev cX6_kind : ByteArray := prog_8_method_2_code
def yX6_kind : MethodName := ⟨RX6, "kind", "()I"⟩
abbrev cX6_heard : ByteArray := prog_8_method_3_code
def yX6_heard : MethodName := ⟨RX6, "heard", "(JII)I"⟩
def RX7 : String := "KeyStreets$Street"
def TX7 : u_T := fun k => match k with
  | 0 => ("KeyStreets$Street", "one", "I", true)
  | _ => ("KeyStreets$Street", "other", "I", true)
def tyX7 : Nat → FieldType := fun k => match k with
  | 0 => .int
  | _ => .int
theorem nmX7 : ∀ a, a < 2 → ∀ b, b < 2 → a ≠ b → (TX7 a).2.1 ≠ (TX7 b).2.1 := by decide +kernel
theorem tyX7_ok : ∀ k, k < 2 → parseFieldDescriptor (TX7 k).2.2.1 = some (tyX7 k) := by decide +kernel
abbrev cX7_init : ByteArray := prog_9_method_1_code
def yX7_init : MethodName := ⟨RX7, "<init>", "(II)V"⟩
abbrev cX7_kind : ByteArray := prog_9_method_2_code
def yX7_kind : MethodName := ⟨RX7, "kind", "()I"⟩
abbrev cX7_heard : ByteArray := prog_9_method_3_code
def yX7_heard : MethodName := ⟨RX7, "heard", "(JII)I"⟩
abbrev cX7_open : ByteArray := prog_9_method_4_code
def yX7_open : MethodName := ⟨RX7, "open", "(JZ)Z"⟩
abbrev cX7_endsAt : ByteArray := prog_9_method_5_code
def yX7_endsAt : MethodName := ⟨RX7, "endsAt", "(I)Z"⟩
abbrev cX7_across : ByteArray := prog_9_method_6_code
def yX7_across : MethodName := ⟨RX7, "across", "(I)I"⟩
abbrev cX7_carry : ByteArray := prog_9_method_7_code
def yX7_carry : MethodName := ⟨RX7, "carry", "(JI)J"⟩
abbrev cX7_makes : ByteArray := prog_9_method_8_code
def yX7_makes : MethodName := ⟨RX7, "makes", "(JIJ)Z"⟩
abbrev cX7_alone : ByteArray := prog_9_method_9_code
def yX7_alone : MethodName := ⟨RX7, "alone", "(II)I"⟩
def RX8 : String := "KeyStreets$Tunes"
def TX8 : u_T := fun k => match k with
  | _ => ("", "", "", false)
def tyX8 : Nat → FieldType := fun k => match k with
  | _ => .int
theorem nmX8 : ∀ a, a < 0 → ∀ b, b < 0 → a ≠ b → (TX8 a).2.1 ≠ (TX8 b).2.1 := by decide +kernel
theorem tyX8_ok : ∀ k, k < 0 → parseFieldDescriptor (TX8 k).2.2.1 = some (tyX8 k) := by decide +kernel
abbrev cX8_note : ByteArray := prog_10_method_2_code
def yX8_note : MethodName := ⟨RX8, "note", "(JI)I"⟩
abbrev cX8_with : ByteArray := prog_10_method_3_code
def yX8_with : MethodName := ⟨RX8, "with", "(JII)J"⟩
abbrev cX8_length : ByteArray := prog_10_method_4_code
def yX8_length : MethodName := ⟨RX8, "length", "(J)I"⟩
abbrev cX8_above : ByteArray := prog_10_method_5_code
def yX8_above : MethodName := ⟨RX8, "above", "(II)I"⟩
abbrev cX8_tritones : ByteArray := prog_10_method_6_code
def yX8_tritones : MethodName := ⟨RX8, "tritones", "(J)I"⟩
abbrev cX8_bits : ByteArray := prog_10_method_7_code
def yX8_bits : MethodName := ⟨RX8, "bits", "(J)I"⟩
abbrev cX8_key : ByteArray := prog_10_method_8_code
def yX8_key : MethodName := ⟨RX8, "key", "(J)I"⟩
abbrev cX8_inKey : ByteArray := prog_10_method_9_code
def yX8_inKey : MethodName := ⟨RX8, "inKey", "(JI)I"⟩
abbrev cX8_unlike : ByteArray := prog_10_method_10_code
def yX8_unlike : MethodName := ⟨RX8, "unlike", "(JJ)I"⟩
def RX9 : String := "KeyStreets$Walks"
def TX9 : u_T := fun k => match k with
  | 0 => ("KeyStreets$Walks", "city", "LKeyStreets$City;", true)
  | 1 => ("KeyStreets$Walks", "now", "LKeyStreets$Now;", true)
  | 2 => ("KeyStreets$Walks", "wayStreets", "[I", true)
  | 3 => ("KeyStreets$Walks", "slots", "[J", true)
  | 4 => ("KeyStreets$Walks", "met", "I", false)
  | 5 => ("KeyStreets$Walks", "wayEnd", "I", false)
  | 6 => ("KeyStreets$Walks", "wanderHits", "I", false)
  | 7 => ("KeyStreets$Walks", "wanderEnd", "I", false)
  | _ => ("KeyStreets$Walks", "wanderSeed", "J", false)
def tyX9 : Nat → FieldType := fun k => match k with
  | 0 => .object "KeyStreets$City"
  | 1 => .object "KeyStreets$Now"
  | 2 => .array .int
  | 3 => .array .long
  | 4 => .int
  | 5 => .int
  | 6 => .int
  | 7 => .int
  | _ => .long
theorem nmX9 : ∀ a, a < 9 → ∀ b, b < 9 → a ≠ b → (TX9 a).2.1 ≠ (TX9 b).2.1 := by decide +kernel
theorem tyX9_ok : ∀ k, k < 9 → parseFieldDescriptor (TX9 k).2.2.1 = some (tyX9 k) := by decide +kernel
abbrev cX9_init : ByteArray := prog_11_method_1_code
def yX9_init : MethodName := ⟨RX9, "<init>", "()V"⟩
abbrev cX9_passage : ByteArray := prog_11_method_2_code
def yX9_passage : MethodName := ⟨RX9, "passage", "(IIJ)LKeyStreets$Street;"⟩
abbrev cX9_countOpen : ByteArray := prog_11_method_3_code
def yX9_countOpen : MethodName := ⟨RX9, "countOpen", "()I"⟩
abbrev cX9_nearest : ByteArray := prog_11_method_4_code
def yX9_nearest : MethodName := ⟨RX9, "nearest", "()I"⟩
abbrev cX9_findWay : ByteArray := prog_11_method_5_code
def yX9_findWay : MethodName := ⟨RX9, "findWay", "()I"⟩
abbrev cX9_seekWay : ByteArray := prog_11_method_6_code
def yX9_seekWay : MethodName := ⟨RX9, "seekWay", "(JIII)Z"⟩
abbrev cX9_wayStreet : ByteArray := prog_11_method_7_code
def yX9_wayStreet : MethodName := ⟨RX9, "wayStreet", "(II)I"⟩
abbrev cX9_tunesBehind : ByteArray := prog_11_method_8_code
def yX9_tunesBehind : MethodName := ⟨RX9, "tunesBehind", "(I)I"⟩
abbrev cX9_meetTunes : ByteArray := prog_11_method_9_code
def yX9_meetTunes : MethodName := ⟨RX9, "meetTunes", "(JII)V"⟩
abbrev cX9_meet : ByteArray := prog_11_method_10_code
def yX9_meet : MethodName := ⟨RX9, "meet", "(J)V"⟩
abbrev cX9_wanderOff : ByteArray := prog_11_method_11_code
def yX9_wanderOff : MethodName := ⟨RX9, "wanderOff", "(II)V"⟩
abbrev cX9_drawStreet : ByteArray := prog_11_method_12_code
def yX9_drawStreet : MethodName := ⟨RX9, "drawStreet", "(I)I"⟩
def RX10 : String := "KeyStreets"
def TX10 : u_T := fun k => match k with
  | 0 => ("KeyStreets", "page", "LKeyStreets$Page;", true)
  | 1 => ("KeyStreets", "walks", "LKeyStreets$Walks;", true)
  | 2 => ("KeyStreets", "city", "LKeyStreets$City;", true)
  | 3 => ("KeyStreets", "now", "LKeyStreets$Now;", true)
  | 4 => ("KeyStreets", "image", "LKeyStreets$Now;", true)
  | 5 => ("KeyStreets", "reads", "I", false)
  | 6 => ("KeyStreets", "imageRead", "I", false)
  | _ => ("KeyStreets", "ways", "I", false)
def tyX10 : Nat → FieldType := fun k => match k with
  | 0 => .object "KeyStreets$Page"
  | 1 => .object "KeyStreets$Walks"
  | 2 => .object "KeyStreets$City"
  | 3 => .object "KeyStreets$Now"
  | 4 => .object "KeyStreets$Now"
  | 5 => .int
  | 6 => .int
  | _ => .int
theorem nmX10 : ∀ a, a < 8 → ∀ b, b < 8 → a ≠ b → (TX10 a).2.1 ≠ (TX10 b).2.1 := by decide +kernel
theorem tyX10_ok : ∀ k, k < 8 → parseFieldDescriptor (TX10 k).2.2.1 = some (tyX10 k) := by decide +kernel
abbrev cX10_init : ByteArray := prog_1_method_1_code
def yX10_init : MethodName := ⟨RX10, "<init>", "()V"⟩
abbrev cX10_letter : ByteArray := prog_1_method_2_code
def yX10_letter : MethodName := ⟨RX10, "letter", "(I)I"⟩
abbrev cX10_blank : ByteArray := prog_1_method_3_code
def yX10_blank : MethodName := ⟨RX10, "blank", "()I"⟩
abbrev cX10_fault : ByteArray := prog_1_method_4_code
def yX10_fault : MethodName := ⟨RX10, "fault", "()I"⟩
abbrev cX10_city : ByteArray := prog_1_method_5_code
def yX10_city : MethodName := ⟨RX10, "city", "()I"⟩
abbrev cX10_tune : ByteArray := prog_1_method_6_code
def yX10_tune : MethodName := ⟨RX10, "tune", "(I)I"⟩
abbrev cX10_told : ByteArray := prog_1_method_7_code
def yX10_told : MethodName := ⟨RX10, "told", "(II)I"⟩
abbrev cX10_street : ByteArray := prog_1_method_8_code
def yX10_street : MethodName := ⟨RX10, "street", "(II)I"⟩
abbrev cX10_as : ByteArray := prog_1_method_9_code
def yX10_as : MethodName := ⟨RX10, "as", "(II)I"⟩
abbrev cX10_comes : ByteArray := prog_1_method_10_code
def yX10_comes : MethodName := ⟨RX10, "comes", "(II)I"⟩
abbrev cX10_walk : ByteArray := prog_1_method_11_code
def yX10_walk : MethodName := ⟨RX10, "walk", "(I)I"⟩
abbrev cX10_stand : ByteArray := prog_1_method_12_code
def yX10_stand : MethodName := ⟨RX10, "stand", "(I)I"⟩
abbrev cX10_dusk : ByteArray := prog_1_method_13_code
def yX10_dusk : MethodName := ⟨RX10, "dusk", "()I"⟩
abbrev cX10_sing : ByteArray := prog_1_method_14_code
def yX10_sing : MethodName := ⟨RX10, "sing", "(III)I"⟩
abbrev cX10_raise : ByteArray := prog_1_method_15_code
def yX10_raise : MethodName := ⟨RX10, "raise", "(II)I"⟩
abbrev cX10_way : ByteArray := prog_1_method_16_code
def yX10_way : MethodName := ⟨RX10, "way", "(I)I"⟩
abbrev cX10_become : ByteArray := prog_1_method_17_code
def yX10_become : MethodName := ⟨RX10, "become", "(I)I"⟩
abbrev cX10_apart : ByteArray := prog_1_method_18_code
def yX10_apart : MethodName := ⟨RX10, "apart", "()I"⟩
abbrev cX10_near : ByteArray := prog_1_method_19_code
def yX10_near : MethodName := ⟨RX10, "near", "()I"⟩
abbrev cX10_see : ByteArray := prog_1_method_20_code
def yX10_see : MethodName := ⟨RX10, "see", "(III)I"⟩
abbrev cX10_forget : ByteArray := prog_1_method_21_code
def yX10_forget : MethodName := ⟨RX10, "forget", "()I"⟩
abbrev cX10_wander : ByteArray := prog_1_method_22_code
def yX10_wander : MethodName := ⟨RX10, "wander", "(III)I"⟩
abbrev cX10_image : ByteArray := prog_1_method_23_code
def yX10_image : MethodName := ⟨RX10, "image", "()I"⟩
abbrev cX10_restore : ByteArray := prog_1_method_24_code
def yX10_restore : MethodName := ⟨RX10, "restore", "()I"⟩
abbrev cX10_count : ByteArray := prog_1_method_25_code
def yX10_count : MethodName := ⟨RX10, "count", "(I)I"⟩
abbrev cX10_digest : ByteArray := prog_1_method_26_code
def yX10_digest : MethodName := ⟨RX10, "digest", "()J"⟩
abbrev cX10_digestTune : ByteArray := prog_1_method_27_code
def yX10_digestTune : MethodName := ⟨RX10, "digestTune", "(JI)J"⟩
abbrev cX10_mix : ByteArray := prog_1_method_28_code
def yX10_mix : MethodName := ⟨RX10, "mix", "(JI)J"⟩
abbrev cX10_noCity : ByteArray := prog_1_method_29_code
def yX10_noCity : MethodName := ⟨RX10, "noCity", "()Z"⟩
abbrev cX10_noTunes : ByteArray := prog_1_method_30_code
def yX10_noTunes : MethodName := ⟨RX10, "noTunes", "()Z"⟩
abbrev cX10_isNote : ByteArray := prog_1_method_31_code
def yX10_isNote : MethodName := ⟨RX10, "isNote", "(I)Z"⟩
abbrev cX10_leaves : ByteArray := prog_1_method_32_code
def yX10_leaves : MethodName := ⟨RX10, "leaves", "(LKeyStreets$Street;I)I"⟩
abbrev cX10_again : ByteArray := prog_1_method_33_code
def yX10_again : MethodName := ⟨RX10, "again", "(LKeyStreets$Street;I)I"⟩
abbrev cX10_tonics : ByteArray := prog_1_method_34_code
def yX10_tonics : MethodName := ⟨RX10, "tonics", "(LKeyStreets$Street;I)I"⟩
abbrev cX10_ask : ByteArray := prog_1_method_35_code
def yX10_ask : MethodName := ⟨RX10, "ask", "(LKeyStreets$Street;I)I"⟩
abbrev cX10_leftAtWorst : ByteArray := prog_1_method_36_code
def yX10_leftAtWorst : MethodName := ⟨RX10, "leftAtWorst", "(LKeyStreets$Street;II)I"⟩
def RX11 : String := "KeyStreetsModel"
def TX11 : u_T := fun k => match k with
  | 0 => ("KeyStreetsModel", "page", "[I", true)
  | 1 => ("KeyStreetsModel", "pageMany", "I", false)
  | 2 => ("KeyStreetsModel", "corners", "I", false)
  | 3 => ("KeyStreetsModel", "streets", "I", false)
  | 4 => ("KeyStreetsModel", "corner", "I", false)
  | 5 => ("KeyStreetsModel", "isNight", "Z", false)
  | 6 => ("KeyStreetsModel", "walked", "I", false)
  | 7 => ("KeyStreetsModel", "citiesRead", "I", false)
  | 8 => ("KeyStreetsModel", "rows", "[I", true)
  | 9 => ("KeyStreetsModel", "tonics", "[I", true)
  | 10 => ("KeyStreetsModel", "walks", "[I", true)
  | 11 => ("KeyStreetsModel", "first", "[I", true)
  | 12 => ("KeyStreetsModel", "second", "[I", true)
  | 13 => ("KeyStreetsModel", "firstMany", "I", false)
  | 14 => ("KeyStreetsModel", "secondMany", "I", false)
  | 15 => ("KeyStreetsModel", "alone", "[I", true)
  | 16 => ("KeyStreetsModel", "now", "[I", true)
  | 17 => ("KeyStreetsModel", "tunes", "[I", true)
  | 18 => ("KeyStreetsModel", "at", "[I", true)
  | 19 => ("KeyStreetsModel", "taken", "[I", true)
  | 20 => ("KeyStreetsModel", "waysDone", "I", false)
  | 21 => ("KeyStreetsModel", "met", "[I", true)
  | 22 => ("KeyStreetsModel", "metMany", "I", false)
  | 23 => ("KeyStreetsModel", "seenMany", "I", false)
  | 24 => ("KeyStreetsModel", "sights", "[I", true)
  | 25 => ("KeyStreetsModel", "parts", "[I", true)
  | 26 => ("KeyStreetsModel", "seedNow", "I", false)
  | 27 => ("KeyStreetsModel", "keptCity", "I", false)
  | 28 => ("KeyStreetsModel", "keptCorner", "I", false)
  | 29 => ("KeyStreetsModel", "keptNight", "Z", false)
  | 30 => ("KeyStreetsModel", "keptWalked", "I", false)
  | 31 => ("KeyStreetsModel", "keptFirstMany", "I", false)
  | 32 => ("KeyStreetsModel", "keptSecondMany", "I", false)
  | 33 => ("KeyStreetsModel", "keptSeen", "I", false)
  | 34 => ("KeyStreetsModel", "keptTonics", "[I", true)
  | 35 => ("KeyStreetsModel", "keptWalks", "[I", true)
  | 36 => ("KeyStreetsModel", "keptFirst", "[I", true)
  | 37 => ("KeyStreetsModel", "keptSecond", "[I", true)
  | 38 => ("KeyStreetsModel", "keptSights", "[I", true)
  | _ => ("KeyStreetsModel", "hash", "J", false)
def tyX11 : Nat → FieldType := fun k => match k with
  | 0 => .array .int
  | 1 => .int
  | 2 => .int
  | 3 => .int
  | 4 => .int
  | 5 => .boolean
  | 6 => .int
  | 7 => .int
  | 8 => .array .int
  | 9 => .array .int
  | 10 => .array .int
  | 11 => .array .int
  | 12 => .array .int
  | 13 => .int
  | 14 => .int
  | 15 => .array .int
  | 16 => .array .int
  | 17 => .array .int
  | 18 => .array .int
  | 19 => .array .int
  | 20 => .int
  | 21 => .array .int
  | 22 => .int
  | 23 => .int
  | 24 => .array .int
  | 25 => .array .int
  | 26 => .int
  | 27 => .int
  | 28 => .int
  | 29 => .boolean
  | 30 => .int
  | 31 => .int
  | 32 => .int
  | 33 => .int
  | 34 => .array .int
  | 35 => .array .int
  | 36 => .array .int
  | 37 => .array .int
  | 38 => .array .int
  | _ => .long
theorem nmX11 : ∀ a, a < 40 → ∀ b, b < 40 → a ≠ b → (TX11 a).2.1 ≠ (TX11 b).2.1 := by decide +kernel
theorem tyX11_ok : ∀ k, k < 40 → parseFieldDescriptor (TX11 k).2.2.1 = some (tyX11 k) := by decide +kernel
abbrev cX11_init : ByteArray := prog_13_method_1_code
def yX11_init : MethodName := ⟨RX11, "<init>", "()V"⟩
abbrev cX11_in : ByteArray := prog_13_method_2_code
def yX11_in : MethodName := ⟨RX11, "in", "(JJJ)Z"⟩
abbrev cX11_copy : ByteArray := prog_13_method_3_code
def yX11_copy : MethodName := ⟨RX11, "copy", "([I[I)V"⟩
abbrev cX11_above : ByteArray := prog_13_method_4_code
def yX11_above : MethodName := ⟨RX11, "above", "(II)I"⟩
abbrev cX11_letter : ByteArray := prog_13_method_5_code
def yX11_letter : MethodName := ⟨RX11, "letter", "(I)I"⟩
abbrev cX11_blank : ByteArray := prog_13_method_6_code
def yX11_blank : MethodName := ⟨RX11, "blank", "()I"⟩
abbrev cX11_kindBy : ByteArray := prog_13_method_7_code
def yX11_kindBy : MethodName := ⟨RX11, "kindBy", "(I)I"⟩
abbrev cX11_isCorner : ByteArray := prog_13_method_8_code
def yX11_isCorner : MethodName := ⟨RX11, "isCorner", "(I)Z"⟩
abbrev cX11_isStreetLetter : ByteArray := prog_13_method_9_code
def yX11_isStreetLetter : MethodName := ⟨RX11, "isStreetLetter", "(I)Z"⟩
abbrev cX11_faultOf : ByteArray := prog_13_method_10_code
def yX11_faultOf : MethodName := ⟨RX11, "faultOf", "()I"⟩
abbrev cX11_fault : ByteArray := prog_13_method_11_code
def yX11_fault : MethodName := ⟨RX11, "fault", "()I"⟩
abbrev cX11_city : ByteArray := prog_13_method_12_code
def yX11_city : MethodName := ⟨RX11, "city", "()I"⟩
abbrev cX11_lacks : ByteArray := prog_13_method_13_code
def yX11_lacks : MethodName := ⟨RX11, "lacks", "()Z"⟩
abbrev cX11_isStreet : ByteArray := prog_13_method_14_code
def yX11_isStreet : MethodName := ⟨RX11, "isStreet", "(I)Z"⟩
abbrev cX11_isNote : ByteArray := prog_13_method_15_code
def yX11_isNote : MethodName := ⟨RX11, "isNote", "(I)Z"⟩
abbrev cX11_isTuneText : ByteArray := prog_13_method_16_code
def yX11_isTuneText : MethodName := ⟨RX11, "isTuneText", "()Z"⟩
abbrev cX11_tune : ByteArray := prog_13_method_17_code
def yX11_tune : MethodName := ⟨RX11, "tune", "(I)I"⟩
abbrev cX11_manyOf : ByteArray := prog_13_method_18_code
def yX11_manyOf : MethodName := ⟨RX11, "manyOf", "(I)I"⟩
abbrev cX11_isTune : ByteArray := prog_13_method_19_code
def yX11_isTune : MethodName := ⟨RX11, "isTune", "(I)Z"⟩
abbrev cX11_areBoth : ByteArray := prog_13_method_20_code
def yX11_areBoth : MethodName := ⟨RX11, "areBoth", "()Z"⟩
abbrev cX11_noteAt : ByteArray := prog_13_method_21_code
def yX11_noteAt : MethodName := ⟨RX11, "noteAt", "(II)I"⟩
abbrev cX11_tritonesOf : ByteArray := prog_13_method_22_code
def yX11_tritonesOf : MethodName := ⟨RX11, "tritonesOf", "([II)I"⟩
abbrev cX11_isInScale : ByteArray := prog_13_method_23_code
def yX11_isInScale : MethodName := ⟨RX11, "isInScale", "(II)Z"⟩
abbrev cX11_inKey : ByteArray := prog_13_method_24_code
def yX11_inKey : MethodName := ⟨RX11, "inKey", "(II)I"⟩
abbrev cX11_keyOf : ByteArray := prog_13_method_25_code
def yX11_keyOf : MethodName := ⟨RX11, "keyOf", "(I)I"⟩
abbrev cX11_notesOf : ByteArray := prog_13_method_26_code
def yX11_notesOf : MethodName := ⟨RX11, "notesOf", "(I)I"⟩
abbrev cX11_tellTune : ByteArray := prog_13_method_27_code
def yX11_tellTune : MethodName := ⟨RX11, "tellTune", "(II)I"⟩
abbrev cX11_told : ByteArray := prog_13_method_28_code
def yX11_told : MethodName := ⟨RX11, "told", "(II)I"⟩
abbrev cX11_lowered : ByteArray := prog_13_method_29_code
def yX11_lowered : MethodName := ⟨RX11, "lowered", "(II)I"⟩
abbrev cX11_go : ByteArray := prog_13_method_30_code
def yX11_go : MethodName := ⟨RX11, "go", "(II[II)V"⟩
abbrev cX11_comesOut : ByteArray := prog_13_method_31_code
def yX11_comesOut : MethodName := ⟨RX11, "comesOut", "(III)I"⟩
abbrev cX11_goStreet : ByteArray := prog_13_method_32_code
def yX11_goStreet : MethodName := ⟨RX11, "goStreet", "(I[II)V"⟩
abbrev cX11_comes : ByteArray := prog_13_method_33_code
def yX11_comes : MethodName := ⟨RX11, "comes", "(II)I"⟩
abbrev cX11_leavesOf : ByteArray := prog_13_method_34_code
def yX11_leavesOf : MethodName := ⟨RX11, "leavesOf", "(I)I"⟩
abbrev cX11_isAs : ByteArray := prog_13_method_35_code
def yX11_isAs : MethodName := ⟨RX11, "isAs", "([II[II)Z"⟩
abbrev cX11_againOf : ByteArray := prog_13_method_36_code
def yX11_againOf : MethodName := ⟨RX11, "againOf", "(I)I"⟩
abbrev cX11_endsAt : ByteArray := prog_13_method_37_code
def yX11_endsAt : MethodName := ⟨RX11, "endsAt", "(II)Z"⟩
abbrev cX11_otherEnd : ByteArray := prog_13_method_38_code
def yX11_otherEnd : MethodName := ⟨RX11, "otherEnd", "(II)I"⟩
abbrev cX11_isOpen : ByteArray := prog_13_method_39_code
def yX11_isOpen : MethodName := ⟨RX11, "isOpen", "(I[II)Z"⟩
abbrev cX11_tellStreet : ByteArray := prog_13_method_40_code
def yX11_tellStreet : MethodName := ⟨RX11, "tellStreet", "(II)I"⟩
abbrev cX11_street : ByteArray := prog_13_method_41_code
def yX11_street : MethodName := ⟨RX11, "street", "(II)I"⟩
abbrev cX11_as : ByteArray := prog_13_method_42_code
def yX11_as : MethodName := ⟨RX11, "as", "(II)I"⟩
abbrev cX11_walk : ByteArray := prog_13_method_43_code
def yX11_walk : MethodName := ⟨RX11, "walk", "(I)I"⟩
abbrev cX11_stand : ByteArray := prog_13_method_44_code
def yX11_stand : MethodName := ⟨RX11, "stand", "(I)I"⟩
abbrev cX11_dusk : ByteArray := prog_13_method_45_code
def yX11_dusk : MethodName := ⟨RX11, "dusk", "()I"⟩
abbrev cX11_sing : ByteArray := prog_13_method_46_code
def yX11_sing : MethodName := ⟨RX11, "sing", "(III)I"⟩
abbrev cX11_raise : ByteArray := prog_13_method_47_code
def yX11_raise : MethodName := ⟨RX11, "raise", "(II)I"⟩
abbrev cX11_beginWalk : ByteArray := prog_13_method_48_code
def yX11_beginWalk : MethodName := ⟨RX11, "beginWalk", "()V"⟩
abbrev cX11_goOn : ByteArray := prog_13_method_49_code
def yX11_goOn : MethodName := ⟨RX11, "goOn", "(II)Z"⟩
abbrev cX11_isThere : ByteArray := prog_13_method_50_code
def yX11_isThere : MethodName := ⟨RX11, "isThere", "(I)Z"⟩
abbrev cX11_layWay : ByteArray := prog_13_method_51_code
def yX11_layWay : MethodName := ⟨RX11, "layWay", "(I)Z"⟩
abbrev cX11_wayOf : ByteArray := prog_13_method_52_code
def yX11_wayOf : MethodName := ⟨RX11, "wayOf", "(I)I"⟩
abbrev cX11_way : ByteArray := prog_13_method_53_code
def yX11_way : MethodName := ⟨RX11, "way", "(I)I"⟩
abbrev cX11_meet : ByteArray := prog_13_method_54_code
def yX11_meet : MethodName := ⟨RX11, "meet", "(I)V"⟩
abbrev cX11_becomeOf : ByteArray := prog_13_method_55_code
def yX11_becomeOf : MethodName := ⟨RX11, "becomeOf", "(I)I"⟩
abbrev cX11_become : ByteArray := prog_13_method_56_code
def yX11_become : MethodName := ⟨RX11, "become", "(I)I"⟩
abbrev cX11_apartOf : ByteArray := prog_13_method_57_code
def yX11_apartOf : MethodName := ⟨RX11, "apartOf", "([II[II)I"⟩
abbrev cX11_apart : ByteArray := prog_13_method_58_code
def yX11_apart : MethodName := ⟨RX11, "apart", "()I"⟩
abbrev cX11_nearOf : ByteArray := prog_13_method_59_code
def yX11_nearOf : MethodName := ⟨RX11, "nearOf", "()I"⟩
abbrev cX11_near : ByteArray := prog_13_method_60_code
def yX11_near : MethodName := ⟨RX11, "near", "()I"⟩
abbrev cX11_see : ByteArray := prog_13_method_61_code
def yX11_see : MethodName := ⟨RX11, "see", "(III)I"⟩
abbrev cX11_forget : ByteArray := prog_13_method_62_code
def yX11_forget : MethodName := ⟨RX11, "forget", "()I"⟩
abbrev cX11_tonicsOf : ByteArray := prog_13_method_63_code
def yX11_tonicsOf : MethodName := ⟨RX11, "tonicsOf", "(I)I"⟩
abbrev cX11_askOf : ByteArray := prog_13_method_64_code
def yX11_askOf : MethodName := ⟨RX11, "askOf", "(I)I"⟩
abbrev cX11_draw : ByteArray := prog_13_method_65_code
def yX11_draw : MethodName := ⟨RX11, "draw", "(I)I"⟩
abbrev cX11_endsMany : ByteArray := prog_13_method_66_code
def yX11_endsMany : MethodName := ⟨RX11, "endsMany", "(I)I"⟩
abbrev cX11_endsNo : ByteArray := prog_13_method_67_code
def yX11_endsNo : MethodName := ⟨RX11, "endsNo", "(II)I"⟩
abbrev cX11_wander : ByteArray := prog_13_method_68_code
def yX11_wander : MethodName := ⟨RX11, "wander", "(III)I"⟩
abbrev cX11_image : ByteArray := prog_13_method_69_code
def yX11_image : MethodName := ⟨RX11, "image", "()I"⟩
abbrev cX11_restore : ByteArray := prog_13_method_70_code
def yX11_restore : MethodName := ⟨RX11, "restore", "()I"⟩
abbrev cX11_openMany : ByteArray := prog_13_method_71_code
def yX11_openMany : MethodName := ⟨RX11, "openMany", "()I"⟩
abbrev cX11_countOf : ByteArray := prog_13_method_72_code
def yX11_countOf : MethodName := ⟨RX11, "countOf", "(I)I"⟩
abbrev cX11_count : ByteArray := prog_13_method_73_code
def yX11_count : MethodName := ⟨RX11, "count", "(I)I"⟩
abbrev cX11_say : ByteArray := prog_13_method_74_code
def yX11_say : MethodName := ⟨RX11, "say", "(J)V"⟩
abbrev cX11_sayTune : ByteArray := prog_13_method_75_code
def yX11_sayTune : MethodName := ⟨RX11, "sayTune", "(I)V"⟩
abbrev cX11_digest : ByteArray := prog_13_method_76_code
def yX11_digest : MethodName := ⟨RX11, "digest", "()J"⟩
def RJ11 : String := "java/lang/Character"
abbrev cJ11_isValidCodePoint_9a6ad : ByteArray := prog_14_method_11_code
def yJ11_isValidCodePoint_9a6ad : MethodName := ⟨RJ11, "isValidCodePoint", "(I)Z"⟩
abbrev cJ11_highSurrogate_5068e : ByteArray := prog_14_method_28_code
def yJ11_highSurrogate_5068e : MethodName := ⟨RJ11, "highSurrogate", "(I)C"⟩
abbrev cJ11_lowSurrogate_5068e : ByteArray := prog_14_method_29_code
def yJ11_lowSurrogate_5068e : MethodName := ⟨RJ11, "lowSurrogate", "(I)C"⟩
def RJ9 : String := "java/lang/Math"
abbrev cJ9_abs_0f7a4 : ByteArray := prog_15_method_59_code
def yJ9_abs_0f7a4 : MethodName := ⟨RJ9, "abs", "(I)I"⟩
abbrev cJ9_max_7cf53 : ByteArray := prog_15_method_65_code
def yJ9_max_7cf53 : MethodName := ⟨RJ9, "max", "(II)I"⟩
abbrev cJ9_min_7cf53 : ByteArray := prog_15_method_69_code
def yJ9_min_7cf53 : MethodName := ⟨RJ9, "min", "(II)I"⟩
def RJ0 : String := "java/lang/String"
abbrev cJ0_length_8abf5 : ByteArray := prog_16_method_54_code
def yJ0_length_8abf5 : MethodName := ⟨RJ0, "length", "()I"⟩
abbrev cJ0_indexOf_0f7a4 : ByteArray := prog_16_method_79_code
def yJ0_indexOf_0f7a4 : MethodName := ⟨RJ0, "indexOf", "(I)I"⟩
abbrev cJ0_indexOf_7cf53 : ByteArray := prog_16_method_80_code
def yJ0_indexOf_7cf53 : MethodName := ⟨RJ0, "indexOf", "(II)I"⟩
abbrev cJ0_coder_7d493 : ByteArray := prog_16_method_152_code
def yJ0_coder_7d493 : MethodName := ⟨RJ0, "coder", "()B"⟩
abbrev cJ0_isLatin1_aae02 : ByteArray := prog_16_method_154_code
def yJ0_isLatin1_aae02 : MethodName := ⟨RJ0, "isLatin1", "()Z"⟩
abbrev cJ0_checkBoundsBeginEnd_23922 : ByteArray := prog_16_method_158_code
def yJ0_checkBoundsBeginEnd_23922 : MethodName := ⟨RJ0, "checkBoundsBeginEnd", "(III)V"⟩
def RJ1 : String := "java/lang/StringLatin1"
abbrev cJ1_canEncode_9a6ad : ByteArray := prog_17_method_4_code
def yJ1_canEncode_9a6ad : MethodName := ⟨RJ1, "canEncode", "(I)Z"⟩
abbrev cJ1_indexOf_4cfef : ByteArray := prog_17_method_22_code
def yJ1_indexOf_4cfef : MethodName := ⟨RJ1, "indexOf", "([BIII)I"⟩
abbrev cJ1_indexOfChar_4cfef : ByteArray := prog_17_method_23_code
def yJ1_indexOfChar_4cfef : MethodName := ⟨RJ1, "indexOfChar", "([BIII)I"⟩
def RJ2 : String := "java/lang/StringUTF16"
abbrev cJ2_getChar_3b067 : ByteArray := prog_18_method_5_code
def yJ2_getChar_3b067 : MethodName := ⟨RJ2, "getChar", "([BI)C"⟩
abbrev cJ2_length_9d52b : ByteArray := prog_18_method_6_code
def yJ2_length_9d52b : MethodName := ⟨RJ2, "length", "([B)I"⟩
abbrev cJ2_indexOf_4cfef : ByteArray := prog_18_method_40_code
def yJ2_indexOf_4cfef : MethodName := ⟨RJ2, "indexOf", "([BIII)I"⟩
abbrev cJ2_indexOfChar_4cfef : ByteArray := prog_18_method_47_code
def yJ2_indexOfChar_4cfef : MethodName := ⟨RJ2, "indexOfChar", "([BIII)I"⟩
abbrev cJ2_indexOfCharUnsafe_4cfef : ByteArray := prog_18_method_48_code
def yJ2_indexOfCharUnsafe_4cfef : MethodName := ⟨RJ2, "indexOfCharUnsafe", "([BIII)I"⟩
abbrev cJ2_indexOfSupplementary_4cfef : ByteArray := prog_18_method_49_code
def yJ2_indexOfSupplementary_4cfef : MethodName := ⟨RJ2, "indexOfSupplementary", "([BIII)I"⟩
abbrev cJ2_checkBoundsBeginEnd_d044e : ByteArray := prog_18_method_93_code
def yJ2_checkBoundsBeginEnd_d044e : MethodName := ⟨RJ2, "checkBoundsBeginEnd", "(II[B)V"⟩
def RJ10 : String := "java/lang/System"
def RJ3 : String := "jdk/internal/util/Preconditions"
abbrev cJ3_checkFromToIndex_8c36e : ByteArray := prog_20_method_12_code
def yJ3_checkFromToIndex_8c36e : MethodName := ⟨RJ3, "checkFromToIndex", "(IIILjava/util/function/BiFunction;)I"⟩
def RL : String := "KeyStreetsLaw"
abbrev cL_law : ByteArray := code
def yL_law : MethodName := ⟨RL, "law", "([I)Z"⟩
abbrev vwCl : List vw_C := [(RX0, TX0, 2), (RX1, TX1, 3), (RX2, TX2, 2), (RX3, TX3, 11), (RX4, TX4, 2), (RX5, TX5, 2), (RX6, TX6, 2), (RX7, TX7, 2), (RX9, TX9, 9), (RX10, TX10, 8), (RX11, TX11, 40)]
end
section
theorem dX0_init_0 : decode cX0_init 0 = .ok (.aload_n 0, 1) := by decide +kernel
theorem dX0_init_1 : decode cX0_init 1 = .ok (.iload_n 1, 1) := by decide +kernel
theorem dX0_init_2 : decode cX0_init 2 = .ok (.iload_n 2, 1) := by decide +kernel
theorem dX0_init_3 : decode cX0_init 3 = .ok (.invokespecial 3, 3) := by decide +kernel
theorem dX0_init_6 : decode cX0_init 6 = .ok (.return_, 1) := by decide +kernel
theorem dX0_kind_0 : decode cX0_kind 0 = .ok (.iconst 2, 1) := by decide +kernel
theorem dX0_kind_1 : decode cX0_kind 1 = .ok (.ireturn, 1) := by decide +kernel
theorem dX0_heard_0 : decode cX0_heard 0 = .ok (.iload 4, 2) := by decide +kernel
theorem dX0_heard_2 : decode cX0_heard 2 = .ok (.lload_n 1, 1) := by decide +kernel
theorem dX0_heard_3 : decode cX0_heard 3 = .ok (.iload_n 3, 1) := by decide +kernel
theorem dX0_heard_4 : decode cX0_heard 4 = .ok (.invokestatic 9, 3) := by decide +kernel
theorem dX0_heard_7 : decode cX0_heard 7 = .ok (.invokestatic 15, 3) := by decide +kernel
theorem dX0_heard_10 : decode cX0_heard 10 = .ok (.ireturn, 1) := by decide +kernel
theorem dX0_open_0 : decode cX0_open 0 = .ok (.iload_n 3, 1) := by decide +kernel
theorem dX0_open_1 : decode cX0_open 1 = .ok (.ifCond .eq 10, 3) := by decide +kernel
theorem dX0_open_4 : decode cX0_open 4 = .ok (.lload_n 1, 1) := by decide +kernel
theorem dX0_open_5 : decode cX0_open 5 = .ok (.invokestatic 19, 3) := by decide +kernel
theorem dX0_open_8 : decode cX0_open 8 = .ok (.ifCond .ne 7, 3) := by decide +kernel
theorem dX0_open_11 : decode cX0_open 11 = .ok (.iconst 1, 1) := by decide +kernel
theorem dX0_open_12 : decode cX0_open 12 = .ok (.goto 4, 3) := by decide +kernel
theorem dX0_open_15 : decode cX0_open 15 = .ok (.iconst 0, 1) := by decide +kernel
theorem dX0_open_16 : decode cX0_open 16 = .ok (.ireturn, 1) := by decide +kernel
theorem dX1_init_0 : decode cX1_init 0 = .ok (.aload_n 0, 1) := by decide +kernel
theorem dX1_init_1 : decode cX1_init 1 = .ok (.invokespecial 3, 3) := by decide +kernel
theorem dX1_init_4 : decode cX1_init 4 = .ok (.aload_n 0, 1) := by decide +kernel
theorem dX1_init_5 : decode cX1_init 5 = .ok (.bipush 8, 2) := by decide +kernel
theorem dX1_init_7 : decode cX1_init 7 = .ok (.anewarray 9, 3) := by decide +kernel
theorem dX1_init_10 : decode cX1_init 10 = .ok (.putfield 11, 3) := by decide +kernel
theorem dX1_init_13 : decode cX1_init 13 = .ok (.return_, 1) := by decide +kernel
theorem dX1_read_0 : decode cX1_read 0 = .ok (.aload_n 0, 1) := by decide +kernel
theorem dX1_read_1 : decode cX1_read 1 = .ok (.aload_n 1, 1) := by decide +kernel
theorem dX1_read_2 : decode cX1_read 2 = .ok (.iconst 0, 1) := by decide +kernel
theorem dX1_read_3 : decode cX1_read 3 = .ok (.invokevirtual 17, 3) := by decide +kernel
theorem dX1_read_6 : decode cX1_read 6 = .ok (.putfield 23, 3) := by decide +kernel
theorem dX1_read_9 : decode cX1_read 9 = .ok (.aload_n 0, 1) := by decide +kernel
theorem dX1_read_10 : decode cX1_read 10 = .ok (.aload_n 1, 1) := by decide +kernel
theorem dX1_read_11 : decode cX1_read 11 = .ok (.invokevirtual 27, 3) := by decide +kernel
theorem dX1_read_14 : decode cX1_read 14 = .ok (.aload_n 0, 1) := by decide +kernel
theorem dX1_read_15 : decode cX1_read 15 = .ok (.getfield 11, 3) := by decide +kernel
theorem dX1_read_18 : decode cX1_read 18 = .ok (.arraylength, 1) := by decide +kernel
theorem dX1_read_19 : decode cX1_read 19 = .ok (.invokestatic 30, 3) := by decide +kernel
theorem dX1_read_22 : decode cX1_read 22 = .ok (.putfield 36, 3) := by decide +kernel
theorem dX1_read_25 : decode cX1_read 25 = .ok (.iconst 0, 1) := by decide +kernel
theorem dX1_read_26 : decode cX1_read 26 = .ok (.istore_n 2, 1) := by decide +kernel
theorem dX1_read_27 : decode cX1_read 27 = .ok (.iload_n 2, 1) := by decide +kernel
theorem dX1_read_28 : decode cX1_read 28 = .ok (.aload_n 0, 1) := by decide +kernel
theorem dX1_read_29 : decode cX1_read 29 = .ok (.getfield 36, 3) := by decide +kernel
theorem dX1_read_32 : decode cX1_read 32 = .ok (.if_icmp .ge 33, 3) := by decide +kernel
theorem dX1_read_35 : decode cX1_read 35 = .ok (.aload_n 0, 1) := by decide +kernel
theorem dX1_read_36 : decode cX1_read 36 = .ok (.getfield 11, 3) := by decide +kernel
theorem dX1_read_39 : decode cX1_read 39 = .ok (.iload_n 2, 1) := by decide +kernel
theorem dX1_read_40 : decode cX1_read 40 = .ok (.aload_n 1, 1) := by decide +kernel
theorem dX1_read_41 : decode cX1_read 41 = .ok (.iload_n 2, 1) := by decide +kernel
theorem dX1_read_42 : decode cX1_read 42 = .ok (.invokevirtual 39, 3) := by decide +kernel
theorem dX1_read_45 : decode cX1_read 45 = .ok (.aload_n 1, 1) := by decide +kernel
theorem dX1_read_46 : decode cX1_read 46 = .ok (.iload_n 2, 1) := by decide +kernel
theorem dX1_read_47 : decode cX1_read 47 = .ok (.invokevirtual 42, 3) := by decide +kernel
theorem dX1_read_50 : decode cX1_read 50 = .ok (.aload_n 1, 1) := by decide +kernel
theorem dX1_read_51 : decode cX1_read 51 = .ok (.iload_n 2, 1) := by decide +kernel
theorem dX1_read_52 : decode cX1_read 52 = .ok (.invokevirtual 45, 3) := by decide +kernel
theorem dX1_read_55 : decode cX1_read 55 = .ok (.invokestatic 48, 3) := by decide +kernel
theorem dX1_read_58 : decode cX1_read 58 = .ok (.aastore, 1) := by decide +kernel
theorem dX1_read_59 : decode cX1_read 59 = .ok (.iinc 2 1, 3) := by decide +kernel
theorem dX1_read_62 : decode cX1_read 62 = .ok (.goto (-35), 3) := by decide +kernel
theorem dX1_read_65 : decode cX1_read 65 = .ok (.return_, 1) := by decide +kernel
theorem dX1_make_0 : decode cX1_make 0 = .ok (.iload_n 0, 1) := by decide +kernel
theorem dX1_make_1 : decode cX1_make 1 = .ok (.tableswitch 71 1 4 #[31, 41, 51, 61], 31) := by decide +kernel
theorem dX1_make_32 : decode cX1_make 32 = .ok (.new 52, 3) := by decide +kernel
theorem dX1_make_35 : decode cX1_make 35 = .ok (.dup, 1) := by decide +kernel
theorem dX1_make_36 : decode cX1_make 36 = .ok (.iload_n 1, 1) := by decide +kernel
theorem dX1_make_37 : decode cX1_make 37 = .ok (.iload_n 2, 1) := by decide +kernel
theorem dX1_make_38 : decode cX1_make 38 = .ok (.invokespecial 54, 3) := by decide +kernel
theorem dX1_make_41 : decode cX1_make 41 = .ok (.areturn, 1) := by decide +kernel
theorem dX1_make_42 : decode cX1_make 42 = .ok (.new 57, 3) := by decide +kernel
theorem dX1_make_45 : decode cX1_make 45 = .ok (.dup, 1) := by decide +kernel
theorem dX1_make_46 : decode cX1_make 46 = .ok (.iload_n 1, 1) := by decide +kernel
theorem dX1_make_47 : decode cX1_make 47 = .ok (.iload_n 2, 1) := by decide +kernel
theorem dX1_make_48 : decode cX1_make 48 = .ok (.invokespecial 59, 3) := by decide +kernel
theorem dX1_make_51 : decode cX1_make 51 = .ok (.areturn, 1) := by decide +kernel
theorem dX1_make_52 : decode cX1_make 52 = .ok (.new 60, 3) := by decide +kernel
theorem dX1_make_55 : decode cX1_make 55 = .ok (.dup, 1) := by decide +kernel
theorem dX1_make_56 : decode cX1_make 56 = .ok (.iload_n 1, 1) := by decide +kernel
theorem dX1_make_57 : decode cX1_make 57 = .ok (.iload_n 2, 1) := by decide +kernel
theorem dX1_make_58 : decode cX1_make 58 = .ok (.invokespecial 62, 3) := by decide +kernel
theorem dX1_make_61 : decode cX1_make 61 = .ok (.areturn, 1) := by decide +kernel
theorem dX1_make_62 : decode cX1_make 62 = .ok (.new 63, 3) := by decide +kernel
theorem dX1_make_65 : decode cX1_make 65 = .ok (.dup, 1) := by decide +kernel
theorem dX1_make_66 : decode cX1_make 66 = .ok (.iload_n 1, 1) := by decide +kernel
theorem dX1_make_67 : decode cX1_make 67 = .ok (.iload_n 2, 1) := by decide +kernel
theorem dX1_make_68 : decode cX1_make 68 = .ok (.invokespecial 65, 3) := by decide +kernel
theorem dX1_make_71 : decode cX1_make 71 = .ok (.areturn, 1) := by decide +kernel
theorem dX1_make_72 : decode cX1_make 72 = .ok (.new 9, 3) := by decide +kernel
theorem dX1_make_75 : decode cX1_make 75 = .ok (.dup, 1) := by decide +kernel
theorem dX1_make_76 : decode cX1_make 76 = .ok (.iload_n 1, 1) := by decide +kernel
theorem dX1_make_77 : decode cX1_make 77 = .ok (.iload_n 2, 1) := by decide +kernel
theorem dX1_make_78 : decode cX1_make 78 = .ok (.invokespecial 66, 3) := by decide +kernel
theorem dX1_make_81 : decode cX1_make 81 = .ok (.areturn, 1) := by decide +kernel
theorem dX1_at_0 : decode cX1_at 0 = .ok (.iload_n 1, 1) := by decide +kernel
theorem dX1_at_1 : decode cX1_at 1 = .ok (.ifCond .lt 29, 3) := by decide +kernel
theorem dX1_at_4 : decode cX1_at 4 = .ok (.iload_n 1, 1) := by decide +kernel
theorem dX1_at_5 : decode cX1_at 5 = .ok (.aload_n 0, 1) := by decide +kernel
theorem dX1_at_6 : decode cX1_at 6 = .ok (.getfield 36, 3) := by decide +kernel
theorem dX1_at_9 : decode cX1_at 9 = .ok (.if_icmp .ge 21, 3) := by decide +kernel
theorem dX1_at_12 : decode cX1_at 12 = .ok (.iload_n 1, 1) := by decide +kernel
theorem dX1_at_13 : decode cX1_at 13 = .ok (.aload_n 0, 1) := by decide +kernel
theorem dX1_at_14 : decode cX1_at 14 = .ok (.getfield 11, 3) := by decide +kernel
theorem dX1_at_17 : decode cX1_at 17 = .ok (.arraylength, 1) := by decide +kernel
theorem dX1_at_18 : decode cX1_at 18 = .ok (.if_icmp .ge 12, 3) := by decide +kernel
theorem dX1_at_21 : decode cX1_at 21 = .ok (.aload_n 0, 1) := by decide +kernel
theorem dX1_at_22 : decode cX1_at 22 = .ok (.getfield 11, 3) := by decide +kernel
theorem dX1_at_25 : decode cX1_at 25 = .ok (.iload_n 1, 1) := by decide +kernel
theorem dX1_at_26 : decode cX1_at 26 = .ok (.aaload, 1) := by decide +kernel
theorem dX1_at_27 : decode cX1_at 27 = .ok (.goto 4, 3) := by decide +kernel
theorem dX1_at_30 : decode cX1_at 30 = .ok (.aconst_null, 1) := by decide +kernel
theorem dX1_at_31 : decode cX1_at 31 = .ok (.areturn, 1) := by decide +kernel
theorem dX1_from_0 : decode cX1_from 0 = .ok (.aload_n 0, 1) := by decide +kernel
theorem dX1_from_1 : decode cX1_from 1 = .ok (.iload_n 2, 1) := by decide +kernel
theorem dX1_from_2 : decode cX1_from 2 = .ok (.invokevirtual 67, 3) := by decide +kernel
theorem dX1_from_5 : decode cX1_from 5 = .ok (.astore_n 3, 1) := by decide +kernel
theorem dX1_from_6 : decode cX1_from 6 = .ok (.aload_n 3, 1) := by decide +kernel
theorem dX1_from_7 : decode cX1_from 7 = .ok (.ifnull 15, 3) := by decide +kernel
theorem dX1_from_10 : decode cX1_from 10 = .ok (.aload_n 3, 1) := by decide +kernel
theorem dX1_from_11 : decode cX1_from 11 = .ok (.iload_n 1, 1) := by decide +kernel
theorem dX1_from_12 : decode cX1_from 12 = .ok (.invokevirtual 71, 3) := by decide +kernel
theorem dX1_from_15 : decode cX1_from 15 = .ok (.ifCond .eq 7, 3) := by decide +kernel
theorem dX1_from_18 : decode cX1_from 18 = .ok (.aload_n 3, 1) := by decide +kernel
theorem dX1_from_19 : decode cX1_from 19 = .ok (.goto 4, 3) := by decide +kernel
theorem dX1_from_22 : decode cX1_from 22 = .ok (.aconst_null, 1) := by decide +kernel
theorem dX1_from_23 : decode cX1_from 23 = .ok (.areturn, 1) := by decide +kernel
theorem dX1_countAt_0 : decode cX1_countAt 0 = .ok (.iconst 0, 1) := by decide +kernel
theorem dX1_countAt_1 : decode cX1_countAt 1 = .ok (.istore_n 2, 1) := by decide +kernel
theorem dX1_countAt_2 : decode cX1_countAt 2 = .ok (.iconst 0, 1) := by decide +kernel
theorem dX1_countAt_3 : decode cX1_countAt 3 = .ok (.istore_n 3, 1) := by decide +kernel
theorem dX1_countAt_4 : decode cX1_countAt 4 = .ok (.iload_n 3, 1) := by decide +kernel
theorem dX1_countAt_5 : decode cX1_countAt 5 = .ok (.aload_n 0, 1) := by decide +kernel
theorem dX1_countAt_6 : decode cX1_countAt 6 = .ok (.getfield 36, 3) := by decide +kernel
theorem dX1_countAt_9 : decode cX1_countAt 9 = .ok (.if_icmp .ge 21, 3) := by decide +kernel
theorem dX1_countAt_12 : decode cX1_countAt 12 = .ok (.aload_n 0, 1) := by decide +kernel
theorem dX1_countAt_13 : decode cX1_countAt 13 = .ok (.iload_n 1, 1) := by decide +kernel
theorem dX1_countAt_14 : decode cX1_countAt 14 = .ok (.iload_n 3, 1) := by decide +kernel
theorem dX1_countAt_15 : decode cX1_countAt 15 = .ok (.invokevirtual 75, 3) := by decide +kernel
theorem dX1_countAt_18 : decode cX1_countAt 18 = .ok (.ifnull 6, 3) := by decide +kernel
theorem dX1_countAt_21 : decode cX1_countAt 21 = .ok (.iinc 2 1, 3) := by decide +kernel
theorem dX1_countAt_24 : decode cX1_countAt 24 = .ok (.iinc 3 1, 3) := by decide +kernel
theorem dX1_countAt_27 : decode cX1_countAt 27 = .ok (.goto (-23), 3) := by decide +kernel
theorem dX1_countAt_30 : decode cX1_countAt 30 = .ok (.iload_n 2, 1) := by decide +kernel
theorem dX1_countAt_31 : decode cX1_countAt 31 = .ok (.ireturn, 1) := by decide +kernel
theorem dX1_numberAt_0 : decode cX1_numberAt 0 = .ok (.iconst 0, 1) := by decide +kernel
theorem dX1_numberAt_1 : decode cX1_numberAt 1 = .ok (.istore_n 3, 1) := by decide +kernel
theorem dX1_numberAt_2 : decode cX1_numberAt 2 = .ok (.iconst 0, 1) := by decide +kernel
theorem dX1_numberAt_3 : decode cX1_numberAt 3 = .ok (.istore 4, 2) := by decide +kernel
theorem dX1_numberAt_5 : decode cX1_numberAt 5 = .ok (.iload 4, 2) := by decide +kernel
theorem dX1_numberAt_7 : decode cX1_numberAt 7 = .ok (.aload_n 0, 1) := by decide +kernel
theorem dX1_numberAt_8 : decode cX1_numberAt 8 = .ok (.getfield 36, 3) := by decide +kernel
theorem dX1_numberAt_11 : decode cX1_numberAt 11 = .ok (.if_icmp .ge 30, 3) := by decide +kernel
theorem dX1_numberAt_14 : decode cX1_numberAt 14 = .ok (.aload_n 0, 1) := by decide +kernel
theorem dX1_numberAt_15 : decode cX1_numberAt 15 = .ok (.iload_n 1, 1) := by decide +kernel
theorem dX1_numberAt_16 : decode cX1_numberAt 16 = .ok (.iload 4, 2) := by decide +kernel
theorem dX1_numberAt_18 : decode cX1_numberAt 18 = .ok (.invokevirtual 75, 3) := by decide +kernel
theorem dX1_numberAt_21 : decode cX1_numberAt 21 = .ok (.ifnull 14, 3) := by decide +kernel
theorem dX1_numberAt_24 : decode cX1_numberAt 24 = .ok (.iload_n 3, 1) := by decide +kernel
theorem dX1_numberAt_25 : decode cX1_numberAt 25 = .ok (.iload_n 2, 1) := by decide +kernel
theorem dX1_numberAt_26 : decode cX1_numberAt 26 = .ok (.if_icmp .ne 6, 3) := by decide +kernel
theorem dX1_numberAt_29 : decode cX1_numberAt 29 = .ok (.iload 4, 2) := by decide +kernel
theorem dX1_numberAt_31 : decode cX1_numberAt 31 = .ok (.ireturn, 1) := by decide +kernel
theorem dX1_numberAt_32 : decode cX1_numberAt 32 = .ok (.iinc 3 1, 3) := by decide +kernel
theorem dX1_numberAt_35 : decode cX1_numberAt 35 = .ok (.iinc 4 1, 3) := by decide +kernel
theorem dX1_numberAt_38 : decode cX1_numberAt 38 = .ok (.goto (-33), 3) := by decide +kernel
theorem dX1_numberAt_41 : decode cX1_numberAt 41 = .ok (.iconst (-1), 1) := by decide +kernel
theorem dX1_numberAt_42 : decode cX1_numberAt 42 = .ok (.ireturn, 1) := by decide +kernel
theorem dX2_init_0 : decode cX2_init 0 = .ok (.aload_n 0, 1) := by decide +kernel
theorem dX2_init_1 : decode cX2_init 1 = .ok (.iload_n 1, 1) := by decide +kernel
theorem dX2_init_2 : decode cX2_init 2 = .ok (.iload_n 2, 1) := by decide +kernel
theorem dX2_init_3 : decode cX2_init 3 = .ok (.invokespecial 3, 3) := by decide +kernel
theorem dX2_init_6 : decode cX2_init 6 = .ok (.return_, 1) := by decide +kernel
theorem dX2_kind_0 : decode cX2_kind 0 = .ok (.iconst 1, 1) := by decide +kernel
theorem dX2_kind_1 : decode cX2_kind 1 = .ok (.ireturn, 1) := by decide +kernel
theorem dX2_heard_0 : decode cX2_heard 0 = .ok (.lload_n 1, 1) := by decide +kernel
theorem dX2_heard_1 : decode cX2_heard 1 = .ok (.iload_n 3, 1) := by decide +kernel
theorem dX2_heard_2 : decode cX2_heard 2 = .ok (.invokestatic 9, 3) := by decide +kernel
theorem dX2_heard_5 : decode cX2_heard 5 = .ok (.istore 5, 2) := by decide +kernel
theorem dX2_heard_7 : decode cX2_heard 7 = .ok (.iload 5, 2) := by decide +kernel
theorem dX2_heard_9 : decode cX2_heard 9 = .ok (.iload 4, 2) := by decide +kernel
theorem dX2_heard_11 : decode cX2_heard 11 = .ok (.invokestatic 15, 3) := by decide +kernel
theorem dX2_heard_14 : decode cX2_heard 14 = .ok (.istore 6, 2) := by decide +kernel
theorem dX2_heard_16 : decode cX2_heard 16 = .ok (.iload 6, 2) := by decide +kernel
theorem dX2_heard_18 : decode cX2_heard 18 = .ok (.iconst 4, 1) := by decide +kernel
theorem dX2_heard_19 : decode cX2_heard 19 = .ok (.if_icmp .eq 17, 3) := by decide +kernel
theorem dX2_heard_22 : decode cX2_heard 22 = .ok (.iload 6, 2) := by decide +kernel
theorem dX2_heard_24 : decode cX2_heard 24 = .ok (.bipush 9, 2) := by decide +kernel
theorem dX2_heard_26 : decode cX2_heard 26 = .ok (.if_icmp .eq 10, 3) := by decide +kernel
theorem dX2_heard_29 : decode cX2_heard 29 = .ok (.iload 6, 2) := by decide +kernel
theorem dX2_heard_31 : decode cX2_heard 31 = .ok (.bipush 11, 2) := by decide +kernel
theorem dX2_heard_33 : decode cX2_heard 33 = .ok (.if_icmp .ne 7, 3) := by decide +kernel
theorem dX2_heard_36 : decode cX2_heard 36 = .ok (.iconst 1, 1) := by decide +kernel
theorem dX2_heard_37 : decode cX2_heard 37 = .ok (.goto 4, 3) := by decide +kernel
theorem dX2_heard_40 : decode cX2_heard 40 = .ok (.iconst 0, 1) := by decide +kernel
theorem dX2_heard_41 : decode cX2_heard 41 = .ok (.istore 7, 2) := by decide +kernel
theorem dX2_heard_43 : decode cX2_heard 43 = .ok (.iload 7, 2) := by decide +kernel
theorem dX2_heard_45 : decode cX2_heard 45 = .ok (.ifCond .eq 16, 3) := by decide +kernel
theorem dX2_heard_48 : decode cX2_heard 48 = .ok (.iload 5, 2) := by decide +kernel
theorem dX2_heard_50 : decode cX2_heard 50 = .ok (.bipush 12, 2) := by decide +kernel
theorem dX2_heard_52 : decode cX2_heard 52 = .ok (.iadd, 1) := by decide +kernel
theorem dX2_heard_53 : decode cX2_heard 53 = .ok (.iconst 1, 1) := by decide +kernel
theorem dX2_heard_54 : decode cX2_heard 54 = .ok (.isub, 1) := by decide +kernel
theorem dX2_heard_55 : decode cX2_heard 55 = .ok (.bipush 12, 2) := by decide +kernel
theorem dX2_heard_57 : decode cX2_heard 57 = .ok (.irem, 1) := by decide +kernel
theorem dX2_heard_58 : decode cX2_heard 58 = .ok (.goto 5, 3) := by decide +kernel
theorem dX2_heard_61 : decode cX2_heard 61 = .ok (.iload 5, 2) := by decide +kernel
theorem dX2_heard_63 : decode cX2_heard 63 = .ok (.ireturn, 1) := by decide +kernel
theorem dX3_init_0 : decode cX3_init 0 = .ok (.aload_n 0, 1) := by decide +kernel
theorem dX3_init_1 : decode cX3_init 1 = .ok (.invokespecial 3, 3) := by decide +kernel
theorem dX3_init_4 : decode cX3_init 4 = .ok (.aload_n 0, 1) := by decide +kernel
theorem dX3_init_5 : decode cX3_init 5 = .ok (.bipush 8, 2) := by decide +kernel
theorem dX3_init_7 : decode cX3_init 7 = .ok (.newarray .int, 2) := by decide +kernel
theorem dX3_init_9 : decode cX3_init 9 = .ok (.putfield 9, 3) := by decide +kernel
theorem dX3_init_12 : decode cX3_init 12 = .ok (.aload_n 0, 1) := by decide +kernel
theorem dX3_init_13 : decode cX3_init 13 = .ok (.bipush 8, 2) := by decide +kernel
theorem dX3_init_15 : decode cX3_init 15 = .ok (.newarray .int, 2) := by decide +kernel
theorem dX3_init_17 : decode cX3_init 17 = .ok (.putfield 15, 3) := by decide +kernel
theorem dX3_init_20 : decode cX3_init 20 = .ok (.aload_n 0, 1) := by decide +kernel
theorem dX3_init_21 : decode cX3_init 21 = .ok (.bipush 6, 2) := by decide +kernel
theorem dX3_init_23 : decode cX3_init 23 = .ok (.newarray .int, 2) := by decide +kernel
theorem dX3_init_25 : decode cX3_init 25 = .ok (.putfield 18, 3) := by decide +kernel
theorem dX3_init_28 : decode cX3_init 28 = .ok (.aload_n 0, 1) := by decide +kernel
theorem dX3_init_29 : decode cX3_init 29 = .ok (.bipush 6, 2) := by decide +kernel
theorem dX3_init_31 : decode cX3_init 31 = .ok (.newarray .int, 2) := by decide +kernel
theorem dX3_init_33 : decode cX3_init 33 = .ok (.putfield 21, 3) := by decide +kernel
theorem dX3_init_36 : decode cX3_init 36 = .ok (.aload_n 0, 1) := by decide +kernel
theorem dX3_init_37 : decode cX3_init 37 = .ok (.bipush 6, 2) := by decide +kernel
theorem dX3_init_39 : decode cX3_init 39 = .ok (.newarray .int, 2) := by decide +kernel
theorem dX3_init_41 : decode cX3_init 41 = .ok (.putfield 24, 3) := by decide +kernel
theorem dX3_init_44 : decode cX3_init 44 = .ok (.aload_n 0, 1) := by decide +kernel
theorem dX3_init_45 : decode cX3_init 45 = .ok (.lconst 0, 1) := by decide +kernel
theorem dX3_init_46 : decode cX3_init 46 = .ok (.putfield 27, 3) := by decide +kernel
theorem dX3_init_49 : decode cX3_init 49 = .ok (.aload_n 0, 1) := by decide +kernel
theorem dX3_init_50 : decode cX3_init 50 = .ok (.lconst 0, 1) := by decide +kernel
theorem dX3_init_51 : decode cX3_init 51 = .ok (.putfield 31, 3) := by decide +kernel
theorem dX3_init_54 : decode cX3_init 54 = .ok (.return_, 1) := by decide +kernel
theorem dX3_enter_0 : decode cX3_enter 0 = .ok (.iconst 0, 1) := by decide +kernel
theorem dX3_enter_1 : decode cX3_enter 1 = .ok (.istore_n 3, 1) := by decide +kernel
theorem dX3_enter_2 : decode cX3_enter 2 = .ok (.iload_n 3, 1) := by decide +kernel
theorem dX3_enter_3 : decode cX3_enter 3 = .ok (.iload_n 2, 1) := by decide +kernel
theorem dX3_enter_4 : decode cX3_enter 4 = .ok (.if_icmp .ge 19, 3) := by decide +kernel
theorem dX3_enter_7 : decode cX3_enter 7 = .ok (.aload_n 0, 1) := by decide +kernel
theorem dX3_enter_8 : decode cX3_enter 8 = .ok (.iload_n 3, 1) := by decide +kernel
theorem dX3_enter_9 : decode cX3_enter 9 = .ok (.aload_n 1, 1) := by decide +kernel
theorem dX3_enter_10 : decode cX3_enter 10 = .ok (.iload_n 3, 1) := by decide +kernel
theorem dX3_enter_11 : decode cX3_enter 11 = .ok (.invokevirtual 34, 3) := by decide +kernel
theorem dX3_enter_14 : decode cX3_enter 14 = .ok (.invokevirtual 40, 3) := by decide +kernel
theorem dX3_enter_17 : decode cX3_enter 17 = .ok (.iinc 3 1, 3) := by decide +kernel
theorem dX3_enter_20 : decode cX3_enter 20 = .ok (.goto (-18), 3) := by decide +kernel
theorem dX3_enter_23 : decode cX3_enter 23 = .ok (.iconst 0, 1) := by decide +kernel
theorem dX3_enter_24 : decode cX3_enter 24 = .ok (.istore_n 3, 1) := by decide +kernel
theorem dX3_enter_25 : decode cX3_enter 25 = .ok (.iload_n 3, 1) := by decide +kernel
theorem dX3_enter_26 : decode cX3_enter 26 = .ok (.aload_n 0, 1) := by decide +kernel
theorem dX3_enter_27 : decode cX3_enter 27 = .ok (.getfield 15, 3) := by decide +kernel
theorem dX3_enter_30 : decode cX3_enter 30 = .ok (.arraylength, 1) := by decide +kernel
theorem dX3_enter_31 : decode cX3_enter 31 = .ok (.if_icmp .ge 16, 3) := by decide +kernel
theorem dX3_enter_34 : decode cX3_enter 34 = .ok (.aload_n 0, 1) := by decide +kernel
theorem dX3_enter_35 : decode cX3_enter 35 = .ok (.getfield 15, 3) := by decide +kernel
theorem dX3_enter_38 : decode cX3_enter 38 = .ok (.iload_n 3, 1) := by decide +kernel
theorem dX3_enter_39 : decode cX3_enter 39 = .ok (.iconst 0, 1) := by decide +kernel
theorem dX3_enter_40 : decode cX3_enter 40 = .ok (.iastore, 1) := by decide +kernel
theorem dX3_enter_41 : decode cX3_enter 41 = .ok (.iinc 3 1, 3) := by decide +kernel
theorem dX3_enter_44 : decode cX3_enter 44 = .ok (.goto (-19), 3) := by decide +kernel
theorem dX3_enter_47 : decode cX3_enter 47 = .ok (.aload_n 0, 1) := by decide +kernel
theorem dX3_enter_48 : decode cX3_enter 48 = .ok (.iconst 0, 1) := by decide +kernel
theorem dX3_enter_49 : decode cX3_enter 49 = .ok (.putfield 44, 3) := by decide +kernel
theorem dX3_enter_52 : decode cX3_enter 52 = .ok (.aload_n 0, 1) := by decide +kernel
theorem dX3_enter_53 : decode cX3_enter 53 = .ok (.iconst 0, 1) := by decide +kernel
theorem dX3_enter_54 : decode cX3_enter 54 = .ok (.putfield 48, 3) := by decide +kernel
theorem dX3_enter_57 : decode cX3_enter 57 = .ok (.aload_n 0, 1) := by decide +kernel
theorem dX3_enter_58 : decode cX3_enter 58 = .ok (.iconst 0, 1) := by decide +kernel
theorem dX3_enter_59 : decode cX3_enter 59 = .ok (.putfield 52, 3) := by decide +kernel
theorem dX3_enter_62 : decode cX3_enter 62 = .ok (.aload_n 0, 1) := by decide +kernel
theorem dX3_enter_63 : decode cX3_enter 63 = .ok (.iconst 0, 1) := by decide +kernel
theorem dX3_enter_64 : decode cX3_enter 64 = .ok (.putfield 55, 3) := by decide +kernel
theorem dX3_enter_67 : decode cX3_enter 67 = .ok (.return_, 1) := by decide +kernel
theorem dX3_copy_0 : decode cX3_copy 0 = .ok (.aload_n 1, 1) := by decide +kernel
theorem dX3_copy_1 : decode cX3_copy 1 = .ok (.getfield 9, 3) := by decide +kernel
theorem dX3_copy_4 : decode cX3_copy 4 = .ok (.iconst 0, 1) := by decide +kernel
theorem dX3_copy_5 : decode cX3_copy 5 = .ok (.aload_n 0, 1) := by decide +kernel
theorem dX3_copy_6 : decode cX3_copy 6 = .ok (.getfield 9, 3) := by decide +kernel
theorem dX3_copy_9 : decode cX3_copy 9 = .ok (.iconst 0, 1) := by decide +kernel
theorem dX3_copy_10 : decode cX3_copy 10 = .ok (.bipush 8, 2) := by decide +kernel
theorem dX3_copy_12 : decode cX3_copy 12 = .ok (.invokestatic 58, 3) := by decide +kernel
theorem dX3_copy_15 : decode cX3_copy 15 = .ok (.aload_n 1, 1) := by decide +kernel
theorem dX3_copy_16 : decode cX3_copy 16 = .ok (.getfield 15, 3) := by decide +kernel
theorem dX3_copy_19 : decode cX3_copy 19 = .ok (.iconst 0, 1) := by decide +kernel
theorem dX3_copy_20 : decode cX3_copy 20 = .ok (.aload_n 0, 1) := by decide +kernel
theorem dX3_copy_21 : decode cX3_copy 21 = .ok (.getfield 15, 3) := by decide +kernel
theorem dX3_copy_24 : decode cX3_copy 24 = .ok (.iconst 0, 1) := by decide +kernel
theorem dX3_copy_25 : decode cX3_copy 25 = .ok (.bipush 8, 2) := by decide +kernel
theorem dX3_copy_27 : decode cX3_copy 27 = .ok (.invokestatic 58, 3) := by decide +kernel
theorem dX3_copy_30 : decode cX3_copy 30 = .ok (.aload_n 1, 1) := by decide +kernel
theorem dX3_copy_31 : decode cX3_copy 31 = .ok (.getfield 18, 3) := by decide +kernel
theorem dX3_copy_34 : decode cX3_copy 34 = .ok (.iconst 0, 1) := by decide +kernel
theorem dX3_copy_35 : decode cX3_copy 35 = .ok (.aload_n 0, 1) := by decide +kernel
theorem dX3_copy_36 : decode cX3_copy 36 = .ok (.getfield 18, 3) := by decide +kernel
theorem dX3_copy_39 : decode cX3_copy 39 = .ok (.iconst 0, 1) := by decide +kernel
theorem dX3_copy_40 : decode cX3_copy 40 = .ok (.bipush 6, 2) := by decide +kernel
theorem dX3_copy_42 : decode cX3_copy 42 = .ok (.invokestatic 58, 3) := by decide +kernel
theorem dX3_copy_45 : decode cX3_copy 45 = .ok (.aload_n 1, 1) := by decide +kernel
theorem dX3_copy_46 : decode cX3_copy 46 = .ok (.getfield 21, 3) := by decide +kernel
theorem dX3_copy_49 : decode cX3_copy 49 = .ok (.iconst 0, 1) := by decide +kernel
theorem dX3_copy_50 : decode cX3_copy 50 = .ok (.aload_n 0, 1) := by decide +kernel
theorem dX3_copy_51 : decode cX3_copy 51 = .ok (.getfield 21, 3) := by decide +kernel
theorem dX3_copy_54 : decode cX3_copy 54 = .ok (.iconst 0, 1) := by decide +kernel
theorem dX3_copy_55 : decode cX3_copy 55 = .ok (.bipush 6, 2) := by decide +kernel
theorem dX3_copy_57 : decode cX3_copy 57 = .ok (.invokestatic 58, 3) := by decide +kernel
theorem dX3_copy_60 : decode cX3_copy 60 = .ok (.aload_n 1, 1) := by decide +kernel
theorem dX3_copy_61 : decode cX3_copy 61 = .ok (.getfield 24, 3) := by decide +kernel
theorem dX3_copy_64 : decode cX3_copy 64 = .ok (.iconst 0, 1) := by decide +kernel
theorem dX3_copy_65 : decode cX3_copy 65 = .ok (.aload_n 0, 1) := by decide +kernel
theorem dX3_copy_66 : decode cX3_copy 66 = .ok (.getfield 24, 3) := by decide +kernel
theorem dX3_copy_69 : decode cX3_copy 69 = .ok (.iconst 0, 1) := by decide +kernel
theorem dX3_copy_70 : decode cX3_copy 70 = .ok (.bipush 6, 2) := by decide +kernel
theorem dX3_copy_72 : decode cX3_copy 72 = .ok (.invokestatic 58, 3) := by decide +kernel
theorem dX3_copy_75 : decode cX3_copy 75 = .ok (.aload_n 0, 1) := by decide +kernel
theorem dX3_copy_76 : decode cX3_copy 76 = .ok (.aload_n 1, 1) := by decide +kernel
theorem dX3_copy_77 : decode cX3_copy 77 = .ok (.getfield 27, 3) := by decide +kernel
theorem dX3_copy_80 : decode cX3_copy 80 = .ok (.putfield 27, 3) := by decide +kernel
theorem dX3_copy_83 : decode cX3_copy 83 = .ok (.aload_n 0, 1) := by decide +kernel
theorem dX3_copy_84 : decode cX3_copy 84 = .ok (.aload_n 1, 1) := by decide +kernel
theorem dX3_copy_85 : decode cX3_copy 85 = .ok (.getfield 31, 3) := by decide +kernel
theorem dX3_copy_88 : decode cX3_copy 88 = .ok (.putfield 31, 3) := by decide +kernel
theorem dX3_copy_91 : decode cX3_copy 91 = .ok (.aload_n 0, 1) := by decide +kernel
theorem dX3_copy_92 : decode cX3_copy 92 = .ok (.aload_n 1, 1) := by decide +kernel
theorem dX3_copy_93 : decode cX3_copy 93 = .ok (.getfield 44, 3) := by decide +kernel
theorem dX3_copy_96 : decode cX3_copy 96 = .ok (.putfield 44, 3) := by decide +kernel
theorem dX3_copy_99 : decode cX3_copy 99 = .ok (.aload_n 0, 1) := by decide +kernel
theorem dX3_copy_100 : decode cX3_copy 100 = .ok (.aload_n 1, 1) := by decide +kernel
theorem dX3_copy_101 : decode cX3_copy 101 = .ok (.getfield 48, 3) := by decide +kernel
theorem dX3_copy_104 : decode cX3_copy 104 = .ok (.putfield 48, 3) := by decide +kernel
theorem dX3_copy_107 : decode cX3_copy 107 = .ok (.aload_n 0, 1) := by decide +kernel
theorem dX3_copy_108 : decode cX3_copy 108 = .ok (.aload_n 1, 1) := by decide +kernel
theorem dX3_copy_109 : decode cX3_copy 109 = .ok (.getfield 52, 3) := by decide +kernel
theorem dX3_copy_112 : decode cX3_copy 112 = .ok (.putfield 52, 3) := by decide +kernel
theorem dX3_copy_115 : decode cX3_copy 115 = .ok (.aload_n 0, 1) := by decide +kernel
theorem dX3_copy_116 : decode cX3_copy 116 = .ok (.aload_n 1, 1) := by decide +kernel
theorem dX3_copy_117 : decode cX3_copy 117 = .ok (.getfield 55, 3) := by decide +kernel
theorem dX3_copy_120 : decode cX3_copy 120 = .ok (.putfield 55, 3) := by decide +kernel
theorem dX3_copy_123 : decode cX3_copy 123 = .ok (.return_, 1) := by decide +kernel
theorem dX3_tuneOf_0 : decode cX3_tuneOf 0 = .ok (.iload_n 1, 1) := by decide +kernel
theorem dX3_tuneOf_1 : decode cX3_tuneOf 1 = .ok (.ifCond .ne 8, 3) := by decide +kernel
theorem dX3_tuneOf_4 : decode cX3_tuneOf 4 = .ok (.aload_n 0, 1) := by decide +kernel
theorem dX3_tuneOf_5 : decode cX3_tuneOf 5 = .ok (.getfield 27, 3) := by decide +kernel
theorem dX3_tuneOf_8 : decode cX3_tuneOf 8 = .ok (.lreturn, 1) := by decide +kernel
theorem dX3_tuneOf_9 : decode cX3_tuneOf 9 = .ok (.iload_n 1, 1) := by decide +kernel
theorem dX3_tuneOf_10 : decode cX3_tuneOf 10 = .ok (.iconst 1, 1) := by decide +kernel
theorem dX3_tuneOf_11 : decode cX3_tuneOf 11 = .ok (.if_icmp .ne 10, 3) := by decide +kernel
theorem dX3_tuneOf_14 : decode cX3_tuneOf 14 = .ok (.aload_n 0, 1) := by decide +kernel
theorem dX3_tuneOf_15 : decode cX3_tuneOf 15 = .ok (.getfield 31, 3) := by decide +kernel
theorem dX3_tuneOf_18 : decode cX3_tuneOf 18 = .ok (.goto 4, 3) := by decide +kernel
theorem dX3_tuneOf_21 : decode cX3_tuneOf 21 = .ok (.lconst 0, 1) := by decide +kernel
theorem dX3_tuneOf_22 : decode cX3_tuneOf 22 = .ok (.lreturn, 1) := by decide +kernel
theorem dX3_setTune_0 : decode cX3_setTune 0 = .ok (.iload_n 1, 1) := by decide +kernel
theorem dX3_setTune_1 : decode cX3_setTune 1 = .ok (.ifCond .ne 11, 3) := by decide +kernel
theorem dX3_setTune_4 : decode cX3_setTune 4 = .ok (.aload_n 0, 1) := by decide +kernel
theorem dX3_setTune_5 : decode cX3_setTune 5 = .ok (.lload_n 2, 1) := by decide +kernel
theorem dX3_setTune_6 : decode cX3_setTune 6 = .ok (.putfield 27, 3) := by decide +kernel
theorem dX3_setTune_9 : decode cX3_setTune 9 = .ok (.goto 8, 3) := by decide +kernel
theorem dX3_setTune_12 : decode cX3_setTune 12 = .ok (.aload_n 0, 1) := by decide +kernel
theorem dX3_setTune_13 : decode cX3_setTune 13 = .ok (.lload_n 2, 1) := by decide +kernel
theorem dX3_setTune_14 : decode cX3_setTune 14 = .ok (.putfield 31, 3) := by decide +kernel
theorem dX3_setTune_17 : decode cX3_setTune 17 = .ok (.return_, 1) := by decide +kernel
theorem dX3_tonic_0 : decode cX3_tonic 0 = .ok (.iload_n 1, 1) := by decide +kernel
theorem dX3_tonic_1 : decode cX3_tonic 1 = .ok (.ifCond .lt 21, 3) := by decide +kernel
theorem dX3_tonic_4 : decode cX3_tonic 4 = .ok (.iload_n 1, 1) := by decide +kernel
theorem dX3_tonic_5 : decode cX3_tonic 5 = .ok (.aload_n 0, 1) := by decide +kernel
theorem dX3_tonic_6 : decode cX3_tonic 6 = .ok (.getfield 9, 3) := by decide +kernel
theorem dX3_tonic_9 : decode cX3_tonic 9 = .ok (.arraylength, 1) := by decide +kernel
theorem dX3_tonic_10 : decode cX3_tonic 10 = .ok (.if_icmp .ge 12, 3) := by decide +kernel
theorem dX3_tonic_13 : decode cX3_tonic 13 = .ok (.aload_n 0, 1) := by decide +kernel
theorem dX3_tonic_14 : decode cX3_tonic 14 = .ok (.getfield 9, 3) := by decide +kernel
theorem dX3_tonic_17 : decode cX3_tonic 17 = .ok (.iload_n 1, 1) := by decide +kernel
theorem dX3_tonic_18 : decode cX3_tonic 18 = .ok (.iaload, 1) := by decide +kernel
theorem dX3_tonic_19 : decode cX3_tonic 19 = .ok (.goto 4, 3) := by decide +kernel
theorem dX3_tonic_22 : decode cX3_tonic 22 = .ok (.iconst 0, 1) := by decide +kernel
theorem dX3_tonic_23 : decode cX3_tonic 23 = .ok (.ireturn, 1) := by decide +kernel
theorem dX3_setTonic_0 : decode cX3_setTonic 0 = .ok (.iload_n 1, 1) := by decide +kernel
theorem dX3_setTonic_1 : decode cX3_setTonic 1 = .ok (.ifCond .lt 19, 3) := by decide +kernel
theorem dX3_setTonic_4 : decode cX3_setTonic 4 = .ok (.iload_n 1, 1) := by decide +kernel
theorem dX3_setTonic_5 : decode cX3_setTonic 5 = .ok (.aload_n 0, 1) := by decide +kernel
theorem dX3_setTonic_6 : decode cX3_setTonic 6 = .ok (.getfield 9, 3) := by decide +kernel
theorem dX3_setTonic_9 : decode cX3_setTonic 9 = .ok (.arraylength, 1) := by decide +kernel
theorem dX3_setTonic_10 : decode cX3_setTonic 10 = .ok (.if_icmp .ge 10, 3) := by decide +kernel
theorem dX3_setTonic_13 : decode cX3_setTonic 13 = .ok (.aload_n 0, 1) := by decide +kernel
theorem dX3_setTonic_14 : decode cX3_setTonic 14 = .ok (.getfield 9, 3) := by decide +kernel
theorem dX3_setTonic_17 : decode cX3_setTonic 17 = .ok (.iload_n 1, 1) := by decide +kernel
theorem dX3_setTonic_18 : decode cX3_setTonic 18 = .ok (.iload_n 2, 1) := by decide +kernel
theorem dX3_setTonic_19 : decode cX3_setTonic 19 = .ok (.iastore, 1) := by decide +kernel
theorem dX3_setTonic_20 : decode cX3_setTonic 20 = .ok (.return_, 1) := by decide +kernel
theorem dX3_walks_0 : decode cX3_walks 0 = .ok (.iload_n 1, 1) := by decide +kernel
theorem dX3_walks_1 : decode cX3_walks 1 = .ok (.ifCond .lt 21, 3) := by decide +kernel
theorem dX3_walks_4 : decode cX3_walks 4 = .ok (.iload_n 1, 1) := by decide +kernel
theorem dX3_walks_5 : decode cX3_walks 5 = .ok (.aload_n 0, 1) := by decide +kernel
theorem dX3_walks_6 : decode cX3_walks 6 = .ok (.getfield 15, 3) := by decide +kernel
theorem dX3_walks_9 : decode cX3_walks 9 = .ok (.arraylength, 1) := by decide +kernel
theorem dX3_walks_10 : decode cX3_walks 10 = .ok (.if_icmp .ge 12, 3) := by decide +kernel
theorem dX3_walks_13 : decode cX3_walks 13 = .ok (.aload_n 0, 1) := by decide +kernel
theorem dX3_walks_14 : decode cX3_walks 14 = .ok (.getfield 15, 3) := by decide +kernel
theorem dX3_walks_17 : decode cX3_walks 17 = .ok (.iload_n 1, 1) := by decide +kernel
theorem dX3_walks_18 : decode cX3_walks 18 = .ok (.iaload, 1) := by decide +kernel
theorem dX3_walks_19 : decode cX3_walks 19 = .ok (.goto 4, 3) := by decide +kernel
theorem dX3_walks_22 : decode cX3_walks 22 = .ok (.iconst 0, 1) := by decide +kernel
theorem dX3_walks_23 : decode cX3_walks 23 = .ok (.ireturn, 1) := by decide +kernel
theorem dX3_addWalk_0 : decode cX3_addWalk 0 = .ok (.iload_n 1, 1) := by decide +kernel
theorem dX3_addWalk_1 : decode cX3_addWalk 1 = .ok (.ifCond .lt 32, 3) := by decide +kernel
theorem dX3_addWalk_4 : decode cX3_addWalk 4 = .ok (.iload_n 1, 1) := by decide +kernel
theorem dX3_addWalk_5 : decode cX3_addWalk 5 = .ok (.aload_n 0, 1) := by decide +kernel
theorem dX3_addWalk_6 : decode cX3_addWalk 6 = .ok (.getfield 15, 3) := by decide +kernel
theorem dX3_addWalk_9 : decode cX3_addWalk 9 = .ok (.arraylength, 1) := by decide +kernel
theorem dX3_addWalk_10 : decode cX3_addWalk 10 = .ok (.if_icmp .ge 23, 3) := by decide +kernel
theorem dX3_addWalk_13 : decode cX3_addWalk 13 = .ok (.aload_n 0, 1) := by decide +kernel
theorem dX3_addWalk_14 : decode cX3_addWalk 14 = .ok (.getfield 15, 3) := by decide +kernel
theorem dX3_addWalk_17 : decode cX3_addWalk 17 = .ok (.iload_n 1, 1) := by decide +kernel
theorem dX3_addWalk_18 : decode cX3_addWalk 18 = .ok (.dup2, 1) := by decide +kernel
theorem dX3_addWalk_19 : decode cX3_addWalk 19 = .ok (.iaload, 1) := by decide +kernel
theorem dX3_addWalk_20 : decode cX3_addWalk 20 = .ok (.iconst 1, 1) := by decide +kernel
theorem dX3_addWalk_21 : decode cX3_addWalk 21 = .ok (.iadd, 1) := by decide +kernel
theorem dX3_addWalk_22 : decode cX3_addWalk 22 = .ok (.iastore, 1) := by decide +kernel
theorem dX3_addWalk_23 : decode cX3_addWalk 23 = .ok (.aload_n 0, 1) := by decide +kernel
theorem dX3_addWalk_24 : decode cX3_addWalk 24 = .ok (.dup, 1) := by decide +kernel
theorem dX3_addWalk_25 : decode cX3_addWalk 25 = .ok (.getfield 52, 3) := by decide +kernel
theorem dX3_addWalk_28 : decode cX3_addWalk 28 = .ok (.iconst 1, 1) := by decide +kernel
theorem dX3_addWalk_29 : decode cX3_addWalk 29 = .ok (.iadd, 1) := by decide +kernel
theorem dX3_addWalk_30 : decode cX3_addWalk 30 = .ok (.putfield 52, 3) := by decide +kernel
theorem dX3_addWalk_33 : decode cX3_addWalk 33 = .ok (.return_, 1) := by decide +kernel
theorem dX3_addSight_0 : decode cX3_addSight 0 = .ok (.aload_n 0, 1) := by decide +kernel
theorem dX3_addSight_1 : decode cX3_addSight 1 = .ok (.getfield 55, 3) := by decide +kernel
theorem dX3_addSight_4 : decode cX3_addSight 4 = .ok (.ifCond .lt 52, 3) := by decide +kernel
theorem dX3_addSight_7 : decode cX3_addSight 7 = .ok (.aload_n 0, 1) := by decide +kernel
theorem dX3_addSight_8 : decode cX3_addSight 8 = .ok (.getfield 55, 3) := by decide +kernel
theorem dX3_addSight_11 : decode cX3_addSight 11 = .ok (.bipush 6, 2) := by decide +kernel
theorem dX3_addSight_13 : decode cX3_addSight 13 = .ok (.if_icmp .ge 43, 3) := by decide +kernel
theorem dX3_addSight_16 : decode cX3_addSight 16 = .ok (.aload_n 0, 1) := by decide +kernel
theorem dX3_addSight_17 : decode cX3_addSight 17 = .ok (.getfield 18, 3) := by decide +kernel
theorem dX3_addSight_20 : decode cX3_addSight 20 = .ok (.aload_n 0, 1) := by decide +kernel
theorem dX3_addSight_21 : decode cX3_addSight 21 = .ok (.getfield 55, 3) := by decide +kernel
theorem dX3_addSight_24 : decode cX3_addSight 24 = .ok (.iload_n 1, 1) := by decide +kernel
theorem dX3_addSight_25 : decode cX3_addSight 25 = .ok (.iastore, 1) := by decide +kernel
theorem dX3_addSight_26 : decode cX3_addSight 26 = .ok (.aload_n 0, 1) := by decide +kernel
theorem dX3_addSight_27 : decode cX3_addSight 27 = .ok (.getfield 21, 3) := by decide +kernel
theorem dX3_addSight_30 : decode cX3_addSight 30 = .ok (.aload_n 0, 1) := by decide +kernel
theorem dX3_addSight_31 : decode cX3_addSight 31 = .ok (.getfield 55, 3) := by decide +kernel
theorem dX3_addSight_34 : decode cX3_addSight 34 = .ok (.iload_n 2, 1) := by decide +kernel
theorem dX3_addSight_35 : decode cX3_addSight 35 = .ok (.iastore, 1) := by decide +kernel
theorem dX3_addSight_36 : decode cX3_addSight 36 = .ok (.aload_n 0, 1) := by decide +kernel
theorem dX3_addSight_37 : decode cX3_addSight 37 = .ok (.getfield 24, 3) := by decide +kernel
theorem dX3_addSight_40 : decode cX3_addSight 40 = .ok (.aload_n 0, 1) := by decide +kernel
theorem dX3_addSight_41 : decode cX3_addSight 41 = .ok (.getfield 55, 3) := by decide +kernel
theorem dX3_addSight_44 : decode cX3_addSight 44 = .ok (.iload_n 3, 1) := by decide +kernel
theorem dX3_addSight_45 : decode cX3_addSight 45 = .ok (.iastore, 1) := by decide +kernel
theorem dX3_addSight_46 : decode cX3_addSight 46 = .ok (.aload_n 0, 1) := by decide +kernel
theorem dX3_addSight_47 : decode cX3_addSight 47 = .ok (.dup, 1) := by decide +kernel
theorem dX3_addSight_48 : decode cX3_addSight 48 = .ok (.getfield 55, 3) := by decide +kernel
theorem dX3_addSight_51 : decode cX3_addSight 51 = .ok (.iconst 1, 1) := by decide +kernel
theorem dX3_addSight_52 : decode cX3_addSight 52 = .ok (.iadd, 1) := by decide +kernel
theorem dX3_addSight_53 : decode cX3_addSight 53 = .ok (.putfield 55, 3) := by decide +kernel
theorem dX3_addSight_56 : decode cX3_addSight 56 = .ok (.return_, 1) := by decide +kernel
theorem dX3_fits_0 : decode cX3_fits 0 = .ok (.iconst 0, 1) := by decide +kernel
theorem dX3_fits_1 : decode cX3_fits 1 = .ok (.istore 4, 2) := by decide +kernel
theorem dX3_fits_3 : decode cX3_fits 3 = .ok (.iload 4, 2) := by decide +kernel
theorem dX3_fits_5 : decode cX3_fits 5 = .ok (.aload_n 0, 1) := by decide +kernel
theorem dX3_fits_6 : decode cX3_fits 6 = .ok (.getfield 55, 3) := by decide +kernel
theorem dX3_fits_9 : decode cX3_fits 9 = .ok (.if_icmp .ge 51, 3) := by decide +kernel
theorem dX3_fits_12 : decode cX3_fits 12 = .ok (.iload 4, 2) := by decide +kernel
theorem dX3_fits_14 : decode cX3_fits 14 = .ok (.bipush 6, 2) := by decide +kernel
theorem dX3_fits_16 : decode cX3_fits 16 = .ok (.if_icmp .ge 44, 3) := by decide +kernel
theorem dX3_fits_19 : decode cX3_fits 19 = .ok (.aload_n 0, 1) := by decide +kernel
theorem dX3_fits_20 : decode cX3_fits 20 = .ok (.getfield 18, 3) := by decide +kernel
theorem dX3_fits_23 : decode cX3_fits 23 = .ok (.iload 4, 2) := by decide +kernel
theorem dX3_fits_25 : decode cX3_fits 25 = .ok (.iaload, 1) := by decide +kernel
theorem dX3_fits_26 : decode cX3_fits 26 = .ok (.iload_n 2, 1) := by decide +kernel
theorem dX3_fits_27 : decode cX3_fits 27 = .ok (.if_icmp .ne 27, 3) := by decide +kernel
theorem dX3_fits_30 : decode cX3_fits 30 = .ok (.aload_n 1, 1) := by decide +kernel
theorem dX3_fits_31 : decode cX3_fits 31 = .ok (.aload_n 0, 1) := by decide +kernel
theorem dX3_fits_32 : decode cX3_fits 32 = .ok (.getfield 21, 3) := by decide +kernel
theorem dX3_fits_35 : decode cX3_fits 35 = .ok (.iload 4, 2) := by decide +kernel
theorem dX3_fits_37 : decode cX3_fits 37 = .ok (.iaload, 1) := by decide +kernel
theorem dX3_fits_38 : decode cX3_fits 38 = .ok (.iload_n 3, 1) := by decide +kernel
theorem dX3_fits_39 : decode cX3_fits 39 = .ok (.invokevirtual 64, 3) := by decide +kernel
theorem dX3_fits_42 : decode cX3_fits 42 = .ok (.aload_n 0, 1) := by decide +kernel
theorem dX3_fits_43 : decode cX3_fits 43 = .ok (.getfield 24, 3) := by decide +kernel
theorem dX3_fits_46 : decode cX3_fits 46 = .ok (.iload 4, 2) := by decide +kernel
theorem dX3_fits_48 : decode cX3_fits 48 = .ok (.iaload, 1) := by decide +kernel
theorem dX3_fits_49 : decode cX3_fits 49 = .ok (.if_icmp .eq 5, 3) := by decide +kernel
theorem dX3_fits_52 : decode cX3_fits 52 = .ok (.iconst 0, 1) := by decide +kernel
theorem dX3_fits_53 : decode cX3_fits 53 = .ok (.ireturn, 1) := by decide +kernel
theorem dX3_fits_54 : decode cX3_fits 54 = .ok (.iinc 4 1, 3) := by decide +kernel
theorem dX3_fits_57 : decode cX3_fits 57 = .ok (.goto (-54), 3) := by decide +kernel
theorem dX3_fits_60 : decode cX3_fits 60 = .ok (.iconst 1, 1) := by decide +kernel
theorem dX3_fits_61 : decode cX3_fits 61 = .ok (.ireturn, 1) := by decide +kernel
theorem dX4_init_0 : decode cX4_init 0 = .ok (.aload_n 0, 1) := by decide +kernel
theorem dX4_init_1 : decode cX4_init 1 = .ok (.invokespecial 5, 3) := by decide +kernel
theorem dX4_init_4 : decode cX4_init 4 = .ok (.aload_n 0, 1) := by decide +kernel
theorem dX4_init_5 : decode cX4_init 5 = .ok (.bipush 44, 2) := by decide +kernel
theorem dX4_init_7 : decode cX4_init 7 = .ok (.newarray .int, 2) := by decide +kernel
theorem dX4_init_9 : decode cX4_init 9 = .ok (.putfield 11, 3) := by decide +kernel
theorem dX4_init_12 : decode cX4_init 12 = .ok (.return_, 1) := by decide +kernel
theorem dX4_add_0 : decode cX4_add 0 = .ok (.aload_n 0, 1) := by decide +kernel
theorem dX4_add_1 : decode cX4_add 1 = .ok (.getfield 15, 3) := by decide +kernel
theorem dX4_add_4 : decode cX4_add 4 = .ok (.ifCond .lt 35, 3) := by decide +kernel
theorem dX4_add_7 : decode cX4_add 7 = .ok (.aload_n 0, 1) := by decide +kernel
theorem dX4_add_8 : decode cX4_add 8 = .ok (.getfield 15, 3) := by decide +kernel
theorem dX4_add_11 : decode cX4_add 11 = .ok (.aload_n 0, 1) := by decide +kernel
theorem dX4_add_12 : decode cX4_add 12 = .ok (.getfield 11, 3) := by decide +kernel
theorem dX4_add_15 : decode cX4_add 15 = .ok (.arraylength, 1) := by decide +kernel
theorem dX4_add_16 : decode cX4_add 16 = .ok (.if_icmp .ge 23, 3) := by decide +kernel
theorem dX4_add_19 : decode cX4_add 19 = .ok (.aload_n 0, 1) := by decide +kernel
theorem dX4_add_20 : decode cX4_add 20 = .ok (.getfield 11, 3) := by decide +kernel
theorem dX4_add_23 : decode cX4_add 23 = .ok (.aload_n 0, 1) := by decide +kernel
theorem dX4_add_24 : decode cX4_add 24 = .ok (.getfield 15, 3) := by decide +kernel
theorem dX4_add_27 : decode cX4_add 27 = .ok (.iload_n 1, 1) := by decide +kernel
theorem dX4_add_28 : decode cX4_add 28 = .ok (.iastore, 1) := by decide +kernel
theorem dX4_add_29 : decode cX4_add 29 = .ok (.aload_n 0, 1) := by decide +kernel
theorem dX4_add_30 : decode cX4_add 30 = .ok (.dup, 1) := by decide +kernel
theorem dX4_add_31 : decode cX4_add 31 = .ok (.getfield 15, 3) := by decide +kernel
theorem dX4_add_34 : decode cX4_add 34 = .ok (.iconst 1, 1) := by decide +kernel
theorem dX4_add_35 : decode cX4_add 35 = .ok (.iadd, 1) := by decide +kernel
theorem dX4_add_36 : decode cX4_add 36 = .ok (.putfield 15, 3) := by decide +kernel
theorem dX4_add_39 : decode cX4_add 39 = .ok (.return_, 1) := by decide +kernel
theorem dX4_at_0 : decode cX4_at 0 = .ok (.iload_n 1, 1) := by decide +kernel
theorem dX4_at_1 : decode cX4_at 1 = .ok (.ifCond .lt 29, 3) := by decide +kernel
theorem dX4_at_4 : decode cX4_at 4 = .ok (.iload_n 1, 1) := by decide +kernel
theorem dX4_at_5 : decode cX4_at 5 = .ok (.aload_n 0, 1) := by decide +kernel
theorem dX4_at_6 : decode cX4_at 6 = .ok (.getfield 15, 3) := by decide +kernel
theorem dX4_at_9 : decode cX4_at 9 = .ok (.if_icmp .ge 21, 3) := by decide +kernel
theorem dX4_at_12 : decode cX4_at 12 = .ok (.iload_n 1, 1) := by decide +kernel
theorem dX4_at_13 : decode cX4_at 13 = .ok (.aload_n 0, 1) := by decide +kernel
theorem dX4_at_14 : decode cX4_at 14 = .ok (.getfield 11, 3) := by decide +kernel
theorem dX4_at_17 : decode cX4_at 17 = .ok (.arraylength, 1) := by decide +kernel
theorem dX4_at_18 : decode cX4_at 18 = .ok (.if_icmp .ge 12, 3) := by decide +kernel
theorem dX4_at_21 : decode cX4_at 21 = .ok (.aload_n 0, 1) := by decide +kernel
theorem dX4_at_22 : decode cX4_at 22 = .ok (.getfield 11, 3) := by decide +kernel
theorem dX4_at_25 : decode cX4_at 25 = .ok (.iload_n 1, 1) := by decide +kernel
theorem dX4_at_26 : decode cX4_at 26 = .ok (.iaload, 1) := by decide +kernel
theorem dX4_at_27 : decode cX4_at 27 = .ok (.goto 4, 3) := by decide +kernel
theorem dX4_at_30 : decode cX4_at 30 = .ok (.iconst 0, 1) := by decide +kernel
theorem dX4_at_31 : decode cX4_at 31 = .ok (.ireturn, 1) := by decide +kernel
theorem dX4_noteAt_0 : decode cX4_noteAt 0 = .ok (.aload_n 0, 1) := by decide +kernel
theorem dX4_noteAt_1 : decode cX4_noteAt 1 = .ok (.iload_n 1, 1) := by decide +kernel
theorem dX4_noteAt_2 : decode cX4_noteAt 2 = .ok (.invokevirtual 19, 3) := by decide +kernel
theorem dX4_noteAt_5 : decode cX4_noteAt 5 = .ok (.bipush 97, 2) := by decide +kernel
theorem dX4_noteAt_7 : decode cX4_noteAt 7 = .ok (.isub, 1) := by decide +kernel
theorem dX4_noteAt_8 : decode cX4_noteAt 8 = .ok (.istore_n 2, 1) := by decide +kernel
theorem dX4_noteAt_9 : decode cX4_noteAt 9 = .ok (.iload_n 2, 1) := by decide +kernel
theorem dX4_noteAt_10 : decode cX4_noteAt 10 = .ok (.invokestatic 23, 3) := by decide +kernel
theorem dX4_noteAt_13 : decode cX4_noteAt 13 = .ok (.ifCond .eq 7, 3) := by decide +kernel
theorem dX4_noteAt_16 : decode cX4_noteAt 16 = .ok (.iload_n 2, 1) := by decide +kernel
theorem dX4_noteAt_17 : decode cX4_noteAt 17 = .ok (.goto 4, 3) := by decide +kernel
theorem dX4_noteAt_20 : decode cX4_noteAt 20 = .ok (.iconst (-1), 1) := by decide +kernel
theorem dX4_noteAt_21 : decode cX4_noteAt 21 = .ok (.ireturn, 1) := by decide +kernel
theorem dX4_digitAt_0 : decode cX4_digitAt 0 = .ok (.aload_n 0, 1) := by decide +kernel
theorem dX4_digitAt_1 : decode cX4_digitAt 1 = .ok (.iload_n 1, 1) := by decide +kernel
theorem dX4_digitAt_2 : decode cX4_digitAt 2 = .ok (.invokevirtual 19, 3) := by decide +kernel
theorem dX4_digitAt_5 : decode cX4_digitAt 5 = .ok (.bipush 48, 2) := by decide +kernel
theorem dX4_digitAt_7 : decode cX4_digitAt 7 = .ok (.isub, 1) := by decide +kernel
theorem dX4_digitAt_8 : decode cX4_digitAt 8 = .ok (.ireturn, 1) := by decide +kernel
theorem dX4_kindOf_0 : decode cX4_kindOf 0 = .ok (.ldc 27, 2) := by decide +kernel
theorem dX4_kindOf_2 : decode cX4_kindOf 2 = .ok (.aload_n 0, 1) := by decide +kernel
theorem dX4_kindOf_3 : decode cX4_kindOf 3 = .ok (.iconst 2, 1) := by decide +kernel
theorem dX4_kindOf_4 : decode cX4_kindOf 4 = .ok (.iload_n 1, 1) := by decide +kernel
theorem dX4_kindOf_5 : decode cX4_kindOf 5 = .ok (.iconst 5, 1) := by decide +kernel
theorem dX4_kindOf_6 : decode cX4_kindOf 6 = .ok (.imul, 1) := by decide +kernel
theorem dX4_kindOf_7 : decode cX4_kindOf 7 = .ok (.iadd, 1) := by decide +kernel
theorem dX4_kindOf_8 : decode cX4_kindOf 8 = .ok (.invokevirtual 19, 3) := by decide +kernel
theorem dX4_kindOf_11 : decode cX4_kindOf 11 = .ok (.i2c, 1) := by decide +kernel
theorem dX4_kindOf_12 : decode cX4_kindOf 12 = .ok (.invokevirtual 29, 3) := by decide +kernel
theorem dX4_kindOf_15 : decode cX4_kindOf 15 = .ok (.ireturn, 1) := by decide +kernel
theorem dX4_oneEndOf_0 : decode cX4_oneEndOf 0 = .ok (.aload_n 0, 1) := by decide +kernel
theorem dX4_oneEndOf_1 : decode cX4_oneEndOf 1 = .ok (.iconst 2, 1) := by decide +kernel
theorem dX4_oneEndOf_2 : decode cX4_oneEndOf 2 = .ok (.iload_n 1, 1) := by decide +kernel
theorem dX4_oneEndOf_3 : decode cX4_oneEndOf 3 = .ok (.iconst 5, 1) := by decide +kernel
theorem dX4_oneEndOf_4 : decode cX4_oneEndOf 4 = .ok (.imul, 1) := by decide +kernel
theorem dX4_oneEndOf_5 : decode cX4_oneEndOf 5 = .ok (.iadd, 1) := by decide +kernel
theorem dX4_oneEndOf_6 : decode cX4_oneEndOf 6 = .ok (.iconst 1, 1) := by decide +kernel
theorem dX4_oneEndOf_7 : decode cX4_oneEndOf 7 = .ok (.iadd, 1) := by decide +kernel
theorem dX4_oneEndOf_8 : decode cX4_oneEndOf 8 = .ok (.invokevirtual 34, 3) := by decide +kernel
theorem dX4_oneEndOf_11 : decode cX4_oneEndOf 11 = .ok (.ireturn, 1) := by decide +kernel
theorem dX4_otherEndOf_0 : decode cX4_otherEndOf 0 = .ok (.aload_n 0, 1) := by decide +kernel
theorem dX4_otherEndOf_1 : decode cX4_otherEndOf 1 = .ok (.iconst 2, 1) := by decide +kernel
theorem dX4_otherEndOf_2 : decode cX4_otherEndOf 2 = .ok (.iload_n 1, 1) := by decide +kernel
theorem dX4_otherEndOf_3 : decode cX4_otherEndOf 3 = .ok (.iconst 5, 1) := by decide +kernel
theorem dX4_otherEndOf_4 : decode cX4_otherEndOf 4 = .ok (.imul, 1) := by decide +kernel
theorem dX4_otherEndOf_5 : decode cX4_otherEndOf 5 = .ok (.iadd, 1) := by decide +kernel
theorem dX4_otherEndOf_6 : decode cX4_otherEndOf 6 = .ok (.iconst 2, 1) := by decide +kernel
theorem dX4_otherEndOf_7 : decode cX4_otherEndOf 7 = .ok (.iadd, 1) := by decide +kernel
theorem dX4_otherEndOf_8 : decode cX4_otherEndOf 8 = .ok (.invokevirtual 34, 3) := by decide +kernel
theorem dX4_otherEndOf_11 : decode cX4_otherEndOf 11 = .ok (.ireturn, 1) := by decide +kernel
theorem dX4_tonicOf_0 : decode cX4_tonicOf 0 = .ok (.aload_n 0, 1) := by decide +kernel
theorem dX4_tonicOf_1 : decode cX4_tonicOf 1 = .ok (.iconst 2, 1) := by decide +kernel
theorem dX4_tonicOf_2 : decode cX4_tonicOf 2 = .ok (.iload_n 1, 1) := by decide +kernel
theorem dX4_tonicOf_3 : decode cX4_tonicOf 3 = .ok (.iconst 5, 1) := by decide +kernel
theorem dX4_tonicOf_4 : decode cX4_tonicOf 4 = .ok (.imul, 1) := by decide +kernel
theorem dX4_tonicOf_5 : decode cX4_tonicOf 5 = .ok (.iadd, 1) := by decide +kernel
theorem dX4_tonicOf_6 : decode cX4_tonicOf 6 = .ok (.iconst 3, 1) := by decide +kernel
theorem dX4_tonicOf_7 : decode cX4_tonicOf 7 = .ok (.iadd, 1) := by decide +kernel
theorem dX4_tonicOf_8 : decode cX4_tonicOf 8 = .ok (.invokevirtual 37, 3) := by decide +kernel
theorem dX4_tonicOf_11 : decode cX4_tonicOf 11 = .ok (.ireturn, 1) := by decide +kernel
theorem dX4_asTune_0 : decode cX4_asTune 0 = .ok (.aload_n 0, 1) := by decide +kernel
theorem dX4_asTune_1 : decode cX4_asTune 1 = .ok (.getfield 15, 3) := by decide +kernel
theorem dX4_asTune_4 : decode cX4_asTune 4 = .ok (.iconst 1, 1) := by decide +kernel
theorem dX4_asTune_5 : decode cX4_asTune 5 = .ok (.if_icmp .lt 12, 3) := by decide +kernel
theorem dX4_asTune_8 : decode cX4_asTune 8 = .ok (.aload_n 0, 1) := by decide +kernel
theorem dX4_asTune_9 : decode cX4_asTune 9 = .ok (.getfield 15, 3) := by decide +kernel
theorem dX4_asTune_12 : decode cX4_asTune 12 = .ok (.bipush 8, 2) := by decide +kernel
theorem dX4_asTune_14 : decode cX4_asTune 14 = .ok (.if_icmp .le 5, 3) := by decide +kernel
theorem dX4_asTune_17 : decode cX4_asTune 17 = .ok (.lconst 0, 1) := by decide +kernel
theorem dX4_asTune_18 : decode cX4_asTune 18 = .ok (.lreturn, 1) := by decide +kernel
theorem dX4_asTune_19 : decode cX4_asTune 19 = .ok (.lconst 0, 1) := by decide +kernel
theorem dX4_asTune_20 : decode cX4_asTune 20 = .ok (.lstore_n 1, 1) := by decide +kernel
theorem dX4_asTune_21 : decode cX4_asTune 21 = .ok (.iconst 0, 1) := by decide +kernel
theorem dX4_asTune_22 : decode cX4_asTune 22 = .ok (.istore_n 3, 1) := by decide +kernel
theorem dX4_asTune_23 : decode cX4_asTune 23 = .ok (.iload_n 3, 1) := by decide +kernel
theorem dX4_asTune_24 : decode cX4_asTune 24 = .ok (.aload_n 0, 1) := by decide +kernel
theorem dX4_asTune_25 : decode cX4_asTune 25 = .ok (.getfield 15, 3) := by decide +kernel
theorem dX4_asTune_28 : decode cX4_asTune 28 = .ok (.if_icmp .ge 32, 3) := by decide +kernel
theorem dX4_asTune_31 : decode cX4_asTune 31 = .ok (.aload_n 0, 1) := by decide +kernel
theorem dX4_asTune_32 : decode cX4_asTune 32 = .ok (.iload_n 3, 1) := by decide +kernel
theorem dX4_asTune_33 : decode cX4_asTune 33 = .ok (.invokevirtual 37, 3) := by decide +kernel
theorem dX4_asTune_36 : decode cX4_asTune 36 = .ok (.istore 4, 2) := by decide +kernel
theorem dX4_asTune_38 : decode cX4_asTune 38 = .ok (.iload 4, 2) := by decide +kernel
theorem dX4_asTune_40 : decode cX4_asTune 40 = .ok (.iconst (-1), 1) := by decide +kernel
theorem dX4_asTune_41 : decode cX4_asTune 41 = .ok (.if_icmp .ne 5, 3) := by decide +kernel
theorem dX4_asTune_44 : decode cX4_asTune 44 = .ok (.lconst 0, 1) := by decide +kernel
theorem dX4_asTune_45 : decode cX4_asTune 45 = .ok (.lreturn, 1) := by decide +kernel
theorem dX4_asTune_46 : decode cX4_asTune 46 = .ok (.lload_n 1, 1) := by decide +kernel
theorem dX4_asTune_47 : decode cX4_asTune 47 = .ok (.iload_n 3, 1) := by decide +kernel
theorem dX4_asTune_48 : decode cX4_asTune 48 = .ok (.iload 4, 2) := by decide +kernel
theorem dX4_asTune_50 : decode cX4_asTune 50 = .ok (.invokestatic 40, 3) := by decide +kernel
theorem dX4_asTune_53 : decode cX4_asTune 53 = .ok (.lstore_n 1, 1) := by decide +kernel
theorem dX4_asTune_54 : decode cX4_asTune 54 = .ok (.iinc 3 1, 3) := by decide +kernel
theorem dX4_asTune_57 : decode cX4_asTune 57 = .ok (.goto (-34), 3) := by decide +kernel
theorem dX4_asTune_60 : decode cX4_asTune 60 = .ok (.lload_n 1, 1) := by decide +kernel
theorem dX4_asTune_61 : decode cX4_asTune 61 = .ok (.lreturn, 1) := by decide +kernel
theorem dX4_isCity_0 : decode cX4_isCity 0 = .ok (.aload_n 0, 1) := by decide +kernel
theorem dX4_isCity_1 : decode cX4_isCity 1 = .ok (.getfield 15, 3) := by decide +kernel
theorem dX4_isCity_4 : decode cX4_isCity 4 = .ok (.iconst 1, 1) := by decide +kernel
theorem dX4_isCity_5 : decode cX4_isCity 5 = .ok (.iadd, 1) := by decide +kernel
theorem dX4_isCity_6 : decode cX4_isCity 6 = .ok (.iconst 2, 1) := by decide +kernel
theorem dX4_isCity_7 : decode cX4_isCity 7 = .ok (.isub, 1) := by decide +kernel
theorem dX4_isCity_8 : decode cX4_isCity 8 = .ok (.iconst 5, 1) := by decide +kernel
theorem dX4_isCity_9 : decode cX4_isCity 9 = .ok (.irem, 1) := by decide +kernel
theorem dX4_isCity_10 : decode cX4_isCity 10 = .ok (.ifCond .ne 7, 3) := by decide +kernel
theorem dX4_isCity_13 : decode cX4_isCity 13 = .ok (.iconst 1, 1) := by decide +kernel
theorem dX4_isCity_14 : decode cX4_isCity 14 = .ok (.goto 4, 3) := by decide +kernel
theorem dX4_isCity_17 : decode cX4_isCity 17 = .ok (.iconst 0, 1) := by decide +kernel
theorem dX4_isCity_18 : decode cX4_isCity 18 = .ok (.istore_n 1, 1) := by decide +kernel
theorem dX4_isCity_19 : decode cX4_isCity 19 = .ok (.aload_n 0, 1) := by decide +kernel
theorem dX4_isCity_20 : decode cX4_isCity 20 = .ok (.getfield 15, 3) := by decide +kernel
theorem dX4_isCity_23 : decode cX4_isCity 23 = .ok (.bipush 11, 2) := by decide +kernel
theorem dX4_isCity_25 : decode cX4_isCity 25 = .ok (.if_icmp .lt 22, 3) := by decide +kernel
theorem dX4_isCity_28 : decode cX4_isCity 28 = .ok (.iload_n 1, 1) := by decide +kernel
theorem dX4_isCity_29 : decode cX4_isCity 29 = .ok (.ifCond .eq 18, 3) := by decide +kernel
theorem dX4_isCity_32 : decode cX4_isCity 32 = .ok (.aload_n 0, 1) := by decide +kernel
theorem dX4_isCity_33 : decode cX4_isCity 33 = .ok (.invokevirtual 46, 3) := by decide +kernel
theorem dX4_isCity_36 : decode cX4_isCity 36 = .ok (.aload_n 0, 1) := by decide +kernel
theorem dX4_isCity_37 : decode cX4_isCity 37 = .ok (.getfield 15, 3) := by decide +kernel
theorem dX4_isCity_40 : decode cX4_isCity 40 = .ok (.if_icmp .ne 7, 3) := by decide +kernel
theorem dX4_isCity_43 : decode cX4_isCity 43 = .ok (.iconst 1, 1) := by decide +kernel
theorem dX4_isCity_44 : decode cX4_isCity 44 = .ok (.goto 4, 3) := by decide +kernel
theorem dX4_isCity_47 : decode cX4_isCity 47 = .ok (.iconst 0, 1) := by decide +kernel
theorem dX4_isCity_48 : decode cX4_isCity 48 = .ok (.ireturn, 1) := by decide +kernel
theorem dX4_streets_0 : decode cX4_streets 0 = .ok (.aload_n 0, 1) := by decide +kernel
theorem dX4_streets_1 : decode cX4_streets 1 = .ok (.getfield 15, 3) := by decide +kernel
theorem dX4_streets_4 : decode cX4_streets 4 = .ok (.iconst 1, 1) := by decide +kernel
theorem dX4_streets_5 : decode cX4_streets 5 = .ok (.iadd, 1) := by decide +kernel
theorem dX4_streets_6 : decode cX4_streets 6 = .ok (.iconst 2, 1) := by decide +kernel
theorem dX4_streets_7 : decode cX4_streets 7 = .ok (.isub, 1) := by decide +kernel
theorem dX4_streets_8 : decode cX4_streets 8 = .ok (.iconst 5, 1) := by decide +kernel
theorem dX4_streets_9 : decode cX4_streets 9 = .ok (.idiv, 1) := by decide +kernel
theorem dX4_streets_10 : decode cX4_streets 10 = .ok (.ireturn, 1) := by decide +kernel
theorem dX4_firstFault_0 : decode cX4_firstFault 0 = .ok (.iconst 0, 1) := by decide +kernel
theorem dX4_firstFault_1 : decode cX4_firstFault 1 = .ok (.istore_n 1, 1) := by decide +kernel
theorem dX4_firstFault_2 : decode cX4_firstFault 2 = .ok (.iload_n 1, 1) := by decide +kernel
theorem dX4_firstFault_3 : decode cX4_firstFault 3 = .ok (.aload_n 0, 1) := by decide +kernel
theorem dX4_firstFault_4 : decode cX4_firstFault 4 = .ok (.getfield 15, 3) := by decide +kernel
theorem dX4_firstFault_7 : decode cX4_firstFault 7 = .ok (.if_icmp .ge 19, 3) := by decide +kernel
theorem dX4_firstFault_10 : decode cX4_firstFault 10 = .ok (.aload_n 0, 1) := by decide +kernel
theorem dX4_firstFault_11 : decode cX4_firstFault 11 = .ok (.iload_n 1, 1) := by decide +kernel
theorem dX4_firstFault_12 : decode cX4_firstFault 12 = .ok (.invokevirtual 50, 3) := by decide +kernel
theorem dX4_firstFault_15 : decode cX4_firstFault 15 = .ok (.ifCond .ne 5, 3) := by decide +kernel
theorem dX4_firstFault_18 : decode cX4_firstFault 18 = .ok (.iload_n 1, 1) := by decide +kernel
theorem dX4_firstFault_19 : decode cX4_firstFault 19 = .ok (.ireturn, 1) := by decide +kernel
theorem dX4_firstFault_20 : decode cX4_firstFault 20 = .ok (.iinc 1 1, 3) := by decide +kernel
theorem dX4_firstFault_23 : decode cX4_firstFault 23 = .ok (.goto (-21), 3) := by decide +kernel
theorem dX4_firstFault_26 : decode cX4_firstFault 26 = .ok (.aload_n 0, 1) := by decide +kernel
theorem dX4_firstFault_27 : decode cX4_firstFault 27 = .ok (.getfield 15, 3) := by decide +kernel
theorem dX4_firstFault_30 : decode cX4_firstFault 30 = .ok (.ireturn, 1) := by decide +kernel
theorem dX4_belongs_0 : decode cX4_belongs 0 = .ok (.iload_n 1, 1) := by decide +kernel
theorem dX4_belongs_1 : decode cX4_belongs 1 = .ok (.ifCond .ne 27, 3) := by decide +kernel
theorem dX4_belongs_4 : decode cX4_belongs 4 = .ok (.aload_n 0, 1) := by decide +kernel
theorem dX4_belongs_5 : decode cX4_belongs 5 = .ok (.iconst 0, 1) := by decide +kernel
theorem dX4_belongs_6 : decode cX4_belongs 6 = .ok (.invokevirtual 34, 3) := by decide +kernel
theorem dX4_belongs_9 : decode cX4_belongs 9 = .ok (.iconst 2, 1) := by decide +kernel
theorem dX4_belongs_10 : decode cX4_belongs 10 = .ok (.if_icmp .lt 16, 3) := by decide +kernel
theorem dX4_belongs_13 : decode cX4_belongs 13 = .ok (.aload_n 0, 1) := by decide +kernel
theorem dX4_belongs_14 : decode cX4_belongs 14 = .ok (.iconst 0, 1) := by decide +kernel
theorem dX4_belongs_15 : decode cX4_belongs 15 = .ok (.invokevirtual 34, 3) := by decide +kernel
theorem dX4_belongs_18 : decode cX4_belongs 18 = .ok (.iconst 5, 1) := by decide +kernel
theorem dX4_belongs_19 : decode cX4_belongs 19 = .ok (.if_icmp .gt 7, 3) := by decide +kernel
theorem dX4_belongs_22 : decode cX4_belongs 22 = .ok (.iconst 1, 1) := by decide +kernel
theorem dX4_belongs_23 : decode cX4_belongs 23 = .ok (.goto 4, 3) := by decide +kernel
theorem dX4_belongs_26 : decode cX4_belongs 26 = .ok (.iconst 0, 1) := by decide +kernel
theorem dX4_belongs_27 : decode cX4_belongs 27 = .ok (.ireturn, 1) := by decide +kernel
theorem dX4_belongs_28 : decode cX4_belongs 28 = .ok (.iload_n 1, 1) := by decide +kernel
theorem dX4_belongs_29 : decode cX4_belongs 29 = .ok (.iconst 1, 1) := by decide +kernel
theorem dX4_belongs_30 : decode cX4_belongs 30 = .ok (.if_icmp .ne 19, 3) := by decide +kernel
theorem dX4_belongs_33 : decode cX4_belongs 33 = .ok (.aload_n 0, 1) := by decide +kernel
theorem dX4_belongs_34 : decode cX4_belongs 34 = .ok (.iconst 1, 1) := by decide +kernel
theorem dX4_belongs_35 : decode cX4_belongs 35 = .ok (.invokevirtual 19, 3) := by decide +kernel
theorem dX4_belongs_38 : decode cX4_belongs 38 = .ok (.bipush 59, 2) := by decide +kernel
theorem dX4_belongs_40 : decode cX4_belongs 40 = .ok (.if_icmp .ne 7, 3) := by decide +kernel
theorem dX4_belongs_43 : decode cX4_belongs 43 = .ok (.iconst 1, 1) := by decide +kernel
theorem dX4_belongs_44 : decode cX4_belongs 44 = .ok (.goto 4, 3) := by decide +kernel
theorem dX4_belongs_47 : decode cX4_belongs 47 = .ok (.iconst 0, 1) := by decide +kernel
theorem dX4_belongs_48 : decode cX4_belongs 48 = .ok (.ireturn, 1) := by decide +kernel
theorem dX4_belongs_49 : decode cX4_belongs 49 = .ok (.iload_n 1, 1) := by decide +kernel
theorem dX4_belongs_50 : decode cX4_belongs 50 = .ok (.bipush 41, 2) := by decide +kernel
theorem dX4_belongs_52 : decode cX4_belongs 52 = .ok (.if_icmp .lt 5, 3) := by decide +kernel
theorem dX4_belongs_55 : decode cX4_belongs 55 = .ok (.iconst 0, 1) := by decide +kernel
theorem dX4_belongs_56 : decode cX4_belongs 56 = .ok (.ireturn, 1) := by decide +kernel
theorem dX4_belongs_57 : decode cX4_belongs 57 = .ok (.iload_n 1, 1) := by decide +kernel
theorem dX4_belongs_58 : decode cX4_belongs 58 = .ok (.iconst 2, 1) := by decide +kernel
theorem dX4_belongs_59 : decode cX4_belongs 59 = .ok (.isub, 1) := by decide +kernel
theorem dX4_belongs_60 : decode cX4_belongs 60 = .ok (.iconst 5, 1) := by decide +kernel
theorem dX4_belongs_61 : decode cX4_belongs 61 = .ok (.irem, 1) := by decide +kernel
theorem dX4_belongs_62 : decode cX4_belongs 62 = .ok (.tableswitch 108 0 3 #[30, 50, 60, 93], 30) := by decide +kernel
theorem dX4_belongs_92 : decode cX4_belongs 92 = .ok (.ldc 27, 2) := by decide +kernel
theorem dX4_belongs_94 : decode cX4_belongs 94 = .ok (.aload_n 0, 1) := by decide +kernel
theorem dX4_belongs_95 : decode cX4_belongs 95 = .ok (.iload_n 1, 1) := by decide +kernel
theorem dX4_belongs_96 : decode cX4_belongs 96 = .ok (.invokevirtual 19, 3) := by decide +kernel
theorem dX4_belongs_99 : decode cX4_belongs 99 = .ok (.i2c, 1) := by decide +kernel
theorem dX4_belongs_100 : decode cX4_belongs 100 = .ok (.invokevirtual 29, 3) := by decide +kernel
theorem dX4_belongs_103 : decode cX4_belongs 103 = .ok (.ifCond .lt 7, 3) := by decide +kernel
theorem dX4_belongs_106 : decode cX4_belongs 106 = .ok (.iconst 1, 1) := by decide +kernel
theorem dX4_belongs_107 : decode cX4_belongs 107 = .ok (.goto 4, 3) := by decide +kernel
theorem dX4_belongs_110 : decode cX4_belongs 110 = .ok (.iconst 0, 1) := by decide +kernel
theorem dX4_belongs_111 : decode cX4_belongs 111 = .ok (.ireturn, 1) := by decide +kernel
theorem dX4_belongs_112 : decode cX4_belongs 112 = .ok (.aload_n 0, 1) := by decide +kernel
theorem dX4_belongs_113 : decode cX4_belongs 113 = .ok (.aload_n 0, 1) := by decide +kernel
theorem dX4_belongs_114 : decode cX4_belongs 114 = .ok (.iload_n 1, 1) := by decide +kernel
theorem dX4_belongs_115 : decode cX4_belongs 115 = .ok (.invokevirtual 34, 3) := by decide +kernel
theorem dX4_belongs_118 : decode cX4_belongs 118 = .ok (.invokevirtual 53, 3) := by decide +kernel
theorem dX4_belongs_121 : decode cX4_belongs 121 = .ok (.ireturn, 1) := by decide +kernel
theorem dX4_belongs_122 : decode cX4_belongs 122 = .ok (.aload_n 0, 1) := by decide +kernel
theorem dX4_belongs_123 : decode cX4_belongs 123 = .ok (.aload_n 0, 1) := by decide +kernel
theorem dX4_belongs_124 : decode cX4_belongs 124 = .ok (.iload_n 1, 1) := by decide +kernel
theorem dX4_belongs_125 : decode cX4_belongs 125 = .ok (.invokevirtual 34, 3) := by decide +kernel
theorem dX4_belongs_128 : decode cX4_belongs 128 = .ok (.invokevirtual 53, 3) := by decide +kernel
theorem dX4_belongs_131 : decode cX4_belongs 131 = .ok (.ifCond .eq 22, 3) := by decide +kernel
theorem dX4_belongs_134 : decode cX4_belongs 134 = .ok (.aload_n 0, 1) := by decide +kernel
theorem dX4_belongs_135 : decode cX4_belongs 135 = .ok (.iload_n 1, 1) := by decide +kernel
theorem dX4_belongs_136 : decode cX4_belongs 136 = .ok (.invokevirtual 34, 3) := by decide +kernel
theorem dX4_belongs_139 : decode cX4_belongs 139 = .ok (.aload_n 0, 1) := by decide +kernel
theorem dX4_belongs_140 : decode cX4_belongs 140 = .ok (.iload_n 1, 1) := by decide +kernel
theorem dX4_belongs_141 : decode cX4_belongs 141 = .ok (.iconst 1, 1) := by decide +kernel
theorem dX4_belongs_142 : decode cX4_belongs 142 = .ok (.isub, 1) := by decide +kernel
theorem dX4_belongs_143 : decode cX4_belongs 143 = .ok (.invokevirtual 34, 3) := by decide +kernel
theorem dX4_belongs_146 : decode cX4_belongs 146 = .ok (.if_icmp .eq 7, 3) := by decide +kernel
theorem dX4_belongs_149 : decode cX4_belongs 149 = .ok (.iconst 1, 1) := by decide +kernel
theorem dX4_belongs_150 : decode cX4_belongs 150 = .ok (.goto 4, 3) := by decide +kernel
theorem dX4_belongs_153 : decode cX4_belongs 153 = .ok (.iconst 0, 1) := by decide +kernel
theorem dX4_belongs_154 : decode cX4_belongs 154 = .ok (.ireturn, 1) := by decide +kernel
theorem dX4_belongs_155 : decode cX4_belongs 155 = .ok (.aload_n 0, 1) := by decide +kernel
theorem dX4_belongs_156 : decode cX4_belongs 156 = .ok (.iload_n 1, 1) := by decide +kernel
theorem dX4_belongs_157 : decode cX4_belongs 157 = .ok (.invokevirtual 37, 3) := by decide +kernel
theorem dX4_belongs_160 : decode cX4_belongs 160 = .ok (.iconst (-1), 1) := by decide +kernel
theorem dX4_belongs_161 : decode cX4_belongs 161 = .ok (.if_icmp .eq 7, 3) := by decide +kernel
theorem dX4_belongs_164 : decode cX4_belongs 164 = .ok (.iconst 1, 1) := by decide +kernel
theorem dX4_belongs_165 : decode cX4_belongs 165 = .ok (.goto 4, 3) := by decide +kernel
theorem dX4_belongs_168 : decode cX4_belongs 168 = .ok (.iconst 0, 1) := by decide +kernel
theorem dX4_belongs_169 : decode cX4_belongs 169 = .ok (.ireturn, 1) := by decide +kernel
theorem dX4_belongs_170 : decode cX4_belongs 170 = .ok (.aload_n 0, 1) := by decide +kernel
theorem dX4_belongs_171 : decode cX4_belongs 171 = .ok (.iload_n 1, 1) := by decide +kernel
theorem dX4_belongs_172 : decode cX4_belongs 172 = .ok (.invokevirtual 19, 3) := by decide +kernel
theorem dX4_belongs_175 : decode cX4_belongs 175 = .ok (.bipush 44, 2) := by decide +kernel
theorem dX4_belongs_177 : decode cX4_belongs 177 = .ok (.if_icmp .ne 7, 3) := by decide +kernel
theorem dX4_belongs_180 : decode cX4_belongs 180 = .ok (.iconst 1, 1) := by decide +kernel
theorem dX4_belongs_181 : decode cX4_belongs 181 = .ok (.goto 4, 3) := by decide +kernel
theorem dX4_belongs_184 : decode cX4_belongs 184 = .ok (.iconst 0, 1) := by decide +kernel
theorem dX4_belongs_185 : decode cX4_belongs 185 = .ok (.ireturn, 1) := by decide +kernel
theorem dX4_isCorner_0 : decode cX4_isCorner 0 = .ok (.iload_n 1, 1) := by decide +kernel
theorem dX4_isCorner_1 : decode cX4_isCorner 1 = .ok (.ifCond .lt 16, 3) := by decide +kernel
theorem dX4_isCorner_4 : decode cX4_isCorner 4 = .ok (.iload_n 1, 1) := by decide +kernel
theorem dX4_isCorner_5 : decode cX4_isCorner 5 = .ok (.aload_n 0, 1) := by decide +kernel
theorem dX4_isCorner_6 : decode cX4_isCorner 6 = .ok (.iconst 0, 1) := by decide +kernel
theorem dX4_isCorner_7 : decode cX4_isCorner 7 = .ok (.invokevirtual 34, 3) := by decide +kernel
theorem dX4_isCorner_10 : decode cX4_isCorner 10 = .ok (.if_icmp .ge 7, 3) := by decide +kernel
theorem dX4_isCorner_13 : decode cX4_isCorner 13 = .ok (.iconst 1, 1) := by decide +kernel
theorem dX4_isCorner_14 : decode cX4_isCorner 14 = .ok (.goto 4, 3) := by decide +kernel
theorem dX4_isCorner_17 : decode cX4_isCorner 17 = .ok (.iconst 0, 1) := by decide +kernel
theorem dX4_isCorner_18 : decode cX4_isCorner 18 = .ok (.ireturn, 1) := by decide +kernel
theorem dX5_init_0 : decode cX5_init 0 = .ok (.aload_n 0, 1) := by decide +kernel
theorem dX5_init_1 : decode cX5_init 1 = .ok (.iload_n 1, 1) := by decide +kernel
theorem dX5_init_2 : decode cX5_init 2 = .ok (.iload_n 2, 1) := by decide +kernel
theorem dX5_init_3 : decode cX5_init 3 = .ok (.invokespecial 3, 3) := by decide +kernel
theorem dX5_init_6 : decode cX5_init 6 = .ok (.return_, 1) := by decide +kernel
theorem dX5_kind_0 : decode cX5_kind 0 = .ok (.iconst 4, 1) := by decide +kernel
theorem dX5_kind_1 : decode cX5_kind 1 = .ok (.ireturn, 1) := by decide +kernel
theorem dX5_heard_0 : decode cX5_heard 0 = .ok (.aload_n 0, 1) := by decide +kernel
theorem dX5_heard_1 : decode cX5_heard 1 = .ok (.lload_n 1, 1) := by decide +kernel
theorem dX5_heard_2 : decode cX5_heard 2 = .ok (.iload_n 3, 1) := by decide +kernel
theorem dX5_heard_3 : decode cX5_heard 3 = .ok (.iload 4, 2) := by decide +kernel
theorem dX5_heard_5 : decode cX5_heard 5 = .ok (.invokespecial 9, 3) := by decide +kernel
theorem dX5_heard_8 : decode cX5_heard 8 = .ok (.istore 5, 2) := by decide +kernel
theorem dX5_heard_10 : decode cX5_heard 10 = .ok (.lload_n 1, 1) := by decide +kernel
theorem dX5_heard_11 : decode cX5_heard 11 = .ok (.iload_n 3, 1) := by decide +kernel
theorem dX5_heard_12 : decode cX5_heard 12 = .ok (.iconst 1, 1) := by decide +kernel
theorem dX5_heard_13 : decode cX5_heard 13 = .ok (.iadd, 1) := by decide +kernel
theorem dX5_heard_14 : decode cX5_heard 14 = .ok (.invokestatic 13, 3) := by decide +kernel
theorem dX5_heard_17 : decode cX5_heard 17 = .ok (.iconst (-1), 1) := by decide +kernel
theorem dX5_heard_18 : decode cX5_heard 18 = .ok (.if_icmp .ne 7, 3) := by decide +kernel
theorem dX5_heard_21 : decode cX5_heard 21 = .ok (.iconst 1, 1) := by decide +kernel
theorem dX5_heard_22 : decode cX5_heard 22 = .ok (.goto 4, 3) := by decide +kernel
theorem dX5_heard_25 : decode cX5_heard 25 = .ok (.iconst 0, 1) := by decide +kernel
theorem dX5_heard_26 : decode cX5_heard 26 = .ok (.istore 6, 2) := by decide +kernel
theorem dX5_heard_28 : decode cX5_heard 28 = .ok (.iload 6, 2) := by decide +kernel
theorem dX5_heard_30 : decode cX5_heard 30 = .ok (.ifCond .eq 24, 3) := by decide +kernel
theorem dX5_heard_33 : decode cX5_heard 33 = .ok (.iload 5, 2) := by decide +kernel
theorem dX5_heard_35 : decode cX5_heard 35 = .ok (.iload 4, 2) := by decide +kernel
theorem dX5_heard_37 : decode cX5_heard 37 = .ok (.invokestatic 19, 3) := by decide +kernel
theorem dX5_heard_40 : decode cX5_heard 40 = .ok (.iconst 3, 1) := by decide +kernel
theorem dX5_heard_41 : decode cX5_heard 41 = .ok (.if_icmp .ne 13, 3) := by decide +kernel
theorem dX5_heard_44 : decode cX5_heard 44 = .ok (.iload 4, 2) := by decide +kernel
theorem dX5_heard_46 : decode cX5_heard 46 = .ok (.iconst 4, 1) := by decide +kernel
theorem dX5_heard_47 : decode cX5_heard 47 = .ok (.iadd, 1) := by decide +kernel
theorem dX5_heard_48 : decode cX5_heard 48 = .ok (.bipush 12, 2) := by decide +kernel
theorem dX5_heard_50 : decode cX5_heard 50 = .ok (.irem, 1) := by decide +kernel
theorem dX5_heard_51 : decode cX5_heard 51 = .ok (.goto 5, 3) := by decide +kernel
theorem dX5_heard_54 : decode cX5_heard 54 = .ok (.iload 5, 2) := by decide +kernel
theorem dX5_heard_56 : decode cX5_heard 56 = .ok (.ireturn, 1) := by decide +kernel
theorem dX6_init_0 : decode cX6_init 0 = .ok (.aload_n 0, 1) := by decide +kernel
theorem dX6_init_1 : decode cX6_init 1 = .ok (.iload_n 1, 1) := by decide +kernel
theorem dX6_init_2 : decode cX6_init 2 = .ok (.iload_n 2, 1) := by decide +kernel
theorem dX6_init_3 : decode cX6_init 3 = .ok (.invokespecial 3, 3) := by decide +kernel
theorem dX6_init_6 : decode cX6_init 6 = .ok (.return_, 1) := by decide +kernel
theorem dX6_kind_0 : decode cX6_kind 0 = .ok (.iconst 3, 1) := by decide +kernel
theorem dX6_kind_1 : decode cX6_kind 1 = .ok (.ireturn, 1) := by decide +kernel
theorem dX6_heard_0 : decode cX6_heard 0 = .ok (.lload_n 1, 1) := by decide +kernel
theorem dX6_heard_1 : decode cX6_heard 1 = .ok (.iconst 0, 1) := by decide +kernel
theorem dX6_heard_2 : decode cX6_heard 2 = .ok (.invokestatic 9, 3) := by decide +kernel
theorem dX6_heard_5 : decode cX6_heard 5 = .ok (.ireturn, 1) := by decide +kernel
theorem dX7_init_0 : decode cX7_init 0 = .ok (.aload_n 0, 1) := by decide +kernel
theorem dX7_init_1 : decode cX7_init 1 = .ok (.invokespecial 3, 3) := by decide +kernel
theorem dX7_init_4 : decode cX7_init 4 = .ok (.aload_n 0, 1) := by decide +kernel
theorem dX7_init_5 : decode cX7_init 5 = .ok (.iload_n 1, 1) := by decide +kernel
theorem dX7_init_6 : decode cX7_init 6 = .ok (.putfield 9, 3) := by decide +kernel
theorem dX7_init_9 : decode cX7_init 9 = .ok (.aload_n 0, 1) := by decide +kernel
theorem dX7_init_10 : decode cX7_init 10 = .ok (.iload_n 2, 1) := by decide +kernel
theorem dX7_init_11 : decode cX7_init 11 = .ok (.putfield 15, 3) := by decide +kernel
theorem dX7_init_14 : decode cX7_init 14 = .ok (.return_, 1) := by decide +kernel
theorem dX7_kind_0 : decode cX7_kind 0 = .ok (.iconst 0, 1) := by decide +kernel
theorem dX7_kind_1 : decode cX7_kind 1 = .ok (.ireturn, 1) := by decide +kernel
theorem dX7_heard_0 : decode cX7_heard 0 = .ok (.lload_n 1, 1) := by decide +kernel
theorem dX7_heard_1 : decode cX7_heard 1 = .ok (.iload_n 3, 1) := by decide +kernel
theorem dX7_heard_2 : decode cX7_heard 2 = .ok (.invokestatic 18, 3) := by decide +kernel
theorem dX7_heard_5 : decode cX7_heard 5 = .ok (.iload 4, 2) := by decide +kernel
theorem dX7_heard_7 : decode cX7_heard 7 = .ok (.iadd, 1) := by decide +kernel
theorem dX7_heard_8 : decode cX7_heard 8 = .ok (.bipush 12, 2) := by decide +kernel
theorem dX7_heard_10 : decode cX7_heard 10 = .ok (.irem, 1) := by decide +kernel
theorem dX7_heard_11 : decode cX7_heard 11 = .ok (.ireturn, 1) := by decide +kernel
theorem dX7_open_0 : decode cX7_open 0 = .ok (.iconst 1, 1) := by decide +kernel
theorem dX7_open_1 : decode cX7_open 1 = .ok (.ireturn, 1) := by decide +kernel
theorem dX7_endsAt_0 : decode cX7_endsAt 0 = .ok (.iload_n 1, 1) := by decide +kernel
theorem dX7_endsAt_1 : decode cX7_endsAt 1 = .ok (.aload_n 0, 1) := by decide +kernel
theorem dX7_endsAt_2 : decode cX7_endsAt 2 = .ok (.getfield 9, 3) := by decide +kernel
theorem dX7_endsAt_5 : decode cX7_endsAt 5 = .ok (.if_icmp .eq 11, 3) := by decide +kernel
theorem dX7_endsAt_8 : decode cX7_endsAt 8 = .ok (.iload_n 1, 1) := by decide +kernel
theorem dX7_endsAt_9 : decode cX7_endsAt 9 = .ok (.aload_n 0, 1) := by decide +kernel
theorem dX7_endsAt_10 : decode cX7_endsAt 10 = .ok (.getfield 15, 3) := by decide +kernel
theorem dX7_endsAt_13 : decode cX7_endsAt 13 = .ok (.if_icmp .ne 7, 3) := by decide +kernel
theorem dX7_endsAt_16 : decode cX7_endsAt 16 = .ok (.iconst 1, 1) := by decide +kernel
theorem dX7_endsAt_17 : decode cX7_endsAt 17 = .ok (.goto 4, 3) := by decide +kernel
theorem dX7_endsAt_20 : decode cX7_endsAt 20 = .ok (.iconst 0, 1) := by decide +kernel
theorem dX7_endsAt_21 : decode cX7_endsAt 21 = .ok (.ireturn, 1) := by decide +kernel
theorem dX7_across_0 : decode cX7_across 0 = .ok (.iload_n 1, 1) := by decide +kernel
theorem dX7_across_1 : decode cX7_across 1 = .ok (.aload_n 0, 1) := by decide +kernel
theorem dX7_across_2 : decode cX7_across 2 = .ok (.getfield 9, 3) := by decide +kernel
theorem dX7_across_5 : decode cX7_across 5 = .ok (.if_icmp .ne 10, 3) := by decide +kernel
theorem dX7_across_8 : decode cX7_across 8 = .ok (.aload_n 0, 1) := by decide +kernel
theorem dX7_across_9 : decode cX7_across 9 = .ok (.getfield 15, 3) := by decide +kernel
theorem dX7_across_12 : decode cX7_across 12 = .ok (.goto 7, 3) := by decide +kernel
theorem dX7_across_15 : decode cX7_across 15 = .ok (.aload_n 0, 1) := by decide +kernel
theorem dX7_across_16 : decode cX7_across 16 = .ok (.getfield 9, 3) := by decide +kernel
theorem dX7_across_19 : decode cX7_across 19 = .ok (.ireturn, 1) := by decide +kernel
theorem dX7_carry_0 : decode cX7_carry 0 = .ok (.lconst 0, 1) := by decide +kernel
theorem dX7_carry_1 : decode cX7_carry 1 = .ok (.lstore 4, 2) := by decide +kernel
theorem dX7_carry_3 : decode cX7_carry 3 = .ok (.iconst 0, 1) := by decide +kernel
theorem dX7_carry_4 : decode cX7_carry 4 = .ok (.istore 6, 2) := by decide +kernel
theorem dX7_carry_6 : decode cX7_carry 6 = .ok (.iload 6, 2) := by decide +kernel
theorem dX7_carry_8 : decode cX7_carry 8 = .ok (.bipush 8, 2) := by decide +kernel
theorem dX7_carry_10 : decode cX7_carry 10 = .ok (.if_icmp .ge 36, 3) := by decide +kernel
theorem dX7_carry_13 : decode cX7_carry 13 = .ok (.lload_n 1, 1) := by decide +kernel
theorem dX7_carry_14 : decode cX7_carry 14 = .ok (.iload 6, 2) := by decide +kernel
theorem dX7_carry_16 : decode cX7_carry 16 = .ok (.invokestatic 18, 3) := by decide +kernel
theorem dX7_carry_19 : decode cX7_carry 19 = .ok (.iconst (-1), 1) := by decide +kernel
theorem dX7_carry_20 : decode cX7_carry 20 = .ok (.if_icmp .eq 26, 3) := by decide +kernel
theorem dX7_carry_23 : decode cX7_carry 23 = .ok (.lload 4, 2) := by decide +kernel
theorem dX7_carry_25 : decode cX7_carry 25 = .ok (.iload 6, 2) := by decide +kernel
theorem dX7_carry_27 : decode cX7_carry 27 = .ok (.aload_n 0, 1) := by decide +kernel
theorem dX7_carry_28 : decode cX7_carry 28 = .ok (.lload_n 1, 1) := by decide +kernel
theorem dX7_carry_29 : decode cX7_carry 29 = .ok (.iload 6, 2) := by decide +kernel
theorem dX7_carry_31 : decode cX7_carry 31 = .ok (.iload_n 3, 1) := by decide +kernel
theorem dX7_carry_32 : decode cX7_carry 32 = .ok (.invokevirtual 24, 3) := by decide +kernel
theorem dX7_carry_35 : decode cX7_carry 35 = .ok (.invokestatic 28, 3) := by decide +kernel
theorem dX7_carry_38 : decode cX7_carry 38 = .ok (.lstore 4, 2) := by decide +kernel
theorem dX7_carry_40 : decode cX7_carry 40 = .ok (.iinc 6 1, 3) := by decide +kernel
theorem dX7_carry_43 : decode cX7_carry 43 = .ok (.goto (-37), 3) := by decide +kernel
theorem dX7_carry_46 : decode cX7_carry 46 = .ok (.lload 4, 2) := by decide +kernel
theorem dX7_carry_48 : decode cX7_carry 48 = .ok (.lreturn, 1) := by decide +kernel
theorem dX7_makes_0 : decode cX7_makes 0 = .ok (.iconst 0, 1) := by decide +kernel
theorem dX7_makes_1 : decode cX7_makes 1 = .ok (.istore 6, 2) := by decide +kernel
theorem dX7_makes_3 : decode cX7_makes 3 = .ok (.iload 6, 2) := by decide +kernel
theorem dX7_makes_5 : decode cX7_makes 5 = .ok (.bipush 8, 2) := by decide +kernel
theorem dX7_makes_7 : decode cX7_makes 7 = .ok (.if_icmp .ge 39, 3) := by decide +kernel
theorem dX7_makes_10 : decode cX7_makes 10 = .ok (.lload_n 1, 1) := by decide +kernel
theorem dX7_makes_11 : decode cX7_makes 11 = .ok (.iload 6, 2) := by decide +kernel
theorem dX7_makes_13 : decode cX7_makes 13 = .ok (.invokestatic 18, 3) := by decide +kernel
theorem dX7_makes_16 : decode cX7_makes 16 = .ok (.iconst (-1), 1) := by decide +kernel
theorem dX7_makes_17 : decode cX7_makes 17 = .ok (.if_icmp .eq 29, 3) := by decide +kernel
theorem dX7_makes_20 : decode cX7_makes 20 = .ok (.aload_n 0, 1) := by decide +kernel
theorem dX7_makes_21 : decode cX7_makes 21 = .ok (.lload_n 1, 1) := by decide +kernel
theorem dX7_makes_22 : decode cX7_makes 22 = .ok (.iload 6, 2) := by decide +kernel
theorem dX7_makes_24 : decode cX7_makes 24 = .ok (.iload_n 3, 1) := by decide +kernel
theorem dX7_makes_25 : decode cX7_makes 25 = .ok (.invokevirtual 24, 3) := by decide +kernel
theorem dX7_makes_28 : decode cX7_makes 28 = .ok (.lload 4, 2) := by decide +kernel
theorem dX7_makes_30 : decode cX7_makes 30 = .ok (.iload 6, 2) := by decide +kernel
theorem dX7_makes_32 : decode cX7_makes 32 = .ok (.invokestatic 18, 3) := by decide +kernel
theorem dX7_makes_35 : decode cX7_makes 35 = .ok (.if_icmp .eq 5, 3) := by decide +kernel
theorem dX7_makes_38 : decode cX7_makes 38 = .ok (.iconst 0, 1) := by decide +kernel
theorem dX7_makes_39 : decode cX7_makes 39 = .ok (.ireturn, 1) := by decide +kernel
theorem dX7_makes_40 : decode cX7_makes 40 = .ok (.iinc 6 1, 3) := by decide +kernel
theorem dX7_makes_43 : decode cX7_makes 43 = .ok (.goto (-40), 3) := by decide +kernel
theorem dX7_makes_46 : decode cX7_makes 46 = .ok (.lload 4, 2) := by decide +kernel
theorem dX7_makes_48 : decode cX7_makes 48 = .ok (.iload 6, 2) := by decide +kernel
theorem dX7_makes_50 : decode cX7_makes 50 = .ok (.invokestatic 18, 3) := by decide +kernel
theorem dX7_makes_53 : decode cX7_makes 53 = .ok (.iconst (-1), 1) := by decide +kernel
theorem dX7_makes_54 : decode cX7_makes 54 = .ok (.if_icmp .ne 7, 3) := by decide +kernel
theorem dX7_makes_57 : decode cX7_makes 57 = .ok (.iconst 1, 1) := by decide +kernel
theorem dX7_makes_58 : decode cX7_makes 58 = .ok (.goto 4, 3) := by decide +kernel
theorem dX7_makes_61 : decode cX7_makes 61 = .ok (.iconst 0, 1) := by decide +kernel
theorem dX7_makes_62 : decode cX7_makes 62 = .ok (.ireturn, 1) := by decide +kernel
theorem dX7_alone_0 : decode cX7_alone 0 = .ok (.aload_n 0, 1) := by decide +kernel
theorem dX7_alone_1 : decode cX7_alone 1 = .ok (.lconst 0, 1) := by decide +kernel
theorem dX7_alone_2 : decode cX7_alone 2 = .ok (.iconst 0, 1) := by decide +kernel
theorem dX7_alone_3 : decode cX7_alone 3 = .ok (.iload_n 1, 1) := by decide +kernel
theorem dX7_alone_4 : decode cX7_alone 4 = .ok (.invokestatic 28, 3) := by decide +kernel
theorem dX7_alone_7 : decode cX7_alone 7 = .ok (.iconst 0, 1) := by decide +kernel
theorem dX7_alone_8 : decode cX7_alone 8 = .ok (.iload_n 2, 1) := by decide +kernel
theorem dX7_alone_9 : decode cX7_alone 9 = .ok (.invokevirtual 24, 3) := by decide +kernel
theorem dX7_alone_12 : decode cX7_alone 12 = .ok (.ireturn, 1) := by decide +kernel
theorem dX8_note_0 : decode cX8_note 0 = .ok (.iload_n 2, 1) := by decide +kernel
theorem dX8_note_1 : decode cX8_note 1 = .ok (.ifCond .lt 9, 3) := by decide +kernel
theorem dX8_note_4 : decode cX8_note 4 = .ok (.iload_n 2, 1) := by decide +kernel
theorem dX8_note_5 : decode cX8_note 5 = .ok (.bipush 8, 2) := by decide +kernel
theorem dX8_note_7 : decode cX8_note 7 = .ok (.if_icmp .lt 5, 3) := by decide +kernel
theorem dX8_note_10 : decode cX8_note 10 = .ok (.iconst (-1), 1) := by decide +kernel
theorem dX8_note_11 : decode cX8_note 11 = .ok (.ireturn, 1) := by decide +kernel
theorem dX8_note_12 : decode cX8_note 12 = .ok (.lload_n 0, 1) := by decide +kernel
theorem dX8_note_13 : decode cX8_note 13 = .ok (.iconst 4, 1) := by decide +kernel
theorem dX8_note_14 : decode cX8_note 14 = .ok (.iload_n 2, 1) := by decide +kernel
theorem dX8_note_15 : decode cX8_note 15 = .ok (.imul, 1) := by decide +kernel
theorem dX8_note_16 : decode cX8_note 16 = .ok (.lushr, 1) := by decide +kernel
theorem dX8_note_17 : decode cX8_note 17 = .ok (.ldc2_w 9, 3) := by decide +kernel
theorem dX8_note_20 : decode cX8_note 20 = .ok (.land, 1) := by decide +kernel
theorem dX8_note_21 : decode cX8_note 21 = .ok (.l2i, 1) := by decide +kernel
theorem dX8_note_22 : decode cX8_note 22 = .ok (.iconst 1, 1) := by decide +kernel
theorem dX8_note_23 : decode cX8_note 23 = .ok (.isub, 1) := by decide +kernel
theorem dX8_note_24 : decode cX8_note 24 = .ok (.ireturn, 1) := by decide +kernel
theorem dX8_with_0 : decode cX8_with 0 = .ok (.iconst 4, 1) := by decide +kernel
theorem dX8_with_1 : decode cX8_with 1 = .ok (.iload_n 2, 1) := by decide +kernel
theorem dX8_with_2 : decode cX8_with 2 = .ok (.imul, 1) := by decide +kernel
theorem dX8_with_3 : decode cX8_with 3 = .ok (.istore 4, 2) := by decide +kernel
theorem dX8_with_5 : decode cX8_with 5 = .ok (.lload_n 0, 1) := by decide +kernel
theorem dX8_with_6 : decode cX8_with 6 = .ok (.ldc2_w 9, 3) := by decide +kernel
theorem dX8_with_9 : decode cX8_with 9 = .ok (.iload 4, 2) := by decide +kernel
theorem dX8_with_11 : decode cX8_with 11 = .ok (.lshl, 1) := by decide +kernel
theorem dX8_with_12 : decode cX8_with 12 = .ok (.ldc2_w 11, 3) := by decide +kernel
theorem dX8_with_15 : decode cX8_with 15 = .ok (.lxor, 1) := by decide +kernel
theorem dX8_with_16 : decode cX8_with 16 = .ok (.land, 1) := by decide +kernel
theorem dX8_with_17 : decode cX8_with 17 = .ok (.iload_n 3, 1) := by decide +kernel
theorem dX8_with_18 : decode cX8_with 18 = .ok (.i2l, 1) := by decide +kernel
theorem dX8_with_19 : decode cX8_with 19 = .ok (.lconst 1, 1) := by decide +kernel
theorem dX8_with_20 : decode cX8_with 20 = .ok (.ladd, 1) := by decide +kernel
theorem dX8_with_21 : decode cX8_with 21 = .ok (.iload 4, 2) := by decide +kernel
theorem dX8_with_23 : decode cX8_with 23 = .ok (.lshl, 1) := by decide +kernel
theorem dX8_with_24 : decode cX8_with 24 = .ok (.lor, 1) := by decide +kernel
theorem dX8_with_25 : decode cX8_with 25 = .ok (.lreturn, 1) := by decide +kernel
theorem dX8_length_0 : decode cX8_length 0 = .ok (.iconst 0, 1) := by decide +kernel
theorem dX8_length_1 : decode cX8_length 1 = .ok (.istore_n 2, 1) := by decide +kernel
theorem dX8_length_2 : decode cX8_length 2 = .ok (.iload_n 2, 1) := by decide +kernel
theorem dX8_length_3 : decode cX8_length 3 = .ok (.bipush 8, 2) := by decide +kernel
theorem dX8_length_5 : decode cX8_length 5 = .ok (.if_icmp .ge 18, 3) := by decide +kernel
theorem dX8_length_8 : decode cX8_length 8 = .ok (.lload_n 0, 1) := by decide +kernel
theorem dX8_length_9 : decode cX8_length 9 = .ok (.iload_n 2, 1) := by decide +kernel
theorem dX8_length_10 : decode cX8_length 10 = .ok (.invokestatic 13, 3) := by decide +kernel
theorem dX8_length_13 : decode cX8_length 13 = .ok (.iconst (-1), 1) := by decide +kernel
theorem dX8_length_14 : decode cX8_length 14 = .ok (.if_icmp .eq 9, 3) := by decide +kernel
theorem dX8_length_17 : decode cX8_length 17 = .ok (.iinc 2 1, 3) := by decide +kernel
theorem dX8_length_20 : decode cX8_length 20 = .ok (.goto (-18), 3) := by decide +kernel
theorem dX8_length_23 : decode cX8_length 23 = .ok (.iload_n 2, 1) := by decide +kernel
theorem dX8_length_24 : decode cX8_length 24 = .ok (.ireturn, 1) := by decide +kernel
theorem dX8_above_0 : decode cX8_above 0 = .ok (.iload_n 0, 1) := by decide +kernel
theorem dX8_above_1 : decode cX8_above 1 = .ok (.iload_n 1, 1) := by decide +kernel
theorem dX8_above_2 : decode cX8_above 2 = .ok (.isub, 1) := by decide +kernel
theorem dX8_above_3 : decode cX8_above 3 = .ok (.bipush 12, 2) := by decide +kernel
theorem dX8_above_5 : decode cX8_above 5 = .ok (.iadd, 1) := by decide +kernel
theorem dX8_above_6 : decode cX8_above 6 = .ok (.bipush 12, 2) := by decide +kernel
theorem dX8_above_8 : decode cX8_above 8 = .ok (.irem, 1) := by decide +kernel
theorem dX8_above_9 : decode cX8_above 9 = .ok (.ireturn, 1) := by decide +kernel
theorem dX8_tritones_0 : decode cX8_tritones 0 = .ok (.iconst 0, 1) := by decide +kernel
theorem dX8_tritones_1 : decode cX8_tritones 1 = .ok (.istore_n 2, 1) := by decide +kernel
theorem dX8_tritones_2 : decode cX8_tritones 2 = .ok (.lload_n 0, 1) := by decide +kernel
theorem dX8_tritones_3 : decode cX8_tritones 3 = .ok (.invokestatic 19, 3) := by decide +kernel
theorem dX8_tritones_6 : decode cX8_tritones 6 = .ok (.istore_n 3, 1) := by decide +kernel
theorem dX8_tritones_7 : decode cX8_tritones 7 = .ok (.iconst 1, 1) := by decide +kernel
theorem dX8_tritones_8 : decode cX8_tritones 8 = .ok (.istore 4, 2) := by decide +kernel
theorem dX8_tritones_10 : decode cX8_tritones 10 = .ok (.iload 4, 2) := by decide +kernel
theorem dX8_tritones_12 : decode cX8_tritones 12 = .ok (.iload_n 3, 1) := by decide +kernel
theorem dX8_tritones_13 : decode cX8_tritones 13 = .ok (.if_icmp .ge 35, 3) := by decide +kernel
theorem dX8_tritones_16 : decode cX8_tritones 16 = .ok (.lload_n 0, 1) := by decide +kernel
theorem dX8_tritones_17 : decode cX8_tritones 17 = .ok (.iload 4, 2) := by decide +kernel
theorem dX8_tritones_19 : decode cX8_tritones 19 = .ok (.invokestatic 13, 3) := by decide +kernel
theorem dX8_tritones_22 : decode cX8_tritones 22 = .ok (.lload_n 0, 1) := by decide +kernel
theorem dX8_tritones_23 : decode cX8_tritones 23 = .ok (.iload 4, 2) := by decide +kernel
theorem dX8_tritones_25 : decode cX8_tritones 25 = .ok (.iconst 1, 1) := by decide +kernel
theorem dX8_tritones_26 : decode cX8_tritones 26 = .ok (.isub, 1) := by decide +kernel
theorem dX8_tritones_27 : decode cX8_tritones 27 = .ok (.invokestatic 13, 3) := by decide +kernel
theorem dX8_tritones_30 : decode cX8_tritones 30 = .ok (.isub, 1) := by decide +kernel
theorem dX8_tritones_31 : decode cX8_tritones 31 = .ok (.invokestatic 23, 3) := by decide +kernel
theorem dX8_tritones_34 : decode cX8_tritones 34 = .ok (.bipush 6, 2) := by decide +kernel
theorem dX8_tritones_36 : decode cX8_tritones 36 = .ok (.if_icmp .ne 6, 3) := by decide +kernel
theorem dX8_tritones_39 : decode cX8_tritones 39 = .ok (.iinc 2 1, 3) := by decide +kernel
theorem dX8_tritones_42 : decode cX8_tritones 42 = .ok (.iinc 4 1, 3) := by decide +kernel
theorem dX8_tritones_45 : decode cX8_tritones 45 = .ok (.goto (-35), 3) := by decide +kernel
theorem dX8_tritones_48 : decode cX8_tritones 48 = .ok (.iload_n 2, 1) := by decide +kernel
theorem dX8_tritones_49 : decode cX8_tritones 49 = .ok (.ireturn, 1) := by decide +kernel
theorem dX8_bits_0 : decode cX8_bits 0 = .ok (.iconst 0, 1) := by decide +kernel
theorem dX8_bits_1 : decode cX8_bits 1 = .ok (.istore_n 2, 1) := by decide +kernel
theorem dX8_bits_2 : decode cX8_bits 2 = .ok (.lload_n 0, 1) := by decide +kernel
theorem dX8_bits_3 : decode cX8_bits 3 = .ok (.invokestatic 19, 3) := by decide +kernel
theorem dX8_bits_6 : decode cX8_bits 6 = .ok (.istore_n 3, 1) := by decide +kernel
theorem dX8_bits_7 : decode cX8_bits 7 = .ok (.iconst 0, 1) := by decide +kernel
theorem dX8_bits_8 : decode cX8_bits 8 = .ok (.istore 4, 2) := by decide +kernel
theorem dX8_bits_10 : decode cX8_bits 10 = .ok (.iload 4, 2) := by decide +kernel
theorem dX8_bits_12 : decode cX8_bits 12 = .ok (.iload_n 3, 1) := by decide +kernel
theorem dX8_bits_13 : decode cX8_bits 13 = .ok (.if_icmp .ge 20, 3) := by decide +kernel
theorem dX8_bits_16 : decode cX8_bits 16 = .ok (.iload_n 2, 1) := by decide +kernel
theorem dX8_bits_17 : decode cX8_bits 17 = .ok (.iconst 1, 1) := by decide +kernel
theorem dX8_bits_18 : decode cX8_bits 18 = .ok (.lload_n 0, 1) := by decide +kernel
theorem dX8_bits_19 : decode cX8_bits 19 = .ok (.iload 4, 2) := by decide +kernel
theorem dX8_bits_21 : decode cX8_bits 21 = .ok (.invokestatic 13, 3) := by decide +kernel
theorem dX8_bits_24 : decode cX8_bits 24 = .ok (.ishl, 1) := by decide +kernel
theorem dX8_bits_25 : decode cX8_bits 25 = .ok (.ior, 1) := by decide +kernel
theorem dX8_bits_26 : decode cX8_bits 26 = .ok (.istore_n 2, 1) := by decide +kernel
theorem dX8_bits_27 : decode cX8_bits 27 = .ok (.iinc 4 1, 3) := by decide +kernel
theorem dX8_bits_30 : decode cX8_bits 30 = .ok (.goto (-20), 3) := by decide +kernel
theorem dX8_bits_33 : decode cX8_bits 33 = .ok (.iload_n 2, 1) := by decide +kernel
theorem dX8_bits_34 : decode cX8_bits 34 = .ok (.ireturn, 1) := by decide +kernel
theorem dX8_key_0 : decode cX8_key 0 = .ok (.iconst 0, 1) := by decide +kernel
theorem dX8_key_1 : decode cX8_key 1 = .ok (.istore_n 2, 1) := by decide +kernel
theorem dX8_key_2 : decode cX8_key 2 = .ok (.lload_n 0, 1) := by decide +kernel
theorem dX8_key_3 : decode cX8_key 3 = .ok (.iconst 0, 1) := by decide +kernel
theorem dX8_key_4 : decode cX8_key 4 = .ok (.invokestatic 29, 3) := by decide +kernel
theorem dX8_key_7 : decode cX8_key 7 = .ok (.istore_n 3, 1) := by decide +kernel
theorem dX8_key_8 : decode cX8_key 8 = .ok (.iconst 1, 1) := by decide +kernel
theorem dX8_key_9 : decode cX8_key 9 = .ok (.istore 4, 2) := by decide +kernel
theorem dX8_key_11 : decode cX8_key 11 = .ok (.iload 4, 2) := by decide +kernel
theorem dX8_key_13 : decode cX8_key 13 = .ok (.bipush 24, 2) := by decide +kernel
theorem dX8_key_15 : decode cX8_key 15 = .ok (.if_icmp .ge 29, 3) := by decide +kernel
theorem dX8_key_18 : decode cX8_key 18 = .ok (.lload_n 0, 1) := by decide +kernel
theorem dX8_key_19 : decode cX8_key 19 = .ok (.iload 4, 2) := by decide +kernel
theorem dX8_key_21 : decode cX8_key 21 = .ok (.invokestatic 29, 3) := by decide +kernel
theorem dX8_key_24 : decode cX8_key 24 = .ok (.istore 5, 2) := by decide +kernel
theorem dX8_key_26 : decode cX8_key 26 = .ok (.iload 5, 2) := by decide +kernel
theorem dX8_key_28 : decode cX8_key 28 = .ok (.iload_n 3, 1) := by decide +kernel
theorem dX8_key_29 : decode cX8_key 29 = .ok (.if_icmp .le 9, 3) := by decide +kernel
theorem dX8_key_32 : decode cX8_key 32 = .ok (.iload 5, 2) := by decide +kernel
theorem dX8_key_34 : decode cX8_key 34 = .ok (.istore_n 3, 1) := by decide +kernel
theorem dX8_key_35 : decode cX8_key 35 = .ok (.iload 4, 2) := by decide +kernel
theorem dX8_key_37 : decode cX8_key 37 = .ok (.istore_n 2, 1) := by decide +kernel
theorem dX8_key_38 : decode cX8_key 38 = .ok (.iinc 4 1, 3) := by decide +kernel
theorem dX8_key_41 : decode cX8_key 41 = .ok (.goto (-30), 3) := by decide +kernel
theorem dX8_key_44 : decode cX8_key 44 = .ok (.iload_n 2, 1) := by decide +kernel
theorem dX8_key_45 : decode cX8_key 45 = .ok (.ireturn, 1) := by decide +kernel
theorem dX8_inKey_0 : decode cX8_inKey 0 = .ok (.iload_n 2, 1) := by decide +kernel
theorem dX8_inKey_1 : decode cX8_inKey 1 = .ok (.bipush 12, 2) := by decide +kernel
theorem dX8_inKey_3 : decode cX8_inKey 3 = .ok (.if_icmp .ge 9, 3) := by decide +kernel
theorem dX8_inKey_6 : decode cX8_inKey 6 = .ok (.sipush 2741, 3) := by decide +kernel
theorem dX8_inKey_9 : decode cX8_inKey 9 = .ok (.goto 6, 3) := by decide +kernel
theorem dX8_inKey_12 : decode cX8_inKey 12 = .ok (.sipush 1453, 3) := by decide +kernel
theorem dX8_inKey_15 : decode cX8_inKey 15 = .ok (.istore_n 3, 1) := by decide +kernel
theorem dX8_inKey_16 : decode cX8_inKey 16 = .ok (.iload_n 2, 1) := by decide +kernel
theorem dX8_inKey_17 : decode cX8_inKey 17 = .ok (.bipush 12, 2) := by decide +kernel
theorem dX8_inKey_19 : decode cX8_inKey 19 = .ok (.irem, 1) := by decide +kernel
theorem dX8_inKey_20 : decode cX8_inKey 20 = .ok (.istore 4, 2) := by decide +kernel
theorem dX8_inKey_22 : decode cX8_inKey 22 = .ok (.lload_n 0, 1) := by decide +kernel
theorem dX8_inKey_23 : decode cX8_inKey 23 = .ok (.invokestatic 19, 3) := by decide +kernel
theorem dX8_inKey_26 : decode cX8_inKey 26 = .ok (.istore 5, 2) := by decide +kernel
theorem dX8_inKey_28 : decode cX8_inKey 28 = .ok (.iconst 0, 1) := by decide +kernel
theorem dX8_inKey_29 : decode cX8_inKey 29 = .ok (.istore 6, 2) := by decide +kernel
theorem dX8_inKey_31 : decode cX8_inKey 31 = .ok (.iconst 0, 1) := by decide +kernel
theorem dX8_inKey_32 : decode cX8_inKey 32 = .ok (.istore 7, 2) := by decide +kernel
theorem dX8_inKey_34 : decode cX8_inKey 34 = .ok (.iload 7, 2) := by decide +kernel
theorem dX8_inKey_36 : decode cX8_inKey 36 = .ok (.iload 5, 2) := by decide +kernel
theorem dX8_inKey_38 : decode cX8_inKey 38 = .ok (.if_icmp .ge 29, 3) := by decide +kernel
theorem dX8_inKey_41 : decode cX8_inKey 41 = .ok (.iload 6, 2) := by decide +kernel
theorem dX8_inKey_43 : decode cX8_inKey 43 = .ok (.iload_n 3, 1) := by decide +kernel
theorem dX8_inKey_44 : decode cX8_inKey 44 = .ok (.lload_n 0, 1) := by decide +kernel
theorem dX8_inKey_45 : decode cX8_inKey 45 = .ok (.iload 7, 2) := by decide +kernel
theorem dX8_inKey_47 : decode cX8_inKey 47 = .ok (.invokestatic 13, 3) := by decide +kernel
theorem dX8_inKey_50 : decode cX8_inKey 50 = .ok (.iload 4, 2) := by decide +kernel
theorem dX8_inKey_52 : decode cX8_inKey 52 = .ok (.invokestatic 32, 3) := by decide +kernel
theorem dX8_inKey_55 : decode cX8_inKey 55 = .ok (.ishr, 1) := by decide +kernel
theorem dX8_inKey_56 : decode cX8_inKey 56 = .ok (.iconst 1, 1) := by decide +kernel
theorem dX8_inKey_57 : decode cX8_inKey 57 = .ok (.iand, 1) := by decide +kernel
theorem dX8_inKey_58 : decode cX8_inKey 58 = .ok (.iadd, 1) := by decide +kernel
theorem dX8_inKey_59 : decode cX8_inKey 59 = .ok (.istore 6, 2) := by decide +kernel
theorem dX8_inKey_61 : decode cX8_inKey 61 = .ok (.iinc 7 1, 3) := by decide +kernel
theorem dX8_inKey_64 : decode cX8_inKey 64 = .ok (.goto (-30), 3) := by decide +kernel
theorem dX8_inKey_67 : decode cX8_inKey 67 = .ok (.iload 6, 2) := by decide +kernel
theorem dX8_inKey_69 : decode cX8_inKey 69 = .ok (.ireturn, 1) := by decide +kernel
theorem dX8_unlike_0 : decode cX8_unlike 0 = .ok (.iconst 0, 1) := by decide +kernel
theorem dX8_unlike_1 : decode cX8_unlike 1 = .ok (.istore 4, 2) := by decide +kernel
theorem dX8_unlike_3 : decode cX8_unlike 3 = .ok (.iconst 0, 1) := by decide +kernel
theorem dX8_unlike_4 : decode cX8_unlike 4 = .ok (.istore 5, 2) := by decide +kernel
theorem dX8_unlike_6 : decode cX8_unlike 6 = .ok (.iload 5, 2) := by decide +kernel
theorem dX8_unlike_8 : decode cX8_unlike 8 = .ok (.bipush 8, 2) := by decide +kernel
theorem dX8_unlike_10 : decode cX8_unlike 10 = .ok (.if_icmp .ge 27, 3) := by decide +kernel
theorem dX8_unlike_13 : decode cX8_unlike 13 = .ok (.lload_n 0, 1) := by decide +kernel
theorem dX8_unlike_14 : decode cX8_unlike 14 = .ok (.iload 5, 2) := by decide +kernel
theorem dX8_unlike_16 : decode cX8_unlike 16 = .ok (.invokestatic 13, 3) := by decide +kernel
theorem dX8_unlike_19 : decode cX8_unlike 19 = .ok (.lload_n 2, 1) := by decide +kernel
theorem dX8_unlike_20 : decode cX8_unlike 20 = .ok (.iload 5, 2) := by decide +kernel
theorem dX8_unlike_22 : decode cX8_unlike 22 = .ok (.invokestatic 13, 3) := by decide +kernel
theorem dX8_unlike_25 : decode cX8_unlike 25 = .ok (.if_icmp .eq 6, 3) := by decide +kernel
theorem dX8_unlike_28 : decode cX8_unlike 28 = .ok (.iinc 4 1, 3) := by decide +kernel
theorem dX8_unlike_31 : decode cX8_unlike 31 = .ok (.iinc 5 1, 3) := by decide +kernel
theorem dX8_unlike_34 : decode cX8_unlike 34 = .ok (.goto (-28), 3) := by decide +kernel
theorem dX8_unlike_37 : decode cX8_unlike 37 = .ok (.iload 4, 2) := by decide +kernel
theorem dX8_unlike_39 : decode cX8_unlike 39 = .ok (.ireturn, 1) := by decide +kernel
theorem dX9_init_0 : decode cX9_init 0 = .ok (.aload_n 0, 1) := by decide +kernel
theorem dX9_init_1 : decode cX9_init 1 = .ok (.invokespecial 3, 3) := by decide +kernel
theorem dX9_init_4 : decode cX9_init 4 = .ok (.aload_n 0, 1) := by decide +kernel
theorem dX9_init_5 : decode cX9_init 5 = .ok (.new 9, 3) := by decide +kernel
theorem dX9_init_8 : decode cX9_init 8 = .ok (.dup, 1) := by decide +kernel
theorem dX9_init_9 : decode cX9_init 9 = .ok (.invokespecial 11, 3) := by decide +kernel
theorem dX9_init_12 : decode cX9_init 12 = .ok (.putfield 12, 3) := by decide +kernel
theorem dX9_init_15 : decode cX9_init 15 = .ok (.aload_n 0, 1) := by decide +kernel
theorem dX9_init_16 : decode cX9_init 16 = .ok (.new 18, 3) := by decide +kernel
theorem dX9_init_19 : decode cX9_init 19 = .ok (.dup, 1) := by decide +kernel
theorem dX9_init_20 : decode cX9_init 20 = .ok (.invokespecial 20, 3) := by decide +kernel
theorem dX9_init_23 : decode cX9_init 23 = .ok (.putfield 21, 3) := by decide +kernel
theorem dX9_init_26 : decode cX9_init 26 = .ok (.aload_n 0, 1) := by decide +kernel
theorem dX9_init_27 : decode cX9_init 27 = .ok (.iconst 5, 1) := by decide +kernel
theorem dX9_init_28 : decode cX9_init 28 = .ok (.newarray .int, 2) := by decide +kernel
theorem dX9_init_30 : decode cX9_init 30 = .ok (.putfield 25, 3) := by decide +kernel
theorem dX9_init_33 : decode cX9_init 33 = .ok (.aload_n 0, 1) := by decide +kernel
theorem dX9_init_34 : decode cX9_init 34 = .ok (.sipush 1024, 3) := by decide +kernel
theorem dX9_init_37 : decode cX9_init 37 = .ok (.newarray .long, 2) := by decide +kernel
theorem dX9_init_39 : decode cX9_init 39 = .ok (.putfield 29, 3) := by decide +kernel
theorem dX9_init_42 : decode cX9_init 42 = .ok (.return_, 1) := by decide +kernel
theorem dX9_passage_0 : decode cX9_passage 0 = .ok (.aload_n 0, 1) := by decide +kernel
theorem dX9_passage_1 : decode cX9_passage 1 = .ok (.getfield 12, 3) := by decide +kernel
theorem dX9_passage_4 : decode cX9_passage 4 = .ok (.iload_n 1, 1) := by decide +kernel
theorem dX9_passage_5 : decode cX9_passage 5 = .ok (.iload_n 2, 1) := by decide +kernel
theorem dX9_passage_6 : decode cX9_passage 6 = .ok (.invokevirtual 33, 3) := by decide +kernel
theorem dX9_passage_9 : decode cX9_passage 9 = .ok (.astore 5, 2) := by decide +kernel
theorem dX9_passage_11 : decode cX9_passage 11 = .ok (.aload 5, 2) := by decide +kernel
theorem dX9_passage_13 : decode cX9_passage 13 = .ok (.ifnull 24, 3) := by decide +kernel
theorem dX9_passage_16 : decode cX9_passage 16 = .ok (.aload 5, 2) := by decide +kernel
theorem dX9_passage_18 : decode cX9_passage 18 = .ok (.lload_n 3, 1) := by decide +kernel
theorem dX9_passage_19 : decode cX9_passage 19 = .ok (.aload_n 0, 1) := by decide +kernel
theorem dX9_passage_20 : decode cX9_passage 20 = .ok (.getfield 21, 3) := by decide +kernel
theorem dX9_passage_23 : decode cX9_passage 23 = .ok (.getfield 37, 3) := by decide +kernel
theorem dX9_passage_26 : decode cX9_passage 26 = .ok (.invokevirtual 41, 3) := by decide +kernel
theorem dX9_passage_29 : decode cX9_passage 29 = .ok (.ifCond .eq 8, 3) := by decide +kernel
theorem dX9_passage_32 : decode cX9_passage 32 = .ok (.aload 5, 2) := by decide +kernel
theorem dX9_passage_34 : decode cX9_passage 34 = .ok (.goto 4, 3) := by decide +kernel
theorem dX9_passage_37 : decode cX9_passage 37 = .ok (.aconst_null, 1) := by decide +kernel
theorem dX9_passage_38 : decode cX9_passage 38 = .ok (.areturn, 1) := by decide +kernel
theorem dX9_countOpen_0 : decode cX9_countOpen 0 = .ok (.iconst 0, 1) := by decide +kernel
theorem dX9_countOpen_1 : decode cX9_countOpen 1 = .ok (.istore_n 1, 1) := by decide +kernel
theorem dX9_countOpen_2 : decode cX9_countOpen 2 = .ok (.iconst 0, 1) := by decide +kernel
theorem dX9_countOpen_3 : decode cX9_countOpen 3 = .ok (.istore_n 2, 1) := by decide +kernel
theorem dX9_countOpen_4 : decode cX9_countOpen 4 = .ok (.iload_n 2, 1) := by decide +kernel
theorem dX9_countOpen_5 : decode cX9_countOpen 5 = .ok (.aload_n 0, 1) := by decide +kernel
theorem dX9_countOpen_6 : decode cX9_countOpen 6 = .ok (.getfield 12, 3) := by decide +kernel
theorem dX9_countOpen_9 : decode cX9_countOpen 9 = .ok (.getfield 47, 3) := by decide +kernel
theorem dX9_countOpen_12 : decode cX9_countOpen 12 = .ok (.if_icmp .ge 34, 3) := by decide +kernel
theorem dX9_countOpen_15 : decode cX9_countOpen 15 = .ok (.aload_n 0, 1) := by decide +kernel
theorem dX9_countOpen_16 : decode cX9_countOpen 16 = .ok (.aload_n 0, 1) := by decide +kernel
theorem dX9_countOpen_17 : decode cX9_countOpen 17 = .ok (.getfield 21, 3) := by decide +kernel
theorem dX9_countOpen_20 : decode cX9_countOpen 20 = .ok (.getfield 51, 3) := by decide +kernel
theorem dX9_countOpen_23 : decode cX9_countOpen 23 = .ok (.iload_n 2, 1) := by decide +kernel
theorem dX9_countOpen_24 : decode cX9_countOpen 24 = .ok (.aload_n 0, 1) := by decide +kernel
theorem dX9_countOpen_25 : decode cX9_countOpen 25 = .ok (.getfield 21, 3) := by decide +kernel
theorem dX9_countOpen_28 : decode cX9_countOpen 28 = .ok (.getfield 54, 3) := by decide +kernel
theorem dX9_countOpen_31 : decode cX9_countOpen 31 = .ok (.invokevirtual 58, 3) := by decide +kernel
theorem dX9_countOpen_34 : decode cX9_countOpen 34 = .ok (.ifnull 6, 3) := by decide +kernel
theorem dX9_countOpen_37 : decode cX9_countOpen 37 = .ok (.iinc 1 1, 3) := by decide +kernel
theorem dX9_countOpen_40 : decode cX9_countOpen 40 = .ok (.iinc 2 1, 3) := by decide +kernel
theorem dX9_countOpen_43 : decode cX9_countOpen 43 = .ok (.goto (-39), 3) := by decide +kernel
theorem dX9_countOpen_46 : decode cX9_countOpen 46 = .ok (.iload_n 1, 1) := by decide +kernel
theorem dX9_countOpen_47 : decode cX9_countOpen 47 = .ok (.ireturn, 1) := by decide +kernel
theorem dX9_nearest_0 : decode cX9_nearest 0 = .ok (.iconst (-1), 1) := by decide +kernel
theorem dX9_nearest_1 : decode cX9_nearest 1 = .ok (.istore_n 1, 1) := by decide +kernel
theorem dX9_nearest_2 : decode cX9_nearest 2 = .ok (.bipush 9, 2) := by decide +kernel
theorem dX9_nearest_4 : decode cX9_nearest 4 = .ok (.istore_n 2, 1) := by decide +kernel
theorem dX9_nearest_5 : decode cX9_nearest 5 = .ok (.iconst 0, 1) := by decide +kernel
theorem dX9_nearest_6 : decode cX9_nearest 6 = .ok (.istore_n 3, 1) := by decide +kernel
theorem dX9_nearest_7 : decode cX9_nearest 7 = .ok (.iload_n 3, 1) := by decide +kernel
theorem dX9_nearest_8 : decode cX9_nearest 8 = .ok (.aload_n 0, 1) := by decide +kernel
theorem dX9_nearest_9 : decode cX9_nearest 9 = .ok (.getfield 12, 3) := by decide +kernel
theorem dX9_nearest_12 : decode cX9_nearest 12 = .ok (.getfield 47, 3) := by decide +kernel
theorem dX9_nearest_15 : decode cX9_nearest 15 = .ok (.if_icmp .ge 78, 3) := by decide +kernel
theorem dX9_nearest_18 : decode cX9_nearest 18 = .ok (.aload_n 0, 1) := by decide +kernel
theorem dX9_nearest_19 : decode cX9_nearest 19 = .ok (.aload_n 0, 1) := by decide +kernel
theorem dX9_nearest_20 : decode cX9_nearest 20 = .ok (.getfield 21, 3) := by decide +kernel
theorem dX9_nearest_23 : decode cX9_nearest 23 = .ok (.getfield 51, 3) := by decide +kernel
theorem dX9_nearest_26 : decode cX9_nearest 26 = .ok (.iload_n 3, 1) := by decide +kernel
theorem dX9_nearest_27 : decode cX9_nearest 27 = .ok (.aload_n 0, 1) := by decide +kernel
theorem dX9_nearest_28 : decode cX9_nearest 28 = .ok (.getfield 21, 3) := by decide +kernel
theorem dX9_nearest_31 : decode cX9_nearest 31 = .ok (.getfield 54, 3) := by decide +kernel
theorem dX9_nearest_34 : decode cX9_nearest 34 = .ok (.invokevirtual 58, 3) := by decide +kernel
theorem dX9_nearest_37 : decode cX9_nearest 37 = .ok (.astore 4, 2) := by decide +kernel
theorem dX9_nearest_39 : decode cX9_nearest 39 = .ok (.aload 4, 2) := by decide +kernel
theorem dX9_nearest_41 : decode cX9_nearest 41 = .ok (.ifnull 46, 3) := by decide +kernel
theorem dX9_nearest_44 : decode cX9_nearest 44 = .ok (.aload 4, 2) := by decide +kernel
theorem dX9_nearest_46 : decode cX9_nearest 46 = .ok (.aload_n 0, 1) := by decide +kernel
theorem dX9_nearest_47 : decode cX9_nearest 47 = .ok (.getfield 21, 3) := by decide +kernel
theorem dX9_nearest_50 : decode cX9_nearest 50 = .ok (.getfield 54, 3) := by decide +kernel
theorem dX9_nearest_53 : decode cX9_nearest 53 = .ok (.aload_n 0, 1) := by decide +kernel
theorem dX9_nearest_54 : decode cX9_nearest 54 = .ok (.getfield 21, 3) := by decide +kernel
theorem dX9_nearest_57 : decode cX9_nearest 57 = .ok (.iload_n 3, 1) := by decide +kernel
theorem dX9_nearest_58 : decode cX9_nearest 58 = .ok (.invokevirtual 62, 3) := by decide +kernel
theorem dX9_nearest_61 : decode cX9_nearest 61 = .ok (.invokevirtual 66, 3) := by decide +kernel
theorem dX9_nearest_64 : decode cX9_nearest 64 = .ok (.aload_n 0, 1) := by decide +kernel
theorem dX9_nearest_65 : decode cX9_nearest 65 = .ok (.getfield 21, 3) := by decide +kernel
theorem dX9_nearest_68 : decode cX9_nearest 68 = .ok (.getfield 70, 3) := by decide +kernel
theorem dX9_nearest_71 : decode cX9_nearest 71 = .ok (.invokestatic 73, 3) := by decide +kernel
theorem dX9_nearest_74 : decode cX9_nearest 74 = .ok (.istore 5, 2) := by decide +kernel
theorem dX9_nearest_76 : decode cX9_nearest 76 = .ok (.iload 5, 2) := by decide +kernel
theorem dX9_nearest_78 : decode cX9_nearest 78 = .ok (.iload_n 2, 1) := by decide +kernel
theorem dX9_nearest_79 : decode cX9_nearest 79 = .ok (.if_icmp .ge 8, 3) := by decide +kernel
theorem dX9_nearest_82 : decode cX9_nearest 82 = .ok (.iload 5, 2) := by decide +kernel
theorem dX9_nearest_84 : decode cX9_nearest 84 = .ok (.istore_n 2, 1) := by decide +kernel
theorem dX9_nearest_85 : decode cX9_nearest 85 = .ok (.iload_n 3, 1) := by decide +kernel
theorem dX9_nearest_86 : decode cX9_nearest 86 = .ok (.istore_n 1, 1) := by decide +kernel
theorem dX9_nearest_87 : decode cX9_nearest 87 = .ok (.iinc 3 1, 3) := by decide +kernel
theorem dX9_nearest_90 : decode cX9_nearest 90 = .ok (.goto (-83), 3) := by decide +kernel
theorem dX9_nearest_93 : decode cX9_nearest 93 = .ok (.iload_n 1, 1) := by decide +kernel
theorem dX9_nearest_94 : decode cX9_nearest 94 = .ok (.ireturn, 1) := by decide +kernel
theorem dX9_findWay_0 : decode cX9_findWay 0 = .ok (.aload_n 0, 1) := by decide +kernel
theorem dX9_findWay_1 : decode cX9_findWay 1 = .ok (.getfield 21, 3) := by decide +kernel
theorem dX9_findWay_4 : decode cX9_findWay 4 = .ok (.getfield 54, 3) := by decide +kernel
theorem dX9_findWay_7 : decode cX9_findWay 7 = .ok (.aload_n 0, 1) := by decide +kernel
theorem dX9_findWay_8 : decode cX9_findWay 8 = .ok (.getfield 21, 3) := by decide +kernel
theorem dX9_findWay_11 : decode cX9_findWay 11 = .ok (.getfield 70, 3) := by decide +kernel
theorem dX9_findWay_14 : decode cX9_findWay 14 = .ok (.lcmp, 1) := by decide +kernel
theorem dX9_findWay_15 : decode cX9_findWay 15 = .ok (.ifCond .ne 16, 3) := by decide +kernel
theorem dX9_findWay_18 : decode cX9_findWay 18 = .ok (.aload_n 0, 1) := by decide +kernel
theorem dX9_findWay_19 : decode cX9_findWay 19 = .ok (.aload_n 0, 1) := by decide +kernel
theorem dX9_findWay_20 : decode cX9_findWay 20 = .ok (.getfield 21, 3) := by decide +kernel
theorem dX9_findWay_23 : decode cX9_findWay 23 = .ok (.getfield 51, 3) := by decide +kernel
theorem dX9_findWay_26 : decode cX9_findWay 26 = .ok (.putfield 79, 3) := by decide +kernel
theorem dX9_findWay_29 : decode cX9_findWay 29 = .ok (.iconst 0, 1) := by decide +kernel
theorem dX9_findWay_30 : decode cX9_findWay 30 = .ok (.ireturn, 1) := by decide +kernel
theorem dX9_findWay_31 : decode cX9_findWay 31 = .ok (.aload_n 0, 1) := by decide +kernel
theorem dX9_findWay_32 : decode cX9_findWay 32 = .ok (.getfield 21, 3) := by decide +kernel
theorem dX9_findWay_35 : decode cX9_findWay 35 = .ok (.getfield 54, 3) := by decide +kernel
theorem dX9_findWay_38 : decode cX9_findWay 38 = .ok (.invokestatic 82, 3) := by decide +kernel
theorem dX9_findWay_41 : decode cX9_findWay 41 = .ok (.aload_n 0, 1) := by decide +kernel
theorem dX9_findWay_42 : decode cX9_findWay 42 = .ok (.getfield 21, 3) := by decide +kernel
theorem dX9_findWay_45 : decode cX9_findWay 45 = .ok (.getfield 70, 3) := by decide +kernel
theorem dX9_findWay_48 : decode cX9_findWay 48 = .ok (.invokestatic 82, 3) := by decide +kernel
theorem dX9_findWay_51 : decode cX9_findWay 51 = .ok (.if_icmp .eq 5, 3) := by decide +kernel
theorem dX9_findWay_54 : decode cX9_findWay 54 = .ok (.iconst (-1), 1) := by decide +kernel
theorem dX9_findWay_55 : decode cX9_findWay 55 = .ok (.ireturn, 1) := by decide +kernel
theorem dX9_findWay_56 : decode cX9_findWay 56 = .ok (.iconst 1, 1) := by decide +kernel
theorem dX9_findWay_57 : decode cX9_findWay 57 = .ok (.istore_n 1, 1) := by decide +kernel
theorem dX9_findWay_58 : decode cX9_findWay 58 = .ok (.iload_n 1, 1) := by decide +kernel
theorem dX9_findWay_59 : decode cX9_findWay 59 = .ok (.iconst 5, 1) := by decide +kernel
theorem dX9_findWay_60 : decode cX9_findWay 60 = .ok (.if_icmp .gt 34, 3) := by decide +kernel
theorem dX9_findWay_63 : decode cX9_findWay 63 = .ok (.aload_n 0, 1) := by decide +kernel
theorem dX9_findWay_64 : decode cX9_findWay 64 = .ok (.aload_n 0, 1) := by decide +kernel
theorem dX9_findWay_65 : decode cX9_findWay 65 = .ok (.getfield 21, 3) := by decide +kernel
theorem dX9_findWay_68 : decode cX9_findWay 68 = .ok (.getfield 54, 3) := by decide +kernel
theorem dX9_findWay_71 : decode cX9_findWay 71 = .ok (.aload_n 0, 1) := by decide +kernel
theorem dX9_findWay_72 : decode cX9_findWay 72 = .ok (.getfield 21, 3) := by decide +kernel
theorem dX9_findWay_75 : decode cX9_findWay 75 = .ok (.getfield 51, 3) := by decide +kernel
theorem dX9_findWay_78 : decode cX9_findWay 78 = .ok (.iconst 0, 1) := by decide +kernel
theorem dX9_findWay_79 : decode cX9_findWay 79 = .ok (.iload_n 1, 1) := by decide +kernel
theorem dX9_findWay_80 : decode cX9_findWay 80 = .ok (.invokevirtual 86, 3) := by decide +kernel
theorem dX9_findWay_83 : decode cX9_findWay 83 = .ok (.ifCond .eq 5, 3) := by decide +kernel
theorem dX9_findWay_86 : decode cX9_findWay 86 = .ok (.iload_n 1, 1) := by decide +kernel
theorem dX9_findWay_87 : decode cX9_findWay 87 = .ok (.ireturn, 1) := by decide +kernel
theorem dX9_findWay_88 : decode cX9_findWay 88 = .ok (.iinc 1 1, 3) := by decide +kernel
theorem dX9_findWay_91 : decode cX9_findWay 91 = .ok (.goto (-33), 3) := by decide +kernel
theorem dX9_findWay_94 : decode cX9_findWay 94 = .ok (.iconst (-1), 1) := by decide +kernel
theorem dX9_findWay_95 : decode cX9_findWay 95 = .ok (.ireturn, 1) := by decide +kernel
theorem dX9_seekWay_0 : decode cX9_seekWay 0 = .ok (.iload 4, 2) := by decide +kernel
theorem dX9_seekWay_2 : decode cX9_seekWay 2 = .ok (.ifCond .lt 20, 3) := by decide +kernel
theorem dX9_seekWay_5 : decode cX9_seekWay 5 = .ok (.iload 4, 2) := by decide +kernel
theorem dX9_seekWay_7 : decode cX9_seekWay 7 = .ok (.iload 5, 2) := by decide +kernel
theorem dX9_seekWay_9 : decode cX9_seekWay 9 = .ok (.if_icmp .ge 13, 3) := by decide +kernel
theorem dX9_seekWay_12 : decode cX9_seekWay 12 = .ok (.iload 4, 2) := by decide +kernel
theorem dX9_seekWay_14 : decode cX9_seekWay 14 = .ok (.aload_n 0, 1) := by decide +kernel
theorem dX9_seekWay_15 : decode cX9_seekWay 15 = .ok (.getfield 25, 3) := by decide +kernel
theorem dX9_seekWay_18 : decode cX9_seekWay 18 = .ok (.arraylength, 1) := by decide +kernel
theorem dX9_seekWay_19 : decode cX9_seekWay 19 = .ok (.if_icmp .lt 5, 3) := by decide +kernel
theorem dX9_seekWay_22 : decode cX9_seekWay 22 = .ok (.iconst 0, 1) := by decide +kernel
theorem dX9_seekWay_23 : decode cX9_seekWay 23 = .ok (.ireturn, 1) := by decide +kernel
theorem dX9_seekWay_24 : decode cX9_seekWay 24 = .ok (.iload 4, 2) := by decide +kernel
theorem dX9_seekWay_26 : decode cX9_seekWay 26 = .ok (.iload 5, 2) := by decide +kernel
theorem dX9_seekWay_28 : decode cX9_seekWay 28 = .ok (.iconst 1, 1) := by decide +kernel
theorem dX9_seekWay_29 : decode cX9_seekWay 29 = .ok (.isub, 1) := by decide +kernel
theorem dX9_seekWay_30 : decode cX9_seekWay 30 = .ok (.if_icmp .ne 7, 3) := by decide +kernel
theorem dX9_seekWay_33 : decode cX9_seekWay 33 = .ok (.iconst 1, 1) := by decide +kernel
theorem dX9_seekWay_34 : decode cX9_seekWay 34 = .ok (.goto 4, 3) := by decide +kernel
theorem dX9_seekWay_37 : decode cX9_seekWay 37 = .ok (.iconst 0, 1) := by decide +kernel
theorem dX9_seekWay_38 : decode cX9_seekWay 38 = .ok (.istore 6, 2) := by decide +kernel
theorem dX9_seekWay_40 : decode cX9_seekWay 40 = .ok (.iconst 0, 1) := by decide +kernel
theorem dX9_seekWay_41 : decode cX9_seekWay 41 = .ok (.istore 7, 2) := by decide +kernel
theorem dX9_seekWay_43 : decode cX9_seekWay 43 = .ok (.iload 7, 2) := by decide +kernel
theorem dX9_seekWay_45 : decode cX9_seekWay 45 = .ok (.aload_n 0, 1) := by decide +kernel
theorem dX9_seekWay_46 : decode cX9_seekWay 46 = .ok (.getfield 12, 3) := by decide +kernel
theorem dX9_seekWay_49 : decode cX9_seekWay 49 = .ok (.getfield 47, 3) := by decide +kernel
theorem dX9_seekWay_52 : decode cX9_seekWay 52 = .ok (.if_icmp .ge 125, 3) := by decide +kernel
theorem dX9_seekWay_55 : decode cX9_seekWay 55 = .ok (.aload_n 0, 1) := by decide +kernel
theorem dX9_seekWay_56 : decode cX9_seekWay 56 = .ok (.iload_n 3, 1) := by decide +kernel
theorem dX9_seekWay_57 : decode cX9_seekWay 57 = .ok (.iload 7, 2) := by decide +kernel
theorem dX9_seekWay_59 : decode cX9_seekWay 59 = .ok (.lload_n 1, 1) := by decide +kernel
theorem dX9_seekWay_60 : decode cX9_seekWay 60 = .ok (.invokevirtual 58, 3) := by decide +kernel
theorem dX9_seekWay_63 : decode cX9_seekWay 63 = .ok (.astore 8, 2) := by decide +kernel
theorem dX9_seekWay_65 : decode cX9_seekWay 65 = .ok (.aload 8, 2) := by decide +kernel
theorem dX9_seekWay_67 : decode cX9_seekWay 67 = .ok (.ifnonnull 6, 3) := by decide +kernel
theorem dX9_seekWay_70 : decode cX9_seekWay 70 = .ok (.goto 101, 3) := by decide +kernel
theorem dX9_seekWay_73 : decode cX9_seekWay 73 = .ok (.aload_n 0, 1) := by decide +kernel
theorem dX9_seekWay_74 : decode cX9_seekWay 74 = .ok (.getfield 21, 3) := by decide +kernel
theorem dX9_seekWay_77 : decode cX9_seekWay 77 = .ok (.iload 7, 2) := by decide +kernel
theorem dX9_seekWay_79 : decode cX9_seekWay 79 = .ok (.invokevirtual 62, 3) := by decide +kernel
theorem dX9_seekWay_82 : decode cX9_seekWay 82 = .ok (.istore 9, 2) := by decide +kernel
theorem dX9_seekWay_84 : decode cX9_seekWay 84 = .ok (.aload 8, 2) := by decide +kernel
theorem dX9_seekWay_86 : decode cX9_seekWay 86 = .ok (.iload_n 3, 1) := by decide +kernel
theorem dX9_seekWay_87 : decode cX9_seekWay 87 = .ok (.invokevirtual 90, 3) := by decide +kernel
theorem dX9_seekWay_90 : decode cX9_seekWay 90 = .ok (.istore 10, 2) := by decide +kernel
theorem dX9_seekWay_92 : decode cX9_seekWay 92 = .ok (.iload 6, 2) := by decide +kernel
theorem dX9_seekWay_94 : decode cX9_seekWay 94 = .ok (.ifCond .eq 21, 3) := by decide +kernel
theorem dX9_seekWay_97 : decode cX9_seekWay 97 = .ok (.aload 8, 2) := by decide +kernel
theorem dX9_seekWay_99 : decode cX9_seekWay 99 = .ok (.lload_n 1, 1) := by decide +kernel
theorem dX9_seekWay_100 : decode cX9_seekWay 100 = .ok (.iload 9, 2) := by decide +kernel
theorem dX9_seekWay_102 : decode cX9_seekWay 102 = .ok (.aload_n 0, 1) := by decide +kernel
theorem dX9_seekWay_103 : decode cX9_seekWay 103 = .ok (.getfield 21, 3) := by decide +kernel
theorem dX9_seekWay_106 : decode cX9_seekWay 106 = .ok (.getfield 70, 3) := by decide +kernel
theorem dX9_seekWay_109 : decode cX9_seekWay 109 = .ok (.invokevirtual 93, 3) := by decide +kernel
theorem dX9_seekWay_112 : decode cX9_seekWay 112 = .ok (.goto 23, 3) := by decide +kernel
theorem dX9_seekWay_115 : decode cX9_seekWay 115 = .ok (.aload_n 0, 1) := by decide +kernel
theorem dX9_seekWay_116 : decode cX9_seekWay 116 = .ok (.aload 8, 2) := by decide +kernel
theorem dX9_seekWay_118 : decode cX9_seekWay 118 = .ok (.lload_n 1, 1) := by decide +kernel
theorem dX9_seekWay_119 : decode cX9_seekWay 119 = .ok (.iload 9, 2) := by decide +kernel
theorem dX9_seekWay_121 : decode cX9_seekWay 121 = .ok (.invokevirtual 66, 3) := by decide +kernel
theorem dX9_seekWay_124 : decode cX9_seekWay 124 = .ok (.iload 10, 2) := by decide +kernel
theorem dX9_seekWay_126 : decode cX9_seekWay 126 = .ok (.iload 4, 2) := by decide +kernel
theorem dX9_seekWay_128 : decode cX9_seekWay 128 = .ok (.iconst 1, 1) := by decide +kernel
theorem dX9_seekWay_129 : decode cX9_seekWay 129 = .ok (.iadd, 1) := by decide +kernel
theorem dX9_seekWay_130 : decode cX9_seekWay 130 = .ok (.iload 5, 2) := by decide +kernel
theorem dX9_seekWay_132 : decode cX9_seekWay 132 = .ok (.invokevirtual 86, 3) := by decide +kernel
theorem dX9_seekWay_135 : decode cX9_seekWay 135 = .ok (.istore 11, 2) := by decide +kernel
theorem dX9_seekWay_137 : decode cX9_seekWay 137 = .ok (.iload 11, 2) := by decide +kernel
theorem dX9_seekWay_139 : decode cX9_seekWay 139 = .ok (.ifCond .eq 32, 3) := by decide +kernel
theorem dX9_seekWay_142 : decode cX9_seekWay 142 = .ok (.aload_n 0, 1) := by decide +kernel
theorem dX9_seekWay_143 : decode cX9_seekWay 143 = .ok (.getfield 25, 3) := by decide +kernel
theorem dX9_seekWay_146 : decode cX9_seekWay 146 = .ok (.iload 4, 2) := by decide +kernel
theorem dX9_seekWay_148 : decode cX9_seekWay 148 = .ok (.iload 7, 2) := by decide +kernel
theorem dX9_seekWay_150 : decode cX9_seekWay 150 = .ok (.iastore, 1) := by decide +kernel
theorem dX9_seekWay_151 : decode cX9_seekWay 151 = .ok (.aload_n 0, 1) := by decide +kernel
theorem dX9_seekWay_152 : decode cX9_seekWay 152 = .ok (.iload 6, 2) := by decide +kernel
theorem dX9_seekWay_154 : decode cX9_seekWay 154 = .ok (.ifCond .eq 8, 3) := by decide +kernel
theorem dX9_seekWay_157 : decode cX9_seekWay 157 = .ok (.iload 10, 2) := by decide +kernel
theorem dX9_seekWay_159 : decode cX9_seekWay 159 = .ok (.goto 7, 3) := by decide +kernel
theorem dX9_seekWay_162 : decode cX9_seekWay 162 = .ok (.aload_n 0, 1) := by decide +kernel
theorem dX9_seekWay_163 : decode cX9_seekWay 163 = .ok (.getfield 79, 3) := by decide +kernel
theorem dX9_seekWay_166 : decode cX9_seekWay 166 = .ok (.putfield 79, 3) := by decide +kernel
theorem dX9_seekWay_169 : decode cX9_seekWay 169 = .ok (.iconst 1, 1) := by decide +kernel
theorem dX9_seekWay_170 : decode cX9_seekWay 170 = .ok (.ireturn, 1) := by decide +kernel
theorem dX9_seekWay_171 : decode cX9_seekWay 171 = .ok (.iinc 7 1, 3) := by decide +kernel
theorem dX9_seekWay_174 : decode cX9_seekWay 174 = .ok (.goto (-131), 3) := by decide +kernel
theorem dX9_seekWay_177 : decode cX9_seekWay 177 = .ok (.iconst 0, 1) := by decide +kernel
theorem dX9_seekWay_178 : decode cX9_seekWay 178 = .ok (.ireturn, 1) := by decide +kernel
theorem dX9_wayStreet_0 : decode cX9_wayStreet 0 = .ok (.iload_n 1, 1) := by decide +kernel
theorem dX9_wayStreet_1 : decode cX9_wayStreet 1 = .ok (.ifCond .lt 26, 3) := by decide +kernel
theorem dX9_wayStreet_4 : decode cX9_wayStreet 4 = .ok (.iload_n 1, 1) := by decide +kernel
theorem dX9_wayStreet_5 : decode cX9_wayStreet 5 = .ok (.iload_n 2, 1) := by decide +kernel
theorem dX9_wayStreet_6 : decode cX9_wayStreet 6 = .ok (.if_icmp .ge 21, 3) := by decide +kernel
theorem dX9_wayStreet_9 : decode cX9_wayStreet 9 = .ok (.iload_n 1, 1) := by decide +kernel
theorem dX9_wayStreet_10 : decode cX9_wayStreet 10 = .ok (.aload_n 0, 1) := by decide +kernel
theorem dX9_wayStreet_11 : decode cX9_wayStreet 11 = .ok (.getfield 25, 3) := by decide +kernel
theorem dX9_wayStreet_14 : decode cX9_wayStreet 14 = .ok (.arraylength, 1) := by decide +kernel
theorem dX9_wayStreet_15 : decode cX9_wayStreet 15 = .ok (.if_icmp .ge 12, 3) := by decide +kernel
theorem dX9_wayStreet_18 : decode cX9_wayStreet 18 = .ok (.aload_n 0, 1) := by decide +kernel
theorem dX9_wayStreet_19 : decode cX9_wayStreet 19 = .ok (.getfield 25, 3) := by decide +kernel
theorem dX9_wayStreet_22 : decode cX9_wayStreet 22 = .ok (.iload_n 1, 1) := by decide +kernel
theorem dX9_wayStreet_23 : decode cX9_wayStreet 23 = .ok (.iaload, 1) := by decide +kernel
theorem dX9_wayStreet_24 : decode cX9_wayStreet 24 = .ok (.goto 4, 3) := by decide +kernel
theorem dX9_wayStreet_27 : decode cX9_wayStreet 27 = .ok (.iconst (-1), 1) := by decide +kernel
theorem dX9_wayStreet_28 : decode cX9_wayStreet 28 = .ok (.ireturn, 1) := by decide +kernel
theorem dX9_tunesBehind_0 : decode cX9_tunesBehind 0 = .ok (.aload_n 0, 1) := by decide +kernel
theorem dX9_tunesBehind_1 : decode cX9_tunesBehind 1 = .ok (.iconst 0, 1) := by decide +kernel
theorem dX9_tunesBehind_2 : decode cX9_tunesBehind 2 = .ok (.putfield 97, 3) := by decide +kernel
theorem dX9_tunesBehind_5 : decode cX9_tunesBehind 5 = .ok (.iconst 0, 1) := by decide +kernel
theorem dX9_tunesBehind_6 : decode cX9_tunesBehind 6 = .ok (.istore_n 2, 1) := by decide +kernel
theorem dX9_tunesBehind_7 : decode cX9_tunesBehind 7 = .ok (.iload_n 2, 1) := by decide +kernel
theorem dX9_tunesBehind_8 : decode cX9_tunesBehind 8 = .ok (.aload_n 0, 1) := by decide +kernel
theorem dX9_tunesBehind_9 : decode cX9_tunesBehind 9 = .ok (.getfield 29, 3) := by decide +kernel
theorem dX9_tunesBehind_12 : decode cX9_tunesBehind 12 = .ok (.arraylength, 1) := by decide +kernel
theorem dX9_tunesBehind_13 : decode cX9_tunesBehind 13 = .ok (.if_icmp .ge 16, 3) := by decide +kernel
theorem dX9_tunesBehind_16 : decode cX9_tunesBehind 16 = .ok (.aload_n 0, 1) := by decide +kernel
theorem dX9_tunesBehind_17 : decode cX9_tunesBehind 17 = .ok (.getfield 29, 3) := by decide +kernel
theorem dX9_tunesBehind_20 : decode cX9_tunesBehind 20 = .ok (.iload_n 2, 1) := by decide +kernel
theorem dX9_tunesBehind_21 : decode cX9_tunesBehind 21 = .ok (.lconst 0, 1) := by decide +kernel
theorem dX9_tunesBehind_22 : decode cX9_tunesBehind 22 = .ok (.lastore, 1) := by decide +kernel
theorem dX9_tunesBehind_23 : decode cX9_tunesBehind 23 = .ok (.iinc 2 1, 3) := by decide +kernel
theorem dX9_tunesBehind_26 : decode cX9_tunesBehind 26 = .ok (.goto (-19), 3) := by decide +kernel
theorem dX9_tunesBehind_29 : decode cX9_tunesBehind 29 = .ok (.aload_n 0, 1) := by decide +kernel
theorem dX9_tunesBehind_30 : decode cX9_tunesBehind 30 = .ok (.aload_n 0, 1) := by decide +kernel
theorem dX9_tunesBehind_31 : decode cX9_tunesBehind 31 = .ok (.getfield 21, 3) := by decide +kernel
theorem dX9_tunesBehind_34 : decode cX9_tunesBehind 34 = .ok (.getfield 54, 3) := by decide +kernel
theorem dX9_tunesBehind_37 : decode cX9_tunesBehind 37 = .ok (.aload_n 0, 1) := by decide +kernel
theorem dX9_tunesBehind_38 : decode cX9_tunesBehind 38 = .ok (.getfield 21, 3) := by decide +kernel
theorem dX9_tunesBehind_41 : decode cX9_tunesBehind 41 = .ok (.getfield 51, 3) := by decide +kernel
theorem dX9_tunesBehind_44 : decode cX9_tunesBehind 44 = .ok (.iload_n 1, 1) := by decide +kernel
theorem dX9_tunesBehind_45 : decode cX9_tunesBehind 45 = .ok (.iconst 3, 1) := by decide +kernel
theorem dX9_tunesBehind_46 : decode cX9_tunesBehind 46 = .ok (.invokestatic 100, 3) := by decide +kernel
theorem dX9_tunesBehind_49 : decode cX9_tunesBehind 49 = .ok (.invokevirtual 106, 3) := by decide +kernel
theorem dX9_tunesBehind_52 : decode cX9_tunesBehind 52 = .ok (.aload_n 0, 1) := by decide +kernel
theorem dX9_tunesBehind_53 : decode cX9_tunesBehind 53 = .ok (.getfield 97, 3) := by decide +kernel
theorem dX9_tunesBehind_56 : decode cX9_tunesBehind 56 = .ok (.ireturn, 1) := by decide +kernel
theorem dX9_meetTunes_0 : decode cX9_meetTunes 0 = .ok (.iload 4, 2) := by decide +kernel
theorem dX9_meetTunes_2 : decode cX9_meetTunes 2 = .ok (.ifCond .gt 9, 3) := by decide +kernel
theorem dX9_meetTunes_5 : decode cX9_meetTunes 5 = .ok (.aload_n 0, 1) := by decide +kernel
theorem dX9_meetTunes_6 : decode cX9_meetTunes 6 = .ok (.lload_n 1, 1) := by decide +kernel
theorem dX9_meetTunes_7 : decode cX9_meetTunes 7 = .ok (.invokevirtual 110, 3) := by decide +kernel
theorem dX9_meetTunes_10 : decode cX9_meetTunes 10 = .ok (.return_, 1) := by decide +kernel
theorem dX9_meetTunes_11 : decode cX9_meetTunes 11 = .ok (.iconst 0, 1) := by decide +kernel
theorem dX9_meetTunes_12 : decode cX9_meetTunes 12 = .ok (.istore 5, 2) := by decide +kernel
theorem dX9_meetTunes_14 : decode cX9_meetTunes 14 = .ok (.iload 5, 2) := by decide +kernel
theorem dX9_meetTunes_16 : decode cX9_meetTunes 16 = .ok (.aload_n 0, 1) := by decide +kernel
theorem dX9_meetTunes_17 : decode cX9_meetTunes 17 = .ok (.getfield 12, 3) := by decide +kernel
theorem dX9_meetTunes_20 : decode cX9_meetTunes 20 = .ok (.getfield 47, 3) := by decide +kernel
theorem dX9_meetTunes_23 : decode cX9_meetTunes 23 = .ok (.if_icmp .ge 53, 3) := by decide +kernel
theorem dX9_meetTunes_26 : decode cX9_meetTunes 26 = .ok (.aload_n 0, 1) := by decide +kernel
theorem dX9_meetTunes_27 : decode cX9_meetTunes 27 = .ok (.iload_n 3, 1) := by decide +kernel
theorem dX9_meetTunes_28 : decode cX9_meetTunes 28 = .ok (.iload 5, 2) := by decide +kernel
theorem dX9_meetTunes_30 : decode cX9_meetTunes 30 = .ok (.lload_n 1, 1) := by decide +kernel
theorem dX9_meetTunes_31 : decode cX9_meetTunes 31 = .ok (.invokevirtual 58, 3) := by decide +kernel
theorem dX9_meetTunes_34 : decode cX9_meetTunes 34 = .ok (.astore 6, 2) := by decide +kernel
theorem dX9_meetTunes_36 : decode cX9_meetTunes 36 = .ok (.aload 6, 2) := by decide +kernel
theorem dX9_meetTunes_38 : decode cX9_meetTunes 38 = .ok (.ifnull 32, 3) := by decide +kernel
theorem dX9_meetTunes_41 : decode cX9_meetTunes 41 = .ok (.aload_n 0, 1) := by decide +kernel
theorem dX9_meetTunes_42 : decode cX9_meetTunes 42 = .ok (.aload 6, 2) := by decide +kernel
theorem dX9_meetTunes_44 : decode cX9_meetTunes 44 = .ok (.lload_n 1, 1) := by decide +kernel
theorem dX9_meetTunes_45 : decode cX9_meetTunes 45 = .ok (.aload_n 0, 1) := by decide +kernel
theorem dX9_meetTunes_46 : decode cX9_meetTunes 46 = .ok (.getfield 21, 3) := by decide +kernel
theorem dX9_meetTunes_49 : decode cX9_meetTunes 49 = .ok (.iload 5, 2) := by decide +kernel
theorem dX9_meetTunes_51 : decode cX9_meetTunes 51 = .ok (.invokevirtual 62, 3) := by decide +kernel
theorem dX9_meetTunes_54 : decode cX9_meetTunes 54 = .ok (.invokevirtual 66, 3) := by decide +kernel
theorem dX9_meetTunes_57 : decode cX9_meetTunes 57 = .ok (.aload 6, 2) := by decide +kernel
theorem dX9_meetTunes_59 : decode cX9_meetTunes 59 = .ok (.iload_n 3, 1) := by decide +kernel
theorem dX9_meetTunes_60 : decode cX9_meetTunes 60 = .ok (.invokevirtual 90, 3) := by decide +kernel
theorem dX9_meetTunes_63 : decode cX9_meetTunes 63 = .ok (.iload 4, 2) := by decide +kernel
theorem dX9_meetTunes_65 : decode cX9_meetTunes 65 = .ok (.iconst 1, 1) := by decide +kernel
theorem dX9_meetTunes_66 : decode cX9_meetTunes 66 = .ok (.isub, 1) := by decide +kernel
theorem dX9_meetTunes_67 : decode cX9_meetTunes 67 = .ok (.invokevirtual 106, 3) := by decide +kernel
theorem dX9_meetTunes_70 : decode cX9_meetTunes 70 = .ok (.iinc 5 1, 3) := by decide +kernel
theorem dX9_meetTunes_73 : decode cX9_meetTunes 73 = .ok (.goto (-59), 3) := by decide +kernel
theorem dX9_meetTunes_76 : decode cX9_meetTunes 76 = .ok (.return_, 1) := by decide +kernel
theorem dX9_meet_0 : decode cX9_meet 0 = .ok (.lload_n 1, 1) := by decide +kernel
theorem dX9_meet_1 : decode cX9_meet 1 = .ok (.ldc2_w 114, 3) := by decide +kernel
theorem dX9_meet_4 : decode cX9_meet 4 = .ok (.lrem, 1) := by decide +kernel
theorem dX9_meet_5 : decode cX9_meet 5 = .ok (.l2i, 1) := by decide +kernel
theorem dX9_meet_6 : decode cX9_meet 6 = .ok (.istore_n 3, 1) := by decide +kernel
theorem dX9_meet_7 : decode cX9_meet 7 = .ok (.iconst 0, 1) := by decide +kernel
theorem dX9_meet_8 : decode cX9_meet 8 = .ok (.istore 4, 2) := by decide +kernel
theorem dX9_meet_10 : decode cX9_meet 10 = .ok (.iload 4, 2) := by decide +kernel
theorem dX9_meet_12 : decode cX9_meet 12 = .ok (.sipush 1024, 3) := by decide +kernel
theorem dX9_meet_15 : decode cX9_meet 15 = .ok (.if_icmp .ge 68, 3) := by decide +kernel
theorem dX9_meet_18 : decode cX9_meet 18 = .ok (.iload_n 3, 1) := by decide +kernel
theorem dX9_meet_19 : decode cX9_meet 19 = .ok (.ifCond .lt 12, 3) := by decide +kernel
theorem dX9_meet_22 : decode cX9_meet 22 = .ok (.iload_n 3, 1) := by decide +kernel
theorem dX9_meet_23 : decode cX9_meet 23 = .ok (.aload_n 0, 1) := by decide +kernel
theorem dX9_meet_24 : decode cX9_meet 24 = .ok (.getfield 29, 3) := by decide +kernel
theorem dX9_meet_27 : decode cX9_meet 27 = .ok (.arraylength, 1) := by decide +kernel
theorem dX9_meet_28 : decode cX9_meet 28 = .ok (.if_icmp .lt 5, 3) := by decide +kernel
theorem dX9_meet_31 : decode cX9_meet 31 = .ok (.iconst 0, 1) := by decide +kernel
theorem dX9_meet_32 : decode cX9_meet 32 = .ok (.istore_n 3, 1) := by decide +kernel
end
section
theorem dX9_meet_33 : decode cX9_meet 33 = .ok (.aload_n 0, 1) := by decide +kernel
theorem dX9_meet_34 : decode cX9_meet 34 = .ok (.getfield 29, 3) := by decide +kernel
theorem dX9_meet_37 : decode cX9_meet 37 = .ok (.iload_n 3, 1) := by decide +kernel
theorem dX9_meet_38 : decode cX9_meet 38 = .ok (.laload, 1) := by decide +kernel
theorem dX9_meet_39 : decode cX9_meet 39 = .ok (.lload_n 1, 1) := by decide +kernel
theorem dX9_meet_40 : decode cX9_meet 40 = .ok (.lcmp, 1) := by decide +kernel
theorem dX9_meet_41 : decode cX9_meet 41 = .ok (.ifCond .ne 4, 3) := by decide +kernel
theorem dX9_meet_44 : decode cX9_meet 44 = .ok (.return_, 1) := by decide +kernel
theorem dX9_meet_45 : decode cX9_meet 45 = .ok (.aload_n 0, 1) := by decide +kernel
theorem dX9_meet_46 : decode cX9_meet 46 = .ok (.getfield 29, 3) := by decide +kernel
theorem dX9_meet_49 : decode cX9_meet 49 = .ok (.iload_n 3, 1) := by decide +kernel
theorem dX9_meet_50 : decode cX9_meet 50 = .ok (.laload, 1) := by decide +kernel
theorem dX9_meet_51 : decode cX9_meet 51 = .ok (.lconst 0, 1) := by decide +kernel
theorem dX9_meet_52 : decode cX9_meet 52 = .ok (.lcmp, 1) := by decide +kernel
theorem dX9_meet_53 : decode cX9_meet 53 = .ok (.ifCond .ne 21, 3) := by decide +kernel
theorem dX9_meet_56 : decode cX9_meet 56 = .ok (.aload_n 0, 1) := by decide +kernel
theorem dX9_meet_57 : decode cX9_meet 57 = .ok (.getfield 29, 3) := by decide +kernel
theorem dX9_meet_60 : decode cX9_meet 60 = .ok (.iload_n 3, 1) := by decide +kernel
theorem dX9_meet_61 : decode cX9_meet 61 = .ok (.lload_n 1, 1) := by decide +kernel
theorem dX9_meet_62 : decode cX9_meet 62 = .ok (.lastore, 1) := by decide +kernel
theorem dX9_meet_63 : decode cX9_meet 63 = .ok (.aload_n 0, 1) := by decide +kernel
theorem dX9_meet_64 : decode cX9_meet 64 = .ok (.dup, 1) := by decide +kernel
theorem dX9_meet_65 : decode cX9_meet 65 = .ok (.getfield 97, 3) := by decide +kernel
theorem dX9_meet_68 : decode cX9_meet 68 = .ok (.iconst 1, 1) := by decide +kernel
theorem dX9_meet_69 : decode cX9_meet 69 = .ok (.iadd, 1) := by decide +kernel
theorem dX9_meet_70 : decode cX9_meet 70 = .ok (.putfield 97, 3) := by decide +kernel
theorem dX9_meet_73 : decode cX9_meet 73 = .ok (.return_, 1) := by decide +kernel
theorem dX9_meet_74 : decode cX9_meet 74 = .ok (.iinc 3 1, 3) := by decide +kernel
theorem dX9_meet_77 : decode cX9_meet 77 = .ok (.iinc 4 1, 3) := by decide +kernel
theorem dX9_meet_80 : decode cX9_meet 80 = .ok (.goto (-70), 3) := by decide +kernel
theorem dX9_meet_83 : decode cX9_meet 83 = .ok (.return_, 1) := by decide +kernel
theorem dX9_wanderOff_0 : decode cX9_wanderOff 0 = .ok (.aload_n 0, 1) := by decide +kernel
theorem dX9_wanderOff_1 : decode cX9_wanderOff 1 = .ok (.getfield 21, 3) := by decide +kernel
theorem dX9_wanderOff_4 : decode cX9_wanderOff 4 = .ok (.getfield 54, 3) := by decide +kernel
theorem dX9_wanderOff_7 : decode cX9_wanderOff 7 = .ok (.lstore_n 3, 1) := by decide +kernel
theorem dX9_wanderOff_8 : decode cX9_wanderOff 8 = .ok (.aload_n 0, 1) := by decide +kernel
theorem dX9_wanderOff_9 : decode cX9_wanderOff 9 = .ok (.iconst 0, 1) := by decide +kernel
theorem dX9_wanderOff_10 : decode cX9_wanderOff 10 = .ok (.putfield 116, 3) := by decide +kernel
theorem dX9_wanderOff_13 : decode cX9_wanderOff 13 = .ok (.aload_n 0, 1) := by decide +kernel
theorem dX9_wanderOff_14 : decode cX9_wanderOff 14 = .ok (.aload_n 0, 1) := by decide +kernel
theorem dX9_wanderOff_15 : decode cX9_wanderOff 15 = .ok (.getfield 21, 3) := by decide +kernel
theorem dX9_wanderOff_18 : decode cX9_wanderOff 18 = .ok (.getfield 51, 3) := by decide +kernel
theorem dX9_wanderOff_21 : decode cX9_wanderOff 21 = .ok (.putfield 119, 3) := by decide +kernel
theorem dX9_wanderOff_24 : decode cX9_wanderOff 24 = .ok (.aload_n 0, 1) := by decide +kernel
theorem dX9_wanderOff_25 : decode cX9_wanderOff 25 = .ok (.iload_n 2, 1) := by decide +kernel
theorem dX9_wanderOff_26 : decode cX9_wanderOff 26 = .ok (.i2l, 1) := by decide +kernel
theorem dX9_wanderOff_27 : decode cX9_wanderOff 27 = .ok (.putfield 122, 3) := by decide +kernel
theorem dX9_wanderOff_30 : decode cX9_wanderOff 30 = .ok (.iconst 0, 1) := by decide +kernel
theorem dX9_wanderOff_31 : decode cX9_wanderOff 31 = .ok (.istore 5, 2) := by decide +kernel
theorem dX9_wanderOff_33 : decode cX9_wanderOff 33 = .ok (.iload 5, 2) := by decide +kernel
theorem dX9_wanderOff_35 : decode cX9_wanderOff 35 = .ok (.iload_n 1, 1) := by decide +kernel
theorem dX9_wanderOff_36 : decode cX9_wanderOff 36 = .ok (.if_icmp .ge 95, 3) := by decide +kernel
theorem dX9_wanderOff_39 : decode cX9_wanderOff 39 = .ok (.iload 5, 2) := by decide +kernel
theorem dX9_wanderOff_41 : decode cX9_wanderOff 41 = .ok (.bipush 60, 2) := by decide +kernel
theorem dX9_wanderOff_43 : decode cX9_wanderOff 43 = .ok (.if_icmp .ge 88, 3) := by decide +kernel
theorem dX9_wanderOff_46 : decode cX9_wanderOff 46 = .ok (.aload_n 0, 1) := by decide +kernel
theorem dX9_wanderOff_47 : decode cX9_wanderOff 47 = .ok (.aload_n 0, 1) := by decide +kernel
theorem dX9_wanderOff_48 : decode cX9_wanderOff 48 = .ok (.getfield 119, 3) := by decide +kernel
theorem dX9_wanderOff_51 : decode cX9_wanderOff 51 = .ok (.invokevirtual 125, 3) := by decide +kernel
theorem dX9_wanderOff_54 : decode cX9_wanderOff 54 = .ok (.istore 6, 2) := by decide +kernel
theorem dX9_wanderOff_56 : decode cX9_wanderOff 56 = .ok (.aload_n 0, 1) := by decide +kernel
theorem dX9_wanderOff_57 : decode cX9_wanderOff 57 = .ok (.aload_n 0, 1) := by decide +kernel
theorem dX9_wanderOff_58 : decode cX9_wanderOff 58 = .ok (.getfield 119, 3) := by decide +kernel
theorem dX9_wanderOff_61 : decode cX9_wanderOff 61 = .ok (.iload 6, 2) := by decide +kernel
theorem dX9_wanderOff_63 : decode cX9_wanderOff 63 = .ok (.lload_n 3, 1) := by decide +kernel
theorem dX9_wanderOff_64 : decode cX9_wanderOff 64 = .ok (.invokevirtual 58, 3) := by decide +kernel
theorem dX9_wanderOff_67 : decode cX9_wanderOff 67 = .ok (.astore 7, 2) := by decide +kernel
theorem dX9_wanderOff_69 : decode cX9_wanderOff 69 = .ok (.aload 7, 2) := by decide +kernel
theorem dX9_wanderOff_71 : decode cX9_wanderOff 71 = .ok (.ifnull 32, 3) := by decide +kernel
theorem dX9_wanderOff_74 : decode cX9_wanderOff 74 = .ok (.aload 7, 2) := by decide +kernel
theorem dX9_wanderOff_76 : decode cX9_wanderOff 76 = .ok (.lload_n 3, 1) := by decide +kernel
theorem dX9_wanderOff_77 : decode cX9_wanderOff 77 = .ok (.aload_n 0, 1) := by decide +kernel
theorem dX9_wanderOff_78 : decode cX9_wanderOff 78 = .ok (.getfield 21, 3) := by decide +kernel
theorem dX9_wanderOff_81 : decode cX9_wanderOff 81 = .ok (.iload 6, 2) := by decide +kernel
theorem dX9_wanderOff_83 : decode cX9_wanderOff 83 = .ok (.invokevirtual 62, 3) := by decide +kernel
theorem dX9_wanderOff_86 : decode cX9_wanderOff 86 = .ok (.invokevirtual 66, 3) := by decide +kernel
theorem dX9_wanderOff_89 : decode cX9_wanderOff 89 = .ok (.lstore_n 3, 1) := by decide +kernel
theorem dX9_wanderOff_90 : decode cX9_wanderOff 90 = .ok (.aload_n 0, 1) := by decide +kernel
theorem dX9_wanderOff_91 : decode cX9_wanderOff 91 = .ok (.aload 7, 2) := by decide +kernel
theorem dX9_wanderOff_93 : decode cX9_wanderOff 93 = .ok (.aload_n 0, 1) := by decide +kernel
theorem dX9_wanderOff_94 : decode cX9_wanderOff 94 = .ok (.getfield 119, 3) := by decide +kernel
theorem dX9_wanderOff_97 : decode cX9_wanderOff 97 = .ok (.invokevirtual 90, 3) := by decide +kernel
theorem dX9_wanderOff_100 : decode cX9_wanderOff 100 = .ok (.putfield 119, 3) := by decide +kernel
theorem dX9_wanderOff_103 : decode cX9_wanderOff 103 = .ok (.lload_n 3, 1) := by decide +kernel
theorem dX9_wanderOff_104 : decode cX9_wanderOff 104 = .ok (.aload_n 0, 1) := by decide +kernel
theorem dX9_wanderOff_105 : decode cX9_wanderOff 105 = .ok (.getfield 21, 3) := by decide +kernel
theorem dX9_wanderOff_108 : decode cX9_wanderOff 108 = .ok (.getfield 70, 3) := by decide +kernel
theorem dX9_wanderOff_111 : decode cX9_wanderOff 111 = .ok (.lcmp, 1) := by decide +kernel
theorem dX9_wanderOff_112 : decode cX9_wanderOff 112 = .ok (.ifCond .ne 13, 3) := by decide +kernel
theorem dX9_wanderOff_115 : decode cX9_wanderOff 115 = .ok (.aload_n 0, 1) := by decide +kernel
theorem dX9_wanderOff_116 : decode cX9_wanderOff 116 = .ok (.dup, 1) := by decide +kernel
theorem dX9_wanderOff_117 : decode cX9_wanderOff 117 = .ok (.getfield 116, 3) := by decide +kernel
theorem dX9_wanderOff_120 : decode cX9_wanderOff 120 = .ok (.iconst 1, 1) := by decide +kernel
theorem dX9_wanderOff_121 : decode cX9_wanderOff 121 = .ok (.iadd, 1) := by decide +kernel
theorem dX9_wanderOff_122 : decode cX9_wanderOff 122 = .ok (.putfield 116, 3) := by decide +kernel
theorem dX9_wanderOff_125 : decode cX9_wanderOff 125 = .ok (.iinc 5 1, 3) := by decide +kernel
theorem dX9_wanderOff_128 : decode cX9_wanderOff 128 = .ok (.goto (-95), 3) := by decide +kernel
theorem dX9_wanderOff_131 : decode cX9_wanderOff 131 = .ok (.return_, 1) := by decide +kernel
theorem dX9_drawStreet_0 : decode cX9_drawStreet 0 = .ok (.aload_n 0, 1) := by decide +kernel
theorem dX9_drawStreet_1 : decode cX9_drawStreet 1 = .ok (.getfield 12, 3) := by decide +kernel
theorem dX9_drawStreet_4 : decode cX9_drawStreet 4 = .ok (.iload_n 1, 1) := by decide +kernel
theorem dX9_drawStreet_5 : decode cX9_drawStreet 5 = .ok (.invokevirtual 128, 3) := by decide +kernel
theorem dX9_drawStreet_8 : decode cX9_drawStreet 8 = .ok (.istore_n 2, 1) := by decide +kernel
theorem dX9_drawStreet_9 : decode cX9_drawStreet 9 = .ok (.iload_n 2, 1) := by decide +kernel
theorem dX9_drawStreet_10 : decode cX9_drawStreet 10 = .ok (.ifCond .gt 5, 3) := by decide +kernel
theorem dX9_drawStreet_13 : decode cX9_drawStreet 13 = .ok (.iconst (-1), 1) := by decide +kernel
theorem dX9_drawStreet_14 : decode cX9_drawStreet 14 = .ok (.ireturn, 1) := by decide +kernel
theorem dX9_drawStreet_15 : decode cX9_drawStreet 15 = .ok (.aload_n 0, 1) := by decide +kernel
theorem dX9_drawStreet_16 : decode cX9_drawStreet 16 = .ok (.ldc2_w 131, 3) := by decide +kernel
theorem dX9_drawStreet_19 : decode cX9_drawStreet 19 = .ok (.aload_n 0, 1) := by decide +kernel
theorem dX9_drawStreet_20 : decode cX9_drawStreet 20 = .ok (.getfield 122, 3) := by decide +kernel
theorem dX9_drawStreet_23 : decode cX9_drawStreet 23 = .ok (.lmul, 1) := by decide +kernel
theorem dX9_drawStreet_24 : decode cX9_drawStreet 24 = .ok (.ldc2_w 133, 3) := by decide +kernel
theorem dX9_drawStreet_27 : decode cX9_drawStreet 27 = .ok (.ladd, 1) := by decide +kernel
theorem dX9_drawStreet_28 : decode cX9_drawStreet 28 = .ok (.ldc2_w 135, 3) := by decide +kernel
theorem dX9_drawStreet_31 : decode cX9_drawStreet 31 = .ok (.lrem, 1) := by decide +kernel
theorem dX9_drawStreet_32 : decode cX9_drawStreet 32 = .ok (.putfield 122, 3) := by decide +kernel
theorem dX9_drawStreet_35 : decode cX9_drawStreet 35 = .ok (.aload_n 0, 1) := by decide +kernel
theorem dX9_drawStreet_36 : decode cX9_drawStreet 36 = .ok (.getfield 12, 3) := by decide +kernel
theorem dX9_drawStreet_39 : decode cX9_drawStreet 39 = .ok (.iload_n 1, 1) := by decide +kernel
theorem dX9_drawStreet_40 : decode cX9_drawStreet 40 = .ok (.aload_n 0, 1) := by decide +kernel
theorem dX9_drawStreet_41 : decode cX9_drawStreet 41 = .ok (.getfield 122, 3) := by decide +kernel
theorem dX9_drawStreet_44 : decode cX9_drawStreet 44 = .ok (.ldc2_w 137, 3) := by decide +kernel
theorem dX9_drawStreet_47 : decode cX9_drawStreet 47 = .ok (.ldiv, 1) := by decide +kernel
theorem dX9_drawStreet_48 : decode cX9_drawStreet 48 = .ok (.iload_n 2, 1) := by decide +kernel
theorem dX9_drawStreet_49 : decode cX9_drawStreet 49 = .ok (.i2l, 1) := by decide +kernel
theorem dX9_drawStreet_50 : decode cX9_drawStreet 50 = .ok (.lrem, 1) := by decide +kernel
theorem dX9_drawStreet_51 : decode cX9_drawStreet 51 = .ok (.l2i, 1) := by decide +kernel
theorem dX9_drawStreet_52 : decode cX9_drawStreet 52 = .ok (.invokevirtual 139, 3) := by decide +kernel
theorem dX9_drawStreet_55 : decode cX9_drawStreet 55 = .ok (.ireturn, 1) := by decide +kernel
theorem dX10_init_0 : decode cX10_init 0 = .ok (.aload_n 0, 1) := by decide +kernel
theorem dX10_init_1 : decode cX10_init 1 = .ok (.invokespecial 1, 3) := by decide +kernel
theorem dX10_init_4 : decode cX10_init 4 = .ok (.aload_n 0, 1) := by decide +kernel
theorem dX10_init_5 : decode cX10_init 5 = .ok (.new 7, 3) := by decide +kernel
theorem dX10_init_8 : decode cX10_init 8 = .ok (.dup, 1) := by decide +kernel
theorem dX10_init_9 : decode cX10_init 9 = .ok (.invokespecial 9, 3) := by decide +kernel
theorem dX10_init_12 : decode cX10_init 12 = .ok (.putfield 10, 3) := by decide +kernel
theorem dX10_init_15 : decode cX10_init 15 = .ok (.aload_n 0, 1) := by decide +kernel
theorem dX10_init_16 : decode cX10_init 16 = .ok (.new 16, 3) := by decide +kernel
theorem dX10_init_19 : decode cX10_init 19 = .ok (.dup, 1) := by decide +kernel
theorem dX10_init_20 : decode cX10_init 20 = .ok (.invokespecial 18, 3) := by decide +kernel
theorem dX10_init_23 : decode cX10_init 23 = .ok (.putfield 19, 3) := by decide +kernel
theorem dX10_init_26 : decode cX10_init 26 = .ok (.aload_n 0, 1) := by decide +kernel
theorem dX10_init_27 : decode cX10_init 27 = .ok (.aload_n 0, 1) := by decide +kernel
theorem dX10_init_28 : decode cX10_init 28 = .ok (.getfield 19, 3) := by decide +kernel
theorem dX10_init_31 : decode cX10_init 31 = .ok (.getfield 23, 3) := by decide +kernel
theorem dX10_init_34 : decode cX10_init 34 = .ok (.putfield 27, 3) := by decide +kernel
theorem dX10_init_37 : decode cX10_init 37 = .ok (.aload_n 0, 1) := by decide +kernel
theorem dX10_init_38 : decode cX10_init 38 = .ok (.aload_n 0, 1) := by decide +kernel
theorem dX10_init_39 : decode cX10_init 39 = .ok (.getfield 19, 3) := by decide +kernel
theorem dX10_init_42 : decode cX10_init 42 = .ok (.getfield 28, 3) := by decide +kernel
theorem dX10_init_45 : decode cX10_init 45 = .ok (.putfield 32, 3) := by decide +kernel
theorem dX10_init_48 : decode cX10_init 48 = .ok (.aload_n 0, 1) := by decide +kernel
theorem dX10_init_49 : decode cX10_init 49 = .ok (.new 33, 3) := by decide +kernel
theorem dX10_init_52 : decode cX10_init 52 = .ok (.dup, 1) := by decide +kernel
theorem dX10_init_53 : decode cX10_init 53 = .ok (.invokespecial 35, 3) := by decide +kernel
theorem dX10_init_56 : decode cX10_init 56 = .ok (.putfield 36, 3) := by decide +kernel
theorem dX10_init_59 : decode cX10_init 59 = .ok (.return_, 1) := by decide +kernel
theorem dX10_letter_0 : decode cX10_letter 0 = .ok (.iload_n 1, 1) := by decide +kernel
theorem dX10_letter_1 : decode cX10_letter 1 = .ok (.iconst 1, 1) := by decide +kernel
theorem dX10_letter_2 : decode cX10_letter 2 = .ok (.if_icmp .lt 9, 3) := by decide +kernel
theorem dX10_letter_5 : decode cX10_letter 5 = .ok (.iload_n 1, 1) := by decide +kernel
theorem dX10_letter_6 : decode cX10_letter 6 = .ok (.bipush 126, 2) := by decide +kernel
theorem dX10_letter_8 : decode cX10_letter 8 = .ok (.if_icmp .le 6, 3) := by decide +kernel
theorem dX10_letter_11 : decode cX10_letter 11 = .ok (.bipush (-102), 2) := by decide +kernel
theorem dX10_letter_13 : decode cX10_letter 13 = .ok (.ireturn, 1) := by decide +kernel
theorem dX10_letter_14 : decode cX10_letter 14 = .ok (.aload_n 0, 1) := by decide +kernel
theorem dX10_letter_15 : decode cX10_letter 15 = .ok (.getfield 10, 3) := by decide +kernel
theorem dX10_letter_18 : decode cX10_letter 18 = .ok (.getfield 39, 3) := by decide +kernel
theorem dX10_letter_21 : decode cX10_letter 21 = .ok (.bipush 44, 2) := by decide +kernel
theorem dX10_letter_23 : decode cX10_letter 23 = .ok (.if_icmp .lt 6, 3) := by decide +kernel
theorem dX10_letter_26 : decode cX10_letter 26 = .ok (.bipush (-104), 2) := by decide +kernel
theorem dX10_letter_28 : decode cX10_letter 28 = .ok (.ireturn, 1) := by decide +kernel
theorem dX10_letter_29 : decode cX10_letter 29 = .ok (.aload_n 0, 1) := by decide +kernel
theorem dX10_letter_30 : decode cX10_letter 30 = .ok (.getfield 10, 3) := by decide +kernel
theorem dX10_letter_33 : decode cX10_letter 33 = .ok (.iload_n 1, 1) := by decide +kernel
theorem dX10_letter_34 : decode cX10_letter 34 = .ok (.invokevirtual 43, 3) := by decide +kernel
theorem dX10_letter_37 : decode cX10_letter 37 = .ok (.aload_n 0, 1) := by decide +kernel
theorem dX10_letter_38 : decode cX10_letter 38 = .ok (.getfield 10, 3) := by decide +kernel
theorem dX10_letter_41 : decode cX10_letter 41 = .ok (.getfield 39, 3) := by decide +kernel
theorem dX10_letter_44 : decode cX10_letter 44 = .ok (.ireturn, 1) := by decide +kernel
theorem dX10_blank_0 : decode cX10_blank 0 = .ok (.aload_n 0, 1) := by decide +kernel
theorem dX10_blank_1 : decode cX10_blank 1 = .ok (.getfield 10, 3) := by decide +kernel
theorem dX10_blank_4 : decode cX10_blank 4 = .ok (.getfield 39, 3) := by decide +kernel
theorem dX10_blank_7 : decode cX10_blank 7 = .ok (.istore_n 1, 1) := by decide +kernel
theorem dX10_blank_8 : decode cX10_blank 8 = .ok (.aload_n 0, 1) := by decide +kernel
theorem dX10_blank_9 : decode cX10_blank 9 = .ok (.getfield 10, 3) := by decide +kernel
theorem dX10_blank_12 : decode cX10_blank 12 = .ok (.iconst 0, 1) := by decide +kernel
theorem dX10_blank_13 : decode cX10_blank 13 = .ok (.putfield 39, 3) := by decide +kernel
theorem dX10_blank_16 : decode cX10_blank 16 = .ok (.iload_n 1, 1) := by decide +kernel
theorem dX10_blank_17 : decode cX10_blank 17 = .ok (.ireturn, 1) := by decide +kernel
theorem dX10_fault_0 : decode cX10_fault 0 = .ok (.aload_n 0, 1) := by decide +kernel
theorem dX10_fault_1 : decode cX10_fault 1 = .ok (.getfield 10, 3) := by decide +kernel
theorem dX10_fault_4 : decode cX10_fault 4 = .ok (.invokevirtual 47, 3) := by decide +kernel
theorem dX10_fault_7 : decode cX10_fault 7 = .ok (.ireturn, 1) := by decide +kernel
theorem dX10_city_0 : decode cX10_city 0 = .ok (.aload_n 0, 1) := by decide +kernel
theorem dX10_city_1 : decode cX10_city 1 = .ok (.getfield 10, 3) := by decide +kernel
theorem dX10_city_4 : decode cX10_city 4 = .ok (.invokevirtual 51, 3) := by decide +kernel
theorem dX10_city_7 : decode cX10_city 7 = .ok (.ifCond .ne 6, 3) := by decide +kernel
theorem dX10_city_10 : decode cX10_city 10 = .ok (.bipush (-103), 2) := by decide +kernel
theorem dX10_city_12 : decode cX10_city 12 = .ok (.ireturn, 1) := by decide +kernel
theorem dX10_city_13 : decode cX10_city 13 = .ok (.aload_n 0, 1) := by decide +kernel
theorem dX10_city_14 : decode cX10_city 14 = .ok (.getfield 27, 3) := by decide +kernel
theorem dX10_city_17 : decode cX10_city 17 = .ok (.aload_n 0, 1) := by decide +kernel
theorem dX10_city_18 : decode cX10_city 18 = .ok (.getfield 10, 3) := by decide +kernel
theorem dX10_city_21 : decode cX10_city 21 = .ok (.invokevirtual 55, 3) := by decide +kernel
theorem dX10_city_24 : decode cX10_city 24 = .ok (.aload_n 0, 1) := by decide +kernel
theorem dX10_city_25 : decode cX10_city 25 = .ok (.getfield 32, 3) := by decide +kernel
theorem dX10_city_28 : decode cX10_city 28 = .ok (.aload_n 0, 1) := by decide +kernel
theorem dX10_city_29 : decode cX10_city 29 = .ok (.getfield 10, 3) := by decide +kernel
theorem dX10_city_32 : decode cX10_city 32 = .ok (.aload_n 0, 1) := by decide +kernel
theorem dX10_city_33 : decode cX10_city 33 = .ok (.getfield 27, 3) := by decide +kernel
theorem dX10_city_36 : decode cX10_city 36 = .ok (.getfield 61, 3) := by decide +kernel
theorem dX10_city_39 : decode cX10_city 39 = .ok (.invokevirtual 64, 3) := by decide +kernel
theorem dX10_city_42 : decode cX10_city 42 = .ok (.aload_n 0, 1) := by decide +kernel
theorem dX10_city_43 : decode cX10_city 43 = .ok (.getfield 10, 3) := by decide +kernel
theorem dX10_city_46 : decode cX10_city 46 = .ok (.iconst 0, 1) := by decide +kernel
theorem dX10_city_47 : decode cX10_city 47 = .ok (.putfield 39, 3) := by decide +kernel
theorem dX10_city_50 : decode cX10_city 50 = .ok (.aload_n 0, 1) := by decide +kernel
theorem dX10_city_51 : decode cX10_city 51 = .ok (.dup, 1) := by decide +kernel
theorem dX10_city_52 : decode cX10_city 52 = .ok (.getfield 68, 3) := by decide +kernel
theorem dX10_city_55 : decode cX10_city 55 = .ok (.iconst 1, 1) := by decide +kernel
theorem dX10_city_56 : decode cX10_city 56 = .ok (.iadd, 1) := by decide +kernel
theorem dX10_city_57 : decode cX10_city 57 = .ok (.putfield 68, 3) := by decide +kernel
theorem dX10_city_60 : decode cX10_city 60 = .ok (.aload_n 0, 1) := by decide +kernel
theorem dX10_city_61 : decode cX10_city 61 = .ok (.getfield 27, 3) := by decide +kernel
theorem dX10_city_64 : decode cX10_city 64 = .ok (.getfield 61, 3) := by decide +kernel
theorem dX10_city_67 : decode cX10_city 67 = .ok (.ireturn, 1) := by decide +kernel
theorem dX10_tune_0 : decode cX10_tune 0 = .ok (.iload_n 1, 1) := by decide +kernel
theorem dX10_tune_1 : decode cX10_tune 1 = .ok (.ifCond .eq 11, 3) := by decide +kernel
theorem dX10_tune_4 : decode cX10_tune 4 = .ok (.iload_n 1, 1) := by decide +kernel
theorem dX10_tune_5 : decode cX10_tune 5 = .ok (.iconst 1, 1) := by decide +kernel
theorem dX10_tune_6 : decode cX10_tune 6 = .ok (.if_icmp .eq 6, 3) := by decide +kernel
theorem dX10_tune_9 : decode cX10_tune 9 = .ok (.bipush (-101), 2) := by decide +kernel
theorem dX10_tune_11 : decode cX10_tune 11 = .ok (.ireturn, 1) := by decide +kernel
theorem dX10_tune_12 : decode cX10_tune 12 = .ok (.aload_n 0, 1) := by decide +kernel
theorem dX10_tune_13 : decode cX10_tune 13 = .ok (.getfield 10, 3) := by decide +kernel
theorem dX10_tune_16 : decode cX10_tune 16 = .ok (.invokevirtual 71, 3) := by decide +kernel
theorem dX10_tune_19 : decode cX10_tune 19 = .ok (.lstore_n 2, 1) := by decide +kernel
theorem dX10_tune_20 : decode cX10_tune 20 = .ok (.lload_n 2, 1) := by decide +kernel
theorem dX10_tune_21 : decode cX10_tune 21 = .ok (.lconst 0, 1) := by decide +kernel
theorem dX10_tune_22 : decode cX10_tune 22 = .ok (.lcmp, 1) := by decide +kernel
theorem dX10_tune_23 : decode cX10_tune 23 = .ok (.ifCond .ne 6, 3) := by decide +kernel
theorem dX10_tune_26 : decode cX10_tune 26 = .ok (.bipush (-103), 2) := by decide +kernel
theorem dX10_tune_28 : decode cX10_tune 28 = .ok (.ireturn, 1) := by decide +kernel
theorem dX10_tune_29 : decode cX10_tune 29 = .ok (.aload_n 0, 1) := by decide +kernel
theorem dX10_tune_30 : decode cX10_tune 30 = .ok (.getfield 32, 3) := by decide +kernel
theorem dX10_tune_33 : decode cX10_tune 33 = .ok (.iload_n 1, 1) := by decide +kernel
theorem dX10_tune_34 : decode cX10_tune 34 = .ok (.lload_n 2, 1) := by decide +kernel
theorem dX10_tune_35 : decode cX10_tune 35 = .ok (.invokevirtual 75, 3) := by decide +kernel
theorem dX10_tune_38 : decode cX10_tune 38 = .ok (.aload_n 0, 1) := by decide +kernel
theorem dX10_tune_39 : decode cX10_tune 39 = .ok (.getfield 10, 3) := by decide +kernel
theorem dX10_tune_42 : decode cX10_tune 42 = .ok (.iconst 0, 1) := by decide +kernel
theorem dX10_tune_43 : decode cX10_tune 43 = .ok (.putfield 39, 3) := by decide +kernel
theorem dX10_tune_46 : decode cX10_tune 46 = .ok (.lload_n 2, 1) := by decide +kernel
theorem dX10_tune_47 : decode cX10_tune 47 = .ok (.invokestatic 79, 3) := by decide +kernel
theorem dX10_tune_50 : decode cX10_tune 50 = .ok (.ireturn, 1) := by decide +kernel
theorem dX10_told_0 : decode cX10_told 0 = .ok (.aload_n 0, 1) := by decide +kernel
theorem dX10_told_1 : decode cX10_told 1 = .ok (.getfield 32, 3) := by decide +kernel
theorem dX10_told_4 : decode cX10_told 4 = .ok (.iload_n 1, 1) := by decide +kernel
theorem dX10_told_5 : decode cX10_told 5 = .ok (.invokevirtual 84, 3) := by decide +kernel
theorem dX10_told_8 : decode cX10_told 8 = .ok (.lstore_n 3, 1) := by decide +kernel
theorem dX10_told_9 : decode cX10_told 9 = .ok (.lload_n 3, 1) := by decide +kernel
theorem dX10_told_10 : decode cX10_told 10 = .ok (.lconst 0, 1) := by decide +kernel
theorem dX10_told_11 : decode cX10_told 11 = .ok (.lcmp, 1) := by decide +kernel
theorem dX10_told_12 : decode cX10_told 12 = .ok (.ifCond .ne 6, 3) := by decide +kernel
theorem dX10_told_15 : decode cX10_told 15 = .ok (.bipush (-101), 2) := by decide +kernel
theorem dX10_told_17 : decode cX10_told 17 = .ok (.ireturn, 1) := by decide +kernel
theorem dX10_told_18 : decode cX10_told 18 = .ok (.iload_n 2, 1) := by decide +kernel
theorem dX10_told_19 : decode cX10_told 19 = .ok (.tableswitch 62 0 4 #[33, 38, 43, 48, 57], 33) := by decide +kernel
theorem dX10_told_52 : decode cX10_told 52 = .ok (.lload_n 3, 1) := by decide +kernel
theorem dX10_told_53 : decode cX10_told 53 = .ok (.invokestatic 79, 3) := by decide +kernel
theorem dX10_told_56 : decode cX10_told 56 = .ok (.ireturn, 1) := by decide +kernel
theorem dX10_told_57 : decode cX10_told 57 = .ok (.lload_n 3, 1) := by decide +kernel
theorem dX10_told_58 : decode cX10_told 58 = .ok (.invokestatic 88, 3) := by decide +kernel
theorem dX10_told_61 : decode cX10_told 61 = .ok (.ireturn, 1) := by decide +kernel
theorem dX10_told_62 : decode cX10_told 62 = .ok (.lload_n 3, 1) := by decide +kernel
theorem dX10_told_63 : decode cX10_told 63 = .ok (.invokestatic 91, 3) := by decide +kernel
theorem dX10_told_66 : decode cX10_told 66 = .ok (.ireturn, 1) := by decide +kernel
theorem dX10_told_67 : decode cX10_told 67 = .ok (.lload_n 3, 1) := by decide +kernel
theorem dX10_told_68 : decode cX10_told 68 = .ok (.lload_n 3, 1) := by decide +kernel
theorem dX10_told_69 : decode cX10_told 69 = .ok (.invokestatic 91, 3) := by decide +kernel
theorem dX10_told_72 : decode cX10_told 72 = .ok (.invokestatic 94, 3) := by decide +kernel
theorem dX10_told_75 : decode cX10_told 75 = .ok (.ireturn, 1) := by decide +kernel
theorem dX10_told_76 : decode cX10_told 76 = .ok (.lload_n 3, 1) := by decide +kernel
theorem dX10_told_77 : decode cX10_told 77 = .ok (.invokestatic 98, 3) := by decide +kernel
theorem dX10_told_80 : decode cX10_told 80 = .ok (.ireturn, 1) := by decide +kernel
theorem dX10_told_81 : decode cX10_told 81 = .ok (.iload_n 2, 1) := by decide +kernel
theorem dX10_told_82 : decode cX10_told 82 = .ok (.bipush 10, 2) := by decide +kernel
theorem dX10_told_84 : decode cX10_told 84 = .ok (.if_icmp .lt 20, 3) := by decide +kernel
theorem dX10_told_87 : decode cX10_told 87 = .ok (.iload_n 2, 1) := by decide +kernel
theorem dX10_told_88 : decode cX10_told 88 = .ok (.bipush 18, 2) := by decide +kernel
theorem dX10_told_90 : decode cX10_told 90 = .ok (.if_icmp .ge 14, 3) := by decide +kernel
theorem dX10_told_93 : decode cX10_told 93 = .ok (.lload_n 3, 1) := by decide +kernel
theorem dX10_told_94 : decode cX10_told 94 = .ok (.iload_n 2, 1) := by decide +kernel
theorem dX10_told_95 : decode cX10_told 95 = .ok (.bipush 10, 2) := by decide +kernel
theorem dX10_told_97 : decode cX10_told 97 = .ok (.isub, 1) := by decide +kernel
theorem dX10_told_98 : decode cX10_told 98 = .ok (.invokestatic 101, 3) := by decide +kernel
theorem dX10_told_101 : decode cX10_told 101 = .ok (.goto 5, 3) := by decide +kernel
theorem dX10_told_104 : decode cX10_told 104 = .ok (.bipush (-102), 2) := by decide +kernel
theorem dX10_told_106 : decode cX10_told 106 = .ok (.ireturn, 1) := by decide +kernel
theorem dX10_street_0 : decode cX10_street 0 = .ok (.aload_n 0, 1) := by decide +kernel
theorem dX10_street_1 : decode cX10_street 1 = .ok (.getfield 27, 3) := by decide +kernel
theorem dX10_street_4 : decode cX10_street 4 = .ok (.iload_n 1, 1) := by decide +kernel
theorem dX10_street_5 : decode cX10_street 5 = .ok (.invokevirtual 104, 3) := by decide +kernel
theorem dX10_street_8 : decode cX10_street 8 = .ok (.astore_n 3, 1) := by decide +kernel
theorem dX10_street_9 : decode cX10_street 9 = .ok (.aload_n 3, 1) := by decide +kernel
theorem dX10_street_10 : decode cX10_street 10 = .ok (.ifnonnull 6, 3) := by decide +kernel
theorem dX10_street_13 : decode cX10_street 13 = .ok (.bipush (-101), 2) := by decide +kernel
theorem dX10_street_15 : decode cX10_street 15 = .ok (.ireturn, 1) := by decide +kernel
theorem dX10_street_16 : decode cX10_street 16 = .ok (.iload_n 2, 1) := by decide +kernel
theorem dX10_street_17 : decode cX10_street 17 = .ok (.tableswitch 129 0 8 #[51, 56, 61, 66, 75, 88, 102, 109, 120], 51) := by decide +kernel
theorem dX10_street_68 : decode cX10_street 68 = .ok (.aload_n 3, 1) := by decide +kernel
theorem dX10_street_69 : decode cX10_street 69 = .ok (.invokevirtual 108, 3) := by decide +kernel
theorem dX10_street_72 : decode cX10_street 72 = .ok (.ireturn, 1) := by decide +kernel
theorem dX10_street_73 : decode cX10_street 73 = .ok (.aload_n 3, 1) := by decide +kernel
theorem dX10_street_74 : decode cX10_street 74 = .ok (.getfield 113, 3) := by decide +kernel
theorem dX10_street_77 : decode cX10_street 77 = .ok (.ireturn, 1) := by decide +kernel
theorem dX10_street_78 : decode cX10_street 78 = .ok (.aload_n 3, 1) := by decide +kernel
theorem dX10_street_79 : decode cX10_street 79 = .ok (.getfield 116, 3) := by decide +kernel
theorem dX10_street_82 : decode cX10_street 82 = .ok (.ireturn, 1) := by decide +kernel
theorem dX10_street_83 : decode cX10_street 83 = .ok (.aload_n 0, 1) := by decide +kernel
theorem dX10_street_84 : decode cX10_street 84 = .ok (.getfield 32, 3) := by decide +kernel
theorem dX10_street_87 : decode cX10_street 87 = .ok (.iload_n 1, 1) := by decide +kernel
theorem dX10_street_88 : decode cX10_street 88 = .ok (.invokevirtual 119, 3) := by decide +kernel
theorem dX10_street_91 : decode cX10_street 91 = .ok (.ireturn, 1) := by decide +kernel
theorem dX10_street_92 : decode cX10_street 92 = .ok (.aload_n 3, 1) := by decide +kernel
theorem dX10_street_93 : decode cX10_street 93 = .ok (.aload_n 0, 1) := by decide +kernel
theorem dX10_street_94 : decode cX10_street 94 = .ok (.getfield 32, 3) := by decide +kernel
theorem dX10_street_97 : decode cX10_street 97 = .ok (.iload_n 1, 1) := by decide +kernel
theorem dX10_street_98 : decode cX10_street 98 = .ok (.invokevirtual 119, 3) := by decide +kernel
theorem dX10_street_101 : decode cX10_street 101 = .ok (.invokestatic 123, 3) := by decide +kernel
theorem dX10_street_104 : decode cX10_street 104 = .ok (.ireturn, 1) := by decide +kernel
theorem dX10_street_105 : decode cX10_street 105 = .ok (.aload_n 0, 1) := by decide +kernel
theorem dX10_street_106 : decode cX10_street 106 = .ok (.aload_n 3, 1) := by decide +kernel
theorem dX10_street_107 : decode cX10_street 107 = .ok (.aload_n 0, 1) := by decide +kernel
theorem dX10_street_108 : decode cX10_street 108 = .ok (.getfield 32, 3) := by decide +kernel
theorem dX10_street_111 : decode cX10_street 111 = .ok (.iload_n 1, 1) := by decide +kernel
theorem dX10_street_112 : decode cX10_street 112 = .ok (.invokevirtual 119, 3) := by decide +kernel
theorem dX10_street_115 : decode cX10_street 115 = .ok (.invokevirtual 127, 3) := by decide +kernel
theorem dX10_street_118 : decode cX10_street 118 = .ok (.ireturn, 1) := by decide +kernel
theorem dX10_street_119 : decode cX10_street 119 = .ok (.aload_n 0, 1) := by decide +kernel
theorem dX10_street_120 : decode cX10_street 120 = .ok (.aload_n 3, 1) := by decide +kernel
theorem dX10_street_121 : decode cX10_street 121 = .ok (.iload_n 1, 1) := by decide +kernel
theorem dX10_street_122 : decode cX10_street 122 = .ok (.invokevirtual 130, 3) := by decide +kernel
theorem dX10_street_125 : decode cX10_street 125 = .ok (.ireturn, 1) := by decide +kernel
theorem dX10_street_126 : decode cX10_street 126 = .ok (.aload_n 3, 1) := by decide +kernel
theorem dX10_street_127 : decode cX10_street 127 = .ok (.aload_n 0, 1) := by decide +kernel
theorem dX10_street_128 : decode cX10_street 128 = .ok (.aload_n 3, 1) := by decide +kernel
theorem dX10_street_129 : decode cX10_street 129 = .ok (.iload_n 1, 1) := by decide +kernel
theorem dX10_street_130 : decode cX10_street 130 = .ok (.invokevirtual 130, 3) := by decide +kernel
theorem dX10_street_133 : decode cX10_street 133 = .ok (.invokestatic 133, 3) := by decide +kernel
theorem dX10_street_136 : decode cX10_street 136 = .ok (.ireturn, 1) := by decide +kernel
theorem dX10_street_137 : decode cX10_street 137 = .ok (.aload_n 0, 1) := by decide +kernel
theorem dX10_street_138 : decode cX10_street 138 = .ok (.getfield 32, 3) := by decide +kernel
theorem dX10_street_141 : decode cX10_street 141 = .ok (.iload_n 1, 1) := by decide +kernel
theorem dX10_street_142 : decode cX10_street 142 = .ok (.invokevirtual 136, 3) := by decide +kernel
theorem dX10_street_145 : decode cX10_street 145 = .ok (.ireturn, 1) := by decide +kernel
theorem dX10_street_146 : decode cX10_street 146 = .ok (.bipush (-102), 2) := by decide +kernel
theorem dX10_street_148 : decode cX10_street 148 = .ok (.ireturn, 1) := by decide +kernel
theorem dX10_as_0 : decode cX10_as 0 = .ok (.aload_n 0, 1) := by decide +kernel
theorem dX10_as_1 : decode cX10_as 1 = .ok (.getfield 27, 3) := by decide +kernel
theorem dX10_as_4 : decode cX10_as 4 = .ok (.iload_n 1, 1) := by decide +kernel
theorem dX10_as_5 : decode cX10_as 5 = .ok (.invokevirtual 104, 3) := by decide +kernel
theorem dX10_as_8 : decode cX10_as 8 = .ok (.astore_n 3, 1) := by decide +kernel
theorem dX10_as_9 : decode cX10_as 9 = .ok (.aload_n 3, 1) := by decide +kernel
theorem dX10_as_10 : decode cX10_as 10 = .ok (.ifnonnull 6, 3) := by decide +kernel
theorem dX10_as_13 : decode cX10_as 13 = .ok (.bipush (-101), 2) := by decide +kernel
theorem dX10_as_15 : decode cX10_as 15 = .ok (.ireturn, 1) := by decide +kernel
theorem dX10_as_16 : decode cX10_as 16 = .ok (.iload_n 2, 1) := by decide +kernel
theorem dX10_as_17 : decode cX10_as 17 = .ok (.tableswitch 89 0 4 #[35, 37, 50, 63, 76], 35) := by decide +kernel
theorem dX10_as_52 : decode cX10_as 52 = .ok (.iload_n 1, 1) := by decide +kernel
theorem dX10_as_53 : decode cX10_as 53 = .ok (.ireturn, 1) := by decide +kernel
theorem dX10_as_54 : decode cX10_as 54 = .ok (.aload_n 3, 1) := by decide +kernel
theorem dX10_as_55 : decode cX10_as 55 = .ok (.instanceof 138, 3) := by decide +kernel
theorem dX10_as_58 : decode cX10_as 58 = .ok (.ifCond .eq 7, 3) := by decide +kernel
theorem dX10_as_61 : decode cX10_as 61 = .ok (.iload_n 1, 1) := by decide +kernel
theorem dX10_as_62 : decode cX10_as 62 = .ok (.goto 4, 3) := by decide +kernel
theorem dX10_as_65 : decode cX10_as 65 = .ok (.iconst (-1), 1) := by decide +kernel
theorem dX10_as_66 : decode cX10_as 66 = .ok (.ireturn, 1) := by decide +kernel
theorem dX10_as_67 : decode cX10_as 67 = .ok (.aload_n 3, 1) := by decide +kernel
theorem dX10_as_68 : decode cX10_as 68 = .ok (.instanceof 140, 3) := by decide +kernel
theorem dX10_as_71 : decode cX10_as 71 = .ok (.ifCond .eq 7, 3) := by decide +kernel
theorem dX10_as_74 : decode cX10_as 74 = .ok (.iload_n 1, 1) := by decide +kernel
theorem dX10_as_75 : decode cX10_as 75 = .ok (.goto 4, 3) := by decide +kernel
theorem dX10_as_78 : decode cX10_as 78 = .ok (.iconst (-1), 1) := by decide +kernel
theorem dX10_as_79 : decode cX10_as 79 = .ok (.ireturn, 1) := by decide +kernel
theorem dX10_as_80 : decode cX10_as 80 = .ok (.aload_n 3, 1) := by decide +kernel
theorem dX10_as_81 : decode cX10_as 81 = .ok (.instanceof 142, 3) := by decide +kernel
theorem dX10_as_84 : decode cX10_as 84 = .ok (.ifCond .eq 7, 3) := by decide +kernel
theorem dX10_as_87 : decode cX10_as 87 = .ok (.iload_n 1, 1) := by decide +kernel
theorem dX10_as_88 : decode cX10_as 88 = .ok (.goto 4, 3) := by decide +kernel
theorem dX10_as_91 : decode cX10_as 91 = .ok (.iconst (-1), 1) := by decide +kernel
theorem dX10_as_92 : decode cX10_as 92 = .ok (.ireturn, 1) := by decide +kernel
theorem dX10_as_93 : decode cX10_as 93 = .ok (.aload_n 3, 1) := by decide +kernel
theorem dX10_as_94 : decode cX10_as 94 = .ok (.instanceof 144, 3) := by decide +kernel
theorem dX10_as_97 : decode cX10_as 97 = .ok (.ifCond .eq 7, 3) := by decide +kernel
theorem dX10_as_100 : decode cX10_as 100 = .ok (.iload_n 1, 1) := by decide +kernel
theorem dX10_as_101 : decode cX10_as 101 = .ok (.goto 4, 3) := by decide +kernel
theorem dX10_as_104 : decode cX10_as 104 = .ok (.iconst (-1), 1) := by decide +kernel
theorem dX10_as_105 : decode cX10_as 105 = .ok (.ireturn, 1) := by decide +kernel
theorem dX10_as_106 : decode cX10_as 106 = .ok (.bipush (-102), 2) := by decide +kernel
theorem dX10_as_108 : decode cX10_as 108 = .ok (.ireturn, 1) := by decide +kernel
theorem dX10_comes_0 : decode cX10_comes 0 = .ok (.aload_n 0, 1) := by decide +kernel
theorem dX10_comes_1 : decode cX10_comes 1 = .ok (.getfield 27, 3) := by decide +kernel
theorem dX10_comes_4 : decode cX10_comes 4 = .ok (.iload_n 1, 1) := by decide +kernel
theorem dX10_comes_5 : decode cX10_comes 5 = .ok (.invokevirtual 104, 3) := by decide +kernel
theorem dX10_comes_8 : decode cX10_comes 8 = .ok (.astore_n 3, 1) := by decide +kernel
theorem dX10_comes_9 : decode cX10_comes 9 = .ok (.aload_n 3, 1) := by decide +kernel
theorem dX10_comes_10 : decode cX10_comes 10 = .ok (.ifnonnull 6, 3) := by decide +kernel
theorem dX10_comes_13 : decode cX10_comes 13 = .ok (.bipush (-101), 2) := by decide +kernel
theorem dX10_comes_15 : decode cX10_comes 15 = .ok (.ireturn, 1) := by decide +kernel
theorem dX10_comes_16 : decode cX10_comes 16 = .ok (.iload_n 2, 1) := by decide +kernel
theorem dX10_comes_17 : decode cX10_comes 17 = .ok (.invokestatic 146, 3) := by decide +kernel
theorem dX10_comes_20 : decode cX10_comes 20 = .ok (.ifCond .ne 6, 3) := by decide +kernel
theorem dX10_comes_23 : decode cX10_comes 23 = .ok (.bipush (-102), 2) := by decide +kernel
theorem dX10_comes_25 : decode cX10_comes 25 = .ok (.ireturn, 1) := by decide +kernel
theorem dX10_comes_26 : decode cX10_comes 26 = .ok (.aload_n 3, 1) := by decide +kernel
theorem dX10_comes_27 : decode cX10_comes 27 = .ok (.iload_n 2, 1) := by decide +kernel
theorem dX10_comes_28 : decode cX10_comes 28 = .ok (.aload_n 0, 1) := by decide +kernel
theorem dX10_comes_29 : decode cX10_comes 29 = .ok (.getfield 32, 3) := by decide +kernel
theorem dX10_comes_32 : decode cX10_comes 32 = .ok (.iload_n 1, 1) := by decide +kernel
theorem dX10_comes_33 : decode cX10_comes 33 = .ok (.invokevirtual 119, 3) := by decide +kernel
theorem dX10_comes_36 : decode cX10_comes 36 = .ok (.invokevirtual 150, 3) := by decide +kernel
theorem dX10_comes_39 : decode cX10_comes 39 = .ok (.ireturn, 1) := by decide +kernel
theorem dX10_walk_0 : decode cX10_walk 0 = .ok (.aload_n 0, 1) := by decide +kernel
theorem dX10_walk_1 : decode cX10_walk 1 = .ok (.getfield 27, 3) := by decide +kernel
theorem dX10_walk_4 : decode cX10_walk 4 = .ok (.iload_n 1, 1) := by decide +kernel
theorem dX10_walk_5 : decode cX10_walk 5 = .ok (.invokevirtual 104, 3) := by decide +kernel
theorem dX10_walk_8 : decode cX10_walk 8 = .ok (.astore_n 2, 1) := by decide +kernel
theorem dX10_walk_9 : decode cX10_walk 9 = .ok (.aload_n 2, 1) := by decide +kernel
theorem dX10_walk_10 : decode cX10_walk 10 = .ok (.ifnonnull 6, 3) := by decide +kernel
theorem dX10_walk_13 : decode cX10_walk 13 = .ok (.bipush (-101), 2) := by decide +kernel
theorem dX10_walk_15 : decode cX10_walk 15 = .ok (.ireturn, 1) := by decide +kernel
theorem dX10_walk_16 : decode cX10_walk 16 = .ok (.aload_n 0, 1) := by decide +kernel
theorem dX10_walk_17 : decode cX10_walk 17 = .ok (.getfield 32, 3) := by decide +kernel
theorem dX10_walk_20 : decode cX10_walk 20 = .ok (.getfield 154, 3) := by decide +kernel
theorem dX10_walk_23 : decode cX10_walk 23 = .ok (.lconst 0, 1) := by decide +kernel
theorem dX10_walk_24 : decode cX10_walk 24 = .ok (.lcmp, 1) := by decide +kernel
theorem dX10_walk_25 : decode cX10_walk 25 = .ok (.ifCond .eq 38, 3) := by decide +kernel
theorem dX10_walk_28 : decode cX10_walk 28 = .ok (.aload_n 2, 1) := by decide +kernel
theorem dX10_walk_29 : decode cX10_walk 29 = .ok (.aload_n 0, 1) := by decide +kernel
theorem dX10_walk_30 : decode cX10_walk 30 = .ok (.getfield 32, 3) := by decide +kernel
theorem dX10_walk_33 : decode cX10_walk 33 = .ok (.getfield 158, 3) := by decide +kernel
theorem dX10_walk_36 : decode cX10_walk 36 = .ok (.invokevirtual 161, 3) := by decide +kernel
theorem dX10_walk_39 : decode cX10_walk 39 = .ok (.ifCond .eq 24, 3) := by decide +kernel
theorem dX10_walk_42 : decode cX10_walk 42 = .ok (.aload_n 2, 1) := by decide +kernel
theorem dX10_walk_43 : decode cX10_walk 43 = .ok (.aload_n 0, 1) := by decide +kernel
theorem dX10_walk_44 : decode cX10_walk 44 = .ok (.getfield 32, 3) := by decide +kernel
theorem dX10_walk_47 : decode cX10_walk 47 = .ok (.getfield 154, 3) := by decide +kernel
theorem dX10_walk_50 : decode cX10_walk 50 = .ok (.aload_n 0, 1) := by decide +kernel
theorem dX10_walk_51 : decode cX10_walk 51 = .ok (.getfield 32, 3) := by decide +kernel
theorem dX10_walk_54 : decode cX10_walk 54 = .ok (.getfield 164, 3) := by decide +kernel
theorem dX10_walk_57 : decode cX10_walk 57 = .ok (.invokevirtual 168, 3) := by decide +kernel
theorem dX10_walk_60 : decode cX10_walk 60 = .ok (.ifCond .ne 6, 3) := by decide +kernel
theorem dX10_walk_63 : decode cX10_walk 63 = .ok (.bipush (-103), 2) := by decide +kernel
theorem dX10_walk_65 : decode cX10_walk 65 = .ok (.ireturn, 1) := by decide +kernel
theorem dX10_walk_66 : decode cX10_walk 66 = .ok (.aload_n 0, 1) := by decide +kernel
theorem dX10_walk_67 : decode cX10_walk 67 = .ok (.getfield 32, 3) := by decide +kernel
theorem dX10_walk_70 : decode cX10_walk 70 = .ok (.getfield 172, 3) := by decide +kernel
theorem dX10_walk_73 : decode cX10_walk 73 = .ok (.sipush 999, 3) := by decide +kernel
theorem dX10_walk_76 : decode cX10_walk 76 = .ok (.if_icmp .lt 6, 3) := by decide +kernel
theorem dX10_walk_79 : decode cX10_walk 79 = .ok (.bipush (-104), 2) := by decide +kernel
theorem dX10_walk_81 : decode cX10_walk 81 = .ok (.ireturn, 1) := by decide +kernel
theorem dX10_walk_82 : decode cX10_walk 82 = .ok (.aload_n 0, 1) := by decide +kernel
theorem dX10_walk_83 : decode cX10_walk 83 = .ok (.getfield 32, 3) := by decide +kernel
theorem dX10_walk_86 : decode cX10_walk 86 = .ok (.aload_n 2, 1) := by decide +kernel
theorem dX10_walk_87 : decode cX10_walk 87 = .ok (.aload_n 0, 1) := by decide +kernel
theorem dX10_walk_88 : decode cX10_walk 88 = .ok (.getfield 32, 3) := by decide +kernel
theorem dX10_walk_91 : decode cX10_walk 91 = .ok (.getfield 154, 3) := by decide +kernel
theorem dX10_walk_94 : decode cX10_walk 94 = .ok (.aload_n 0, 1) := by decide +kernel
theorem dX10_walk_95 : decode cX10_walk 95 = .ok (.getfield 32, 3) := by decide +kernel
theorem dX10_walk_98 : decode cX10_walk 98 = .ok (.iload_n 1, 1) := by decide +kernel
theorem dX10_walk_99 : decode cX10_walk 99 = .ok (.invokevirtual 119, 3) := by decide +kernel
theorem dX10_walk_102 : decode cX10_walk 102 = .ok (.invokevirtual 175, 3) := by decide +kernel
theorem dX10_walk_105 : decode cX10_walk 105 = .ok (.putfield 154, 3) := by decide +kernel
theorem dX10_walk_108 : decode cX10_walk 108 = .ok (.aload_n 0, 1) := by decide +kernel
theorem dX10_walk_109 : decode cX10_walk 109 = .ok (.getfield 32, 3) := by decide +kernel
theorem dX10_walk_112 : decode cX10_walk 112 = .ok (.aload_n 2, 1) := by decide +kernel
theorem dX10_walk_113 : decode cX10_walk 113 = .ok (.aload_n 0, 1) := by decide +kernel
theorem dX10_walk_114 : decode cX10_walk 114 = .ok (.getfield 32, 3) := by decide +kernel
theorem dX10_walk_117 : decode cX10_walk 117 = .ok (.getfield 158, 3) := by decide +kernel
theorem dX10_walk_120 : decode cX10_walk 120 = .ok (.invokevirtual 179, 3) := by decide +kernel
theorem dX10_walk_123 : decode cX10_walk 123 = .ok (.putfield 158, 3) := by decide +kernel
theorem dX10_walk_126 : decode cX10_walk 126 = .ok (.aload_n 0, 1) := by decide +kernel
theorem dX10_walk_127 : decode cX10_walk 127 = .ok (.getfield 32, 3) := by decide +kernel
theorem dX10_walk_130 : decode cX10_walk 130 = .ok (.iload_n 1, 1) := by decide +kernel
theorem dX10_walk_131 : decode cX10_walk 131 = .ok (.invokevirtual 182, 3) := by decide +kernel
theorem dX10_walk_134 : decode cX10_walk 134 = .ok (.aload_n 0, 1) := by decide +kernel
theorem dX10_walk_135 : decode cX10_walk 135 = .ok (.getfield 32, 3) := by decide +kernel
theorem dX10_walk_138 : decode cX10_walk 138 = .ok (.getfield 158, 3) := by decide +kernel
theorem dX10_walk_141 : decode cX10_walk 141 = .ok (.ireturn, 1) := by decide +kernel
theorem dX10_stand_0 : decode cX10_stand 0 = .ok (.iload_n 1, 1) := by decide +kernel
theorem dX10_stand_1 : decode cX10_stand 1 = .ok (.ifCond .lt 14, 3) := by decide +kernel
theorem dX10_stand_4 : decode cX10_stand 4 = .ok (.iload_n 1, 1) := by decide +kernel
theorem dX10_stand_5 : decode cX10_stand 5 = .ok (.aload_n 0, 1) := by decide +kernel
theorem dX10_stand_6 : decode cX10_stand 6 = .ok (.getfield 27, 3) := by decide +kernel
theorem dX10_stand_9 : decode cX10_stand 9 = .ok (.getfield 185, 3) := by decide +kernel
theorem dX10_stand_12 : decode cX10_stand 12 = .ok (.if_icmp .lt 6, 3) := by decide +kernel
theorem dX10_stand_15 : decode cX10_stand 15 = .ok (.bipush (-101), 2) := by decide +kernel
theorem dX10_stand_17 : decode cX10_stand 17 = .ok (.ireturn, 1) := by decide +kernel
theorem dX10_stand_18 : decode cX10_stand 18 = .ok (.aload_n 0, 1) := by decide +kernel
theorem dX10_stand_19 : decode cX10_stand 19 = .ok (.getfield 32, 3) := by decide +kernel
theorem dX10_stand_22 : decode cX10_stand 22 = .ok (.getfield 158, 3) := by decide +kernel
theorem dX10_stand_25 : decode cX10_stand 25 = .ok (.istore_n 2, 1) := by decide +kernel
theorem dX10_stand_26 : decode cX10_stand 26 = .ok (.aload_n 0, 1) := by decide +kernel
theorem dX10_stand_27 : decode cX10_stand 27 = .ok (.getfield 32, 3) := by decide +kernel
theorem dX10_stand_30 : decode cX10_stand 30 = .ok (.iload_n 1, 1) := by decide +kernel
theorem dX10_stand_31 : decode cX10_stand 31 = .ok (.putfield 158, 3) := by decide +kernel
theorem dX10_stand_34 : decode cX10_stand 34 = .ok (.iload_n 2, 1) := by decide +kernel
theorem dX10_stand_35 : decode cX10_stand 35 = .ok (.ireturn, 1) := by decide +kernel
theorem dX10_dusk_0 : decode cX10_dusk 0 = .ok (.aload_n 0, 1) := by decide +kernel
theorem dX10_dusk_1 : decode cX10_dusk 1 = .ok (.invokevirtual 188, 3) := by decide +kernel
theorem dX10_dusk_4 : decode cX10_dusk 4 = .ok (.ifCond .eq 6, 3) := by decide +kernel
theorem dX10_dusk_7 : decode cX10_dusk 7 = .ok (.bipush (-103), 2) := by decide +kernel
theorem dX10_dusk_9 : decode cX10_dusk 9 = .ok (.ireturn, 1) := by decide +kernel
theorem dX10_dusk_10 : decode cX10_dusk 10 = .ok (.aload_n 0, 1) := by decide +kernel
theorem dX10_dusk_11 : decode cX10_dusk 11 = .ok (.getfield 32, 3) := by decide +kernel
theorem dX10_dusk_14 : decode cX10_dusk 14 = .ok (.aload_n 0, 1) := by decide +kernel
theorem dX10_dusk_15 : decode cX10_dusk 15 = .ok (.getfield 32, 3) := by decide +kernel
theorem dX10_dusk_18 : decode cX10_dusk 18 = .ok (.getfield 164, 3) := by decide +kernel
theorem dX10_dusk_21 : decode cX10_dusk 21 = .ok (.ifCond .ne 7, 3) := by decide +kernel
theorem dX10_dusk_24 : decode cX10_dusk 24 = .ok (.iconst 1, 1) := by decide +kernel
theorem dX10_dusk_25 : decode cX10_dusk 25 = .ok (.goto 4, 3) := by decide +kernel
theorem dX10_dusk_28 : decode cX10_dusk 28 = .ok (.iconst 0, 1) := by decide +kernel
theorem dX10_dusk_29 : decode cX10_dusk 29 = .ok (.putfield 164, 3) := by decide +kernel
theorem dX10_dusk_32 : decode cX10_dusk 32 = .ok (.aload_n 0, 1) := by decide +kernel
theorem dX10_dusk_33 : decode cX10_dusk 33 = .ok (.getfield 32, 3) := by decide +kernel
theorem dX10_dusk_36 : decode cX10_dusk 36 = .ok (.getfield 164, 3) := by decide +kernel
theorem dX10_dusk_39 : decode cX10_dusk 39 = .ok (.ifCond .eq 7, 3) := by decide +kernel
theorem dX10_dusk_42 : decode cX10_dusk 42 = .ok (.iconst 1, 1) := by decide +kernel
theorem dX10_dusk_43 : decode cX10_dusk 43 = .ok (.goto 4, 3) := by decide +kernel
theorem dX10_dusk_46 : decode cX10_dusk 46 = .ok (.iconst 0, 1) := by decide +kernel
theorem dX10_dusk_47 : decode cX10_dusk 47 = .ok (.ireturn, 1) := by decide +kernel
theorem dX10_sing_0 : decode cX10_sing 0 = .ok (.aload_n 0, 1) := by decide +kernel
theorem dX10_sing_1 : decode cX10_sing 1 = .ok (.getfield 32, 3) := by decide +kernel
theorem dX10_sing_4 : decode cX10_sing 4 = .ok (.iload_n 1, 1) := by decide +kernel
theorem dX10_sing_5 : decode cX10_sing 5 = .ok (.invokevirtual 84, 3) := by decide +kernel
theorem dX10_sing_8 : decode cX10_sing 8 = .ok (.lstore 4, 2) := by decide +kernel
theorem dX10_sing_10 : decode cX10_sing 10 = .ok (.lload 4, 2) := by decide +kernel
theorem dX10_sing_12 : decode cX10_sing 12 = .ok (.iload_n 2, 1) := by decide +kernel
theorem dX10_sing_13 : decode cX10_sing 13 = .ok (.invokestatic 101, 3) := by decide +kernel
theorem dX10_sing_16 : decode cX10_sing 16 = .ok (.istore 6, 2) := by decide +kernel
theorem dX10_sing_18 : decode cX10_sing 18 = .ok (.iload 6, 2) := by decide +kernel
theorem dX10_sing_20 : decode cX10_sing 20 = .ok (.iconst (-1), 1) := by decide +kernel
theorem dX10_sing_21 : decode cX10_sing 21 = .ok (.if_icmp .ne 6, 3) := by decide +kernel
theorem dX10_sing_24 : decode cX10_sing 24 = .ok (.bipush (-101), 2) := by decide +kernel
theorem dX10_sing_26 : decode cX10_sing 26 = .ok (.ireturn, 1) := by decide +kernel
theorem dX10_sing_27 : decode cX10_sing 27 = .ok (.iload_n 3, 1) := by decide +kernel
theorem dX10_sing_28 : decode cX10_sing 28 = .ok (.invokestatic 146, 3) := by decide +kernel
theorem dX10_sing_31 : decode cX10_sing 31 = .ok (.ifCond .ne 6, 3) := by decide +kernel
theorem dX10_sing_34 : decode cX10_sing 34 = .ok (.bipush (-102), 2) := by decide +kernel
theorem dX10_sing_36 : decode cX10_sing 36 = .ok (.ireturn, 1) := by decide +kernel
theorem dX10_sing_37 : decode cX10_sing 37 = .ok (.aload_n 0, 1) := by decide +kernel
theorem dX10_sing_38 : decode cX10_sing 38 = .ok (.getfield 32, 3) := by decide +kernel
theorem dX10_sing_41 : decode cX10_sing 41 = .ok (.iload_n 1, 1) := by decide +kernel
theorem dX10_sing_42 : decode cX10_sing 42 = .ok (.lload 4, 2) := by decide +kernel
theorem dX10_sing_44 : decode cX10_sing 44 = .ok (.iload_n 2, 1) := by decide +kernel
theorem dX10_sing_45 : decode cX10_sing 45 = .ok (.iload_n 3, 1) := by decide +kernel
theorem dX10_sing_46 : decode cX10_sing 46 = .ok (.invokestatic 191, 3) := by decide +kernel
theorem dX10_sing_49 : decode cX10_sing 49 = .ok (.invokevirtual 75, 3) := by decide +kernel
theorem dX10_sing_52 : decode cX10_sing 52 = .ok (.iload 6, 2) := by decide +kernel
theorem dX10_sing_54 : decode cX10_sing 54 = .ok (.ireturn, 1) := by decide +kernel
theorem dX10_raise_0 : decode cX10_raise 0 = .ok (.aload_n 0, 1) := by decide +kernel
theorem dX10_raise_1 : decode cX10_raise 1 = .ok (.getfield 27, 3) := by decide +kernel
theorem dX10_raise_4 : decode cX10_raise 4 = .ok (.iload_n 1, 1) := by decide +kernel
theorem dX10_raise_5 : decode cX10_raise 5 = .ok (.invokevirtual 104, 3) := by decide +kernel
theorem dX10_raise_8 : decode cX10_raise 8 = .ok (.ifnonnull 6, 3) := by decide +kernel
theorem dX10_raise_11 : decode cX10_raise 11 = .ok (.bipush (-101), 2) := by decide +kernel
theorem dX10_raise_13 : decode cX10_raise 13 = .ok (.ireturn, 1) := by decide +kernel
theorem dX10_raise_14 : decode cX10_raise 14 = .ok (.iload_n 2, 1) := by decide +kernel
theorem dX10_raise_15 : decode cX10_raise 15 = .ok (.invokestatic 146, 3) := by decide +kernel
theorem dX10_raise_18 : decode cX10_raise 18 = .ok (.ifCond .ne 6, 3) := by decide +kernel
theorem dX10_raise_21 : decode cX10_raise 21 = .ok (.bipush (-102), 2) := by decide +kernel
theorem dX10_raise_23 : decode cX10_raise 23 = .ok (.ireturn, 1) := by decide +kernel
theorem dX10_raise_24 : decode cX10_raise 24 = .ok (.aload_n 0, 1) := by decide +kernel
theorem dX10_raise_25 : decode cX10_raise 25 = .ok (.getfield 32, 3) := by decide +kernel
theorem dX10_raise_28 : decode cX10_raise 28 = .ok (.iload_n 1, 1) := by decide +kernel
theorem dX10_raise_29 : decode cX10_raise 29 = .ok (.invokevirtual 119, 3) := by decide +kernel
theorem dX10_raise_32 : decode cX10_raise 32 = .ok (.istore_n 3, 1) := by decide +kernel
theorem dX10_raise_33 : decode cX10_raise 33 = .ok (.aload_n 0, 1) := by decide +kernel
theorem dX10_raise_34 : decode cX10_raise 34 = .ok (.getfield 32, 3) := by decide +kernel
theorem dX10_raise_37 : decode cX10_raise 37 = .ok (.iload_n 1, 1) := by decide +kernel
theorem dX10_raise_38 : decode cX10_raise 38 = .ok (.iload_n 2, 1) := by decide +kernel
theorem dX10_raise_39 : decode cX10_raise 39 = .ok (.invokevirtual 195, 3) := by decide +kernel
theorem dX10_raise_42 : decode cX10_raise 42 = .ok (.iload_n 3, 1) := by decide +kernel
theorem dX10_raise_43 : decode cX10_raise 43 = .ok (.ireturn, 1) := by decide +kernel
theorem dX10_way_0 : decode cX10_way 0 = .ok (.iload_n 1, 1) := by decide +kernel
theorem dX10_way_1 : decode cX10_way 1 = .ok (.bipush 10, 2) := by decide +kernel
theorem dX10_way_3 : decode cX10_way 3 = .ok (.if_icmp .lt 13, 3) := by decide +kernel
theorem dX10_way_6 : decode cX10_way 6 = .ok (.iload_n 1, 1) := by decide +kernel
theorem dX10_way_7 : decode cX10_way 7 = .ok (.bipush 15, 2) := by decide +kernel
theorem dX10_way_9 : decode cX10_way 9 = .ok (.if_icmp .ge 7, 3) := by decide +kernel
theorem dX10_way_12 : decode cX10_way 12 = .ok (.iconst 1, 1) := by decide +kernel
theorem dX10_way_13 : decode cX10_way 13 = .ok (.goto 4, 3) := by decide +kernel
theorem dX10_way_16 : decode cX10_way 16 = .ok (.iconst 0, 1) := by decide +kernel
theorem dX10_way_17 : decode cX10_way 17 = .ok (.istore_n 2, 1) := by decide +kernel
theorem dX10_way_18 : decode cX10_way 18 = .ok (.iload_n 1, 1) := by decide +kernel
theorem dX10_way_19 : decode cX10_way 19 = .ok (.ifCond .eq 15, 3) := by decide +kernel
theorem dX10_way_22 : decode cX10_way 22 = .ok (.iload_n 1, 1) := by decide +kernel
theorem dX10_way_23 : decode cX10_way 23 = .ok (.iconst 1, 1) := by decide +kernel
theorem dX10_way_24 : decode cX10_way 24 = .ok (.if_icmp .eq 10, 3) := by decide +kernel
theorem dX10_way_27 : decode cX10_way 27 = .ok (.iload_n 2, 1) := by decide +kernel
theorem dX10_way_28 : decode cX10_way 28 = .ok (.ifCond .ne 6, 3) := by decide +kernel
theorem dX10_way_31 : decode cX10_way 31 = .ok (.bipush (-102), 2) := by decide +kernel
theorem dX10_way_33 : decode cX10_way 33 = .ok (.ireturn, 1) := by decide +kernel
theorem dX10_way_34 : decode cX10_way 34 = .ok (.aload_n 0, 1) := by decide +kernel
theorem dX10_way_35 : decode cX10_way 35 = .ok (.invokevirtual 188, 3) := by decide +kernel
theorem dX10_way_38 : decode cX10_way 38 = .ok (.ifCond .ne 19, 3) := by decide +kernel
theorem dX10_way_41 : decode cX10_way 41 = .ok (.aload_n 0, 1) := by decide +kernel
theorem dX10_way_42 : decode cX10_way 42 = .ok (.invokevirtual 199, 3) := by decide +kernel
theorem dX10_way_45 : decode cX10_way 45 = .ok (.ifCond .ne 12, 3) := by decide +kernel
theorem dX10_way_48 : decode cX10_way 48 = .ok (.aload_n 0, 1) := by decide +kernel
theorem dX10_way_49 : decode cX10_way 49 = .ok (.getfield 202, 3) := by decide +kernel
theorem dX10_way_52 : decode cX10_way 52 = .ok (.bipush 16, 2) := by decide +kernel
theorem dX10_way_54 : decode cX10_way 54 = .ok (.if_icmp .lt 6, 3) := by decide +kernel
theorem dX10_way_57 : decode cX10_way 57 = .ok (.bipush (-103), 2) := by decide +kernel
theorem dX10_way_59 : decode cX10_way 59 = .ok (.ireturn, 1) := by decide +kernel
theorem dX10_way_60 : decode cX10_way 60 = .ok (.aload_n 0, 1) := by decide +kernel
theorem dX10_way_61 : decode cX10_way 61 = .ok (.dup, 1) := by decide +kernel
theorem dX10_way_62 : decode cX10_way 62 = .ok (.getfield 202, 3) := by decide +kernel
theorem dX10_way_65 : decode cX10_way 65 = .ok (.iconst 1, 1) := by decide +kernel
theorem dX10_way_66 : decode cX10_way 66 = .ok (.iadd, 1) := by decide +kernel
theorem dX10_way_67 : decode cX10_way 67 = .ok (.putfield 202, 3) := by decide +kernel
theorem dX10_way_70 : decode cX10_way 70 = .ok (.aload_n 0, 1) := by decide +kernel
theorem dX10_way_71 : decode cX10_way 71 = .ok (.getfield 19, 3) := by decide +kernel
theorem dX10_way_74 : decode cX10_way 74 = .ok (.invokevirtual 205, 3) := by decide +kernel
theorem dX10_way_77 : decode cX10_way 77 = .ok (.istore_n 3, 1) := by decide +kernel
theorem dX10_way_78 : decode cX10_way 78 = .ok (.iload_n 3, 1) := by decide +kernel
theorem dX10_way_79 : decode cX10_way 79 = .ok (.iconst (-1), 1) := by decide +kernel
theorem dX10_way_80 : decode cX10_way 80 = .ok (.if_icmp .eq 7, 3) := by decide +kernel
theorem dX10_way_83 : decode cX10_way 83 = .ok (.iload_n 1, 1) := by decide +kernel
theorem dX10_way_84 : decode cX10_way 84 = .ok (.ifCond .ne 5, 3) := by decide +kernel
theorem dX10_way_87 : decode cX10_way 87 = .ok (.iload_n 3, 1) := by decide +kernel
theorem dX10_way_88 : decode cX10_way 88 = .ok (.ireturn, 1) := by decide +kernel
theorem dX10_way_89 : decode cX10_way 89 = .ok (.iload_n 1, 1) := by decide +kernel
theorem dX10_way_90 : decode cX10_way 90 = .ok (.iconst 1, 1) := by decide +kernel
theorem dX10_way_91 : decode cX10_way 91 = .ok (.if_icmp .ne 13, 3) := by decide +kernel
theorem dX10_way_94 : decode cX10_way 94 = .ok (.aload_n 0, 1) := by decide +kernel
theorem dX10_way_95 : decode cX10_way 95 = .ok (.getfield 19, 3) := by decide +kernel
theorem dX10_way_98 : decode cX10_way 98 = .ok (.getfield 208, 3) := by decide +kernel
theorem dX10_way_101 : decode cX10_way 101 = .ok (.goto 15, 3) := by decide +kernel
theorem dX10_way_104 : decode cX10_way 104 = .ok (.aload_n 0, 1) := by decide +kernel
theorem dX10_way_105 : decode cX10_way 105 = .ok (.getfield 19, 3) := by decide +kernel
theorem dX10_way_108 : decode cX10_way 108 = .ok (.iload_n 1, 1) := by decide +kernel
theorem dX10_way_109 : decode cX10_way 109 = .ok (.bipush 10, 2) := by decide +kernel
theorem dX10_way_111 : decode cX10_way 111 = .ok (.isub, 1) := by decide +kernel
theorem dX10_way_112 : decode cX10_way 112 = .ok (.iload_n 3, 1) := by decide +kernel
theorem dX10_way_113 : decode cX10_way 113 = .ok (.invokevirtual 211, 3) := by decide +kernel
theorem dX10_way_116 : decode cX10_way 116 = .ok (.ireturn, 1) := by decide +kernel
theorem dX10_become_0 : decode cX10_become 0 = .ok (.iload_n 1, 1) := by decide +kernel
theorem dX10_become_1 : decode cX10_become 1 = .ok (.ifCond .lt 8, 3) := by decide +kernel
theorem dX10_become_4 : decode cX10_become 4 = .ok (.iload_n 1, 1) := by decide +kernel
theorem dX10_become_5 : decode cX10_become 5 = .ok (.iconst 3, 1) := by decide +kernel
theorem dX10_become_6 : decode cX10_become 6 = .ok (.if_icmp .le 6, 3) := by decide +kernel
theorem dX10_become_9 : decode cX10_become 9 = .ok (.bipush (-102), 2) := by decide +kernel
theorem dX10_become_11 : decode cX10_become 11 = .ok (.ireturn, 1) := by decide +kernel
theorem dX10_become_12 : decode cX10_become 12 = .ok (.aload_n 0, 1) := by decide +kernel
theorem dX10_become_13 : decode cX10_become 13 = .ok (.invokevirtual 188, 3) := by decide +kernel
theorem dX10_become_16 : decode cX10_become 16 = .ok (.ifCond .ne 15, 3) := by decide +kernel
theorem dX10_become_19 : decode cX10_become 19 = .ok (.aload_n 0, 1) := by decide +kernel
theorem dX10_become_20 : decode cX10_become 20 = .ok (.getfield 32, 3) := by decide +kernel
theorem dX10_become_23 : decode cX10_become 23 = .ok (.getfield 154, 3) := by decide +kernel
theorem dX10_become_26 : decode cX10_become 26 = .ok (.lconst 0, 1) := by decide +kernel
theorem dX10_become_27 : decode cX10_become 27 = .ok (.lcmp, 1) := by decide +kernel
theorem dX10_become_28 : decode cX10_become 28 = .ok (.ifCond .ne 6, 3) := by decide +kernel
theorem dX10_become_31 : decode cX10_become 31 = .ok (.bipush (-103), 2) := by decide +kernel
theorem dX10_become_33 : decode cX10_become 33 = .ok (.ireturn, 1) := by decide +kernel
theorem dX10_become_34 : decode cX10_become 34 = .ok (.aload_n 0, 1) := by decide +kernel
theorem dX10_become_35 : decode cX10_become 35 = .ok (.getfield 19, 3) := by decide +kernel
theorem dX10_become_38 : decode cX10_become 38 = .ok (.iload_n 1, 1) := by decide +kernel
theorem dX10_become_39 : decode cX10_become 39 = .ok (.invokevirtual 214, 3) := by decide +kernel
theorem dX10_become_42 : decode cX10_become 42 = .ok (.ireturn, 1) := by decide +kernel
theorem dX10_apart_0 : decode cX10_apart 0 = .ok (.aload_n 0, 1) := by decide +kernel
theorem dX10_apart_1 : decode cX10_apart 1 = .ok (.invokevirtual 199, 3) := by decide +kernel
theorem dX10_apart_4 : decode cX10_apart 4 = .ok (.ifCond .eq 6, 3) := by decide +kernel
theorem dX10_apart_7 : decode cX10_apart 7 = .ok (.bipush (-103), 2) := by decide +kernel
theorem dX10_apart_9 : decode cX10_apart 9 = .ok (.ireturn, 1) := by decide +kernel
theorem dX10_apart_10 : decode cX10_apart 10 = .ok (.aload_n 0, 1) := by decide +kernel
theorem dX10_apart_11 : decode cX10_apart 11 = .ok (.getfield 32, 3) := by decide +kernel
theorem dX10_apart_14 : decode cX10_apart 14 = .ok (.getfield 154, 3) := by decide +kernel
theorem dX10_apart_17 : decode cX10_apart 17 = .ok (.aload_n 0, 1) := by decide +kernel
theorem dX10_apart_18 : decode cX10_apart 18 = .ok (.getfield 32, 3) := by decide +kernel
theorem dX10_apart_21 : decode cX10_apart 21 = .ok (.getfield 217, 3) := by decide +kernel
theorem dX10_apart_24 : decode cX10_apart 24 = .ok (.invokestatic 220, 3) := by decide +kernel
theorem dX10_apart_27 : decode cX10_apart 27 = .ok (.ireturn, 1) := by decide +kernel
theorem dX10_near_0 : decode cX10_near 0 = .ok (.aload_n 0, 1) := by decide +kernel
theorem dX10_near_1 : decode cX10_near 1 = .ok (.invokevirtual 188, 3) := by decide +kernel
theorem dX10_near_4 : decode cX10_near 4 = .ok (.ifCond .ne 10, 3) := by decide +kernel
theorem dX10_near_7 : decode cX10_near 7 = .ok (.aload_n 0, 1) := by decide +kernel
theorem dX10_near_8 : decode cX10_near 8 = .ok (.invokevirtual 199, 3) := by decide +kernel
theorem dX10_near_11 : decode cX10_near 11 = .ok (.ifCond .eq 6, 3) := by decide +kernel
theorem dX10_near_14 : decode cX10_near 14 = .ok (.bipush (-103), 2) := by decide +kernel
theorem dX10_near_16 : decode cX10_near 16 = .ok (.ireturn, 1) := by decide +kernel
theorem dX10_near_17 : decode cX10_near 17 = .ok (.aload_n 0, 1) := by decide +kernel
theorem dX10_near_18 : decode cX10_near 18 = .ok (.getfield 19, 3) := by decide +kernel
theorem dX10_near_21 : decode cX10_near 21 = .ok (.invokevirtual 224, 3) := by decide +kernel
theorem dX10_near_24 : decode cX10_near 24 = .ok (.ireturn, 1) := by decide +kernel
theorem dX10_see_0 : decode cX10_see 0 = .ok (.aload_n 0, 1) := by decide +kernel
theorem dX10_see_1 : decode cX10_see 1 = .ok (.getfield 27, 3) := by decide +kernel
theorem dX10_see_4 : decode cX10_see 4 = .ok (.iload_n 1, 1) := by decide +kernel
theorem dX10_see_5 : decode cX10_see 5 = .ok (.invokevirtual 104, 3) := by decide +kernel
theorem dX10_see_8 : decode cX10_see 8 = .ok (.ifnonnull 6, 3) := by decide +kernel
theorem dX10_see_11 : decode cX10_see 11 = .ok (.bipush (-101), 2) := by decide +kernel
theorem dX10_see_13 : decode cX10_see 13 = .ok (.ireturn, 1) := by decide +kernel
theorem dX10_see_14 : decode cX10_see 14 = .ok (.iload_n 2, 1) := by decide +kernel
theorem dX10_see_15 : decode cX10_see 15 = .ok (.invokestatic 146, 3) := by decide +kernel
theorem dX10_see_18 : decode cX10_see 18 = .ok (.ifCond .eq 10, 3) := by decide +kernel
theorem dX10_see_21 : decode cX10_see 21 = .ok (.iload_n 3, 1) := by decide +kernel
theorem dX10_see_22 : decode cX10_see 22 = .ok (.invokestatic 146, 3) := by decide +kernel
theorem dX10_see_25 : decode cX10_see 25 = .ok (.ifCond .ne 6, 3) := by decide +kernel
theorem dX10_see_28 : decode cX10_see 28 = .ok (.bipush (-102), 2) := by decide +kernel
theorem dX10_see_30 : decode cX10_see 30 = .ok (.ireturn, 1) := by decide +kernel
theorem dX10_see_31 : decode cX10_see 31 = .ok (.aload_n 0, 1) := by decide +kernel
theorem dX10_see_32 : decode cX10_see 32 = .ok (.getfield 32, 3) := by decide +kernel
theorem dX10_see_35 : decode cX10_see 35 = .ok (.getfield 227, 3) := by decide +kernel
theorem dX10_see_38 : decode cX10_see 38 = .ok (.bipush 6, 2) := by decide +kernel
theorem dX10_see_40 : decode cX10_see 40 = .ok (.if_icmp .lt 6, 3) := by decide +kernel
theorem dX10_see_43 : decode cX10_see 43 = .ok (.bipush (-104), 2) := by decide +kernel
theorem dX10_see_45 : decode cX10_see 45 = .ok (.ireturn, 1) := by decide +kernel
theorem dX10_see_46 : decode cX10_see 46 = .ok (.aload_n 0, 1) := by decide +kernel
theorem dX10_see_47 : decode cX10_see 47 = .ok (.getfield 32, 3) := by decide +kernel
theorem dX10_see_50 : decode cX10_see 50 = .ok (.iload_n 1, 1) := by decide +kernel
theorem dX10_see_51 : decode cX10_see 51 = .ok (.iload_n 2, 1) := by decide +kernel
theorem dX10_see_52 : decode cX10_see 52 = .ok (.iload_n 3, 1) := by decide +kernel
theorem dX10_see_53 : decode cX10_see 53 = .ok (.invokevirtual 230, 3) := by decide +kernel
theorem dX10_see_56 : decode cX10_see 56 = .ok (.aload_n 0, 1) := by decide +kernel
theorem dX10_see_57 : decode cX10_see 57 = .ok (.getfield 32, 3) := by decide +kernel
theorem dX10_see_60 : decode cX10_see 60 = .ok (.getfield 227, 3) := by decide +kernel
theorem dX10_see_63 : decode cX10_see 63 = .ok (.ireturn, 1) := by decide +kernel
theorem dX10_forget_0 : decode cX10_forget 0 = .ok (.aload_n 0, 1) := by decide +kernel
theorem dX10_forget_1 : decode cX10_forget 1 = .ok (.getfield 32, 3) := by decide +kernel
theorem dX10_forget_4 : decode cX10_forget 4 = .ok (.getfield 227, 3) := by decide +kernel
theorem dX10_forget_7 : decode cX10_forget 7 = .ok (.istore_n 1, 1) := by decide +kernel
theorem dX10_forget_8 : decode cX10_forget 8 = .ok (.aload_n 0, 1) := by decide +kernel
theorem dX10_forget_9 : decode cX10_forget 9 = .ok (.getfield 32, 3) := by decide +kernel
theorem dX10_forget_12 : decode cX10_forget 12 = .ok (.iconst 0, 1) := by decide +kernel
theorem dX10_forget_13 : decode cX10_forget 13 = .ok (.putfield 227, 3) := by decide +kernel
theorem dX10_forget_16 : decode cX10_forget 16 = .ok (.iload_n 1, 1) := by decide +kernel
theorem dX10_forget_17 : decode cX10_forget 17 = .ok (.ireturn, 1) := by decide +kernel
theorem dX10_wander_0 : decode cX10_wander 0 = .ok (.iload_n 1, 1) := by decide +kernel
theorem dX10_wander_1 : decode cX10_wander 1 = .ok (.iconst 1, 1) := by decide +kernel
theorem dX10_wander_2 : decode cX10_wander 2 = .ok (.if_icmp .lt 22, 3) := by decide +kernel
theorem dX10_wander_5 : decode cX10_wander 5 = .ok (.iload_n 1, 1) := by decide +kernel
theorem dX10_wander_6 : decode cX10_wander 6 = .ok (.bipush 60, 2) := by decide +kernel
theorem dX10_wander_8 : decode cX10_wander 8 = .ok (.if_icmp .gt 16, 3) := by decide +kernel
theorem dX10_wander_11 : decode cX10_wander 11 = .ok (.iload_n 2, 1) := by decide +kernel
theorem dX10_wander_12 : decode cX10_wander 12 = .ok (.ifCond .lt 12, 3) := by decide +kernel
theorem dX10_wander_15 : decode cX10_wander 15 = .ok (.iload_n 3, 1) := by decide +kernel
theorem dX10_wander_16 : decode cX10_wander 16 = .ok (.ifCond .lt 8, 3) := by decide +kernel
theorem dX10_wander_19 : decode cX10_wander 19 = .ok (.iload_n 3, 1) := by decide +kernel
theorem dX10_wander_20 : decode cX10_wander 20 = .ok (.iconst 2, 1) := by decide +kernel
theorem dX10_wander_21 : decode cX10_wander 21 = .ok (.if_icmp .le 6, 3) := by decide +kernel
theorem dX10_wander_24 : decode cX10_wander 24 = .ok (.bipush (-102), 2) := by decide +kernel
theorem dX10_wander_26 : decode cX10_wander 26 = .ok (.ireturn, 1) := by decide +kernel
theorem dX10_wander_27 : decode cX10_wander 27 = .ok (.aload_n 0, 1) := by decide +kernel
theorem dX10_wander_28 : decode cX10_wander 28 = .ok (.invokevirtual 188, 3) := by decide +kernel
theorem dX10_wander_31 : decode cX10_wander 31 = .ok (.ifCond .ne 10, 3) := by decide +kernel
theorem dX10_wander_34 : decode cX10_wander 34 = .ok (.aload_n 0, 1) := by decide +kernel
theorem dX10_wander_35 : decode cX10_wander 35 = .ok (.invokevirtual 199, 3) := by decide +kernel
theorem dX10_wander_38 : decode cX10_wander 38 = .ok (.ifCond .eq 6, 3) := by decide +kernel
theorem dX10_wander_41 : decode cX10_wander 41 = .ok (.bipush (-103), 2) := by decide +kernel
theorem dX10_wander_43 : decode cX10_wander 43 = .ok (.ireturn, 1) := by decide +kernel
theorem dX10_wander_44 : decode cX10_wander 44 = .ok (.aload_n 0, 1) := by decide +kernel
theorem dX10_wander_45 : decode cX10_wander 45 = .ok (.getfield 19, 3) := by decide +kernel
theorem dX10_wander_48 : decode cX10_wander 48 = .ok (.iload_n 1, 1) := by decide +kernel
theorem dX10_wander_49 : decode cX10_wander 49 = .ok (.iload_n 2, 1) := by decide +kernel
theorem dX10_wander_50 : decode cX10_wander 50 = .ok (.invokevirtual 234, 3) := by decide +kernel
theorem dX10_wander_53 : decode cX10_wander 53 = .ok (.iload_n 3, 1) := by decide +kernel
theorem dX10_wander_54 : decode cX10_wander 54 = .ok (.ifCond .ne 11, 3) := by decide +kernel
theorem dX10_wander_57 : decode cX10_wander 57 = .ok (.aload_n 0, 1) := by decide +kernel
theorem dX10_wander_58 : decode cX10_wander 58 = .ok (.getfield 19, 3) := by decide +kernel
theorem dX10_wander_61 : decode cX10_wander 61 = .ok (.getfield 237, 3) := by decide +kernel
theorem dX10_wander_64 : decode cX10_wander 64 = .ok (.ireturn, 1) := by decide +kernel
theorem dX10_wander_65 : decode cX10_wander 65 = .ok (.iload_n 3, 1) := by decide +kernel
theorem dX10_wander_66 : decode cX10_wander 66 = .ok (.iconst 1, 1) := by decide +kernel
theorem dX10_wander_67 : decode cX10_wander 67 = .ok (.if_icmp .ne 13, 3) := by decide +kernel
theorem dX10_wander_70 : decode cX10_wander 70 = .ok (.aload_n 0, 1) := by decide +kernel
theorem dX10_wander_71 : decode cX10_wander 71 = .ok (.getfield 19, 3) := by decide +kernel
theorem dX10_wander_74 : decode cX10_wander 74 = .ok (.getfield 240, 3) := by decide +kernel
theorem dX10_wander_77 : decode cX10_wander 77 = .ok (.goto 11, 3) := by decide +kernel
theorem dX10_wander_80 : decode cX10_wander 80 = .ok (.aload_n 0, 1) := by decide +kernel
theorem dX10_wander_81 : decode cX10_wander 81 = .ok (.getfield 19, 3) := by decide +kernel
theorem dX10_wander_84 : decode cX10_wander 84 = .ok (.getfield 243, 3) := by decide +kernel
theorem dX10_wander_87 : decode cX10_wander 87 = .ok (.l2i, 1) := by decide +kernel
theorem dX10_wander_88 : decode cX10_wander 88 = .ok (.ireturn, 1) := by decide +kernel
theorem dX10_image_0 : decode cX10_image 0 = .ok (.aload_n 0, 1) := by decide +kernel
theorem dX10_image_1 : decode cX10_image 1 = .ok (.invokevirtual 188, 3) := by decide +kernel
theorem dX10_image_4 : decode cX10_image 4 = .ok (.ifCond .eq 6, 3) := by decide +kernel
theorem dX10_image_7 : decode cX10_image 7 = .ok (.bipush (-103), 2) := by decide +kernel
theorem dX10_image_9 : decode cX10_image 9 = .ok (.ireturn, 1) := by decide +kernel
theorem dX10_image_10 : decode cX10_image 10 = .ok (.aload_n 0, 1) := by decide +kernel
theorem dX10_image_11 : decode cX10_image 11 = .ok (.getfield 36, 3) := by decide +kernel
theorem dX10_image_14 : decode cX10_image 14 = .ok (.aload_n 0, 1) := by decide +kernel
theorem dX10_image_15 : decode cX10_image 15 = .ok (.getfield 32, 3) := by decide +kernel
theorem dX10_image_18 : decode cX10_image 18 = .ok (.invokevirtual 246, 3) := by decide +kernel
theorem dX10_image_21 : decode cX10_image 21 = .ok (.aload_n 0, 1) := by decide +kernel
theorem dX10_image_22 : decode cX10_image 22 = .ok (.aload_n 0, 1) := by decide +kernel
theorem dX10_image_23 : decode cX10_image 23 = .ok (.getfield 68, 3) := by decide +kernel
theorem dX10_image_26 : decode cX10_image 26 = .ok (.putfield 250, 3) := by decide +kernel
theorem dX10_image_29 : decode cX10_image 29 = .ok (.aload_n 0, 1) := by decide +kernel
theorem dX10_image_30 : decode cX10_image 30 = .ok (.getfield 32, 3) := by decide +kernel
theorem dX10_image_33 : decode cX10_image 33 = .ok (.getfield 172, 3) := by decide +kernel
theorem dX10_image_36 : decode cX10_image 36 = .ok (.ireturn, 1) := by decide +kernel
theorem dX10_restore_0 : decode cX10_restore 0 = .ok (.aload_n 0, 1) := by decide +kernel
theorem dX10_restore_1 : decode cX10_restore 1 = .ok (.getfield 250, 3) := by decide +kernel
theorem dX10_restore_4 : decode cX10_restore 4 = .ok (.ifCond .eq 14, 3) := by decide +kernel
theorem dX10_restore_7 : decode cX10_restore 7 = .ok (.aload_n 0, 1) := by decide +kernel
theorem dX10_restore_8 : decode cX10_restore 8 = .ok (.getfield 250, 3) := by decide +kernel
theorem dX10_restore_11 : decode cX10_restore 11 = .ok (.aload_n 0, 1) := by decide +kernel
theorem dX10_restore_12 : decode cX10_restore 12 = .ok (.getfield 68, 3) := by decide +kernel
theorem dX10_restore_15 : decode cX10_restore 15 = .ok (.if_icmp .eq 6, 3) := by decide +kernel
theorem dX10_restore_18 : decode cX10_restore 18 = .ok (.bipush (-103), 2) := by decide +kernel
theorem dX10_restore_20 : decode cX10_restore 20 = .ok (.ireturn, 1) := by decide +kernel
theorem dX10_restore_21 : decode cX10_restore 21 = .ok (.aload_n 0, 1) := by decide +kernel
theorem dX10_restore_22 : decode cX10_restore 22 = .ok (.getfield 32, 3) := by decide +kernel
theorem dX10_restore_25 : decode cX10_restore 25 = .ok (.aload_n 0, 1) := by decide +kernel
theorem dX10_restore_26 : decode cX10_restore 26 = .ok (.getfield 36, 3) := by decide +kernel
theorem dX10_restore_29 : decode cX10_restore 29 = .ok (.invokevirtual 246, 3) := by decide +kernel
theorem dX10_restore_32 : decode cX10_restore 32 = .ok (.aload_n 0, 1) := by decide +kernel
theorem dX10_restore_33 : decode cX10_restore 33 = .ok (.getfield 32, 3) := by decide +kernel
theorem dX10_restore_36 : decode cX10_restore 36 = .ok (.getfield 172, 3) := by decide +kernel
theorem dX10_restore_39 : decode cX10_restore 39 = .ok (.ireturn, 1) := by decide +kernel
theorem dX10_count_0 : decode cX10_count 0 = .ok (.iload_n 1, 1) := by decide +kernel
theorem dX10_count_1 : decode cX10_count 1 = .ok (.tableswitch 202 0 12 #[67, 75, 83, 91, 107, 122, 146, 154, 165, 176, 184, 192, 197], 67) := by decide +kernel
theorem dX10_count_68 : decode cX10_count 68 = .ok (.aload_n 0, 1) := by decide +kernel
theorem dX10_count_69 : decode cX10_count 69 = .ok (.getfield 27, 3) := by decide +kernel
theorem dX10_count_72 : decode cX10_count 72 = .ok (.getfield 185, 3) := by decide +kernel
theorem dX10_count_75 : decode cX10_count 75 = .ok (.ireturn, 1) := by decide +kernel
theorem dX10_count_76 : decode cX10_count 76 = .ok (.aload_n 0, 1) := by decide +kernel
theorem dX10_count_77 : decode cX10_count 77 = .ok (.getfield 27, 3) := by decide +kernel
theorem dX10_count_80 : decode cX10_count 80 = .ok (.getfield 61, 3) := by decide +kernel
theorem dX10_count_83 : decode cX10_count 83 = .ok (.ireturn, 1) := by decide +kernel
theorem dX10_count_84 : decode cX10_count 84 = .ok (.aload_n 0, 1) := by decide +kernel
theorem dX10_count_85 : decode cX10_count 85 = .ok (.getfield 32, 3) := by decide +kernel
theorem dX10_count_88 : decode cX10_count 88 = .ok (.getfield 158, 3) := by decide +kernel
theorem dX10_count_91 : decode cX10_count 91 = .ok (.ireturn, 1) := by decide +kernel
theorem dX10_count_92 : decode cX10_count 92 = .ok (.aload_n 0, 1) := by decide +kernel
theorem dX10_count_93 : decode cX10_count 93 = .ok (.getfield 32, 3) := by decide +kernel
theorem dX10_count_96 : decode cX10_count 96 = .ok (.getfield 164, 3) := by decide +kernel
theorem dX10_count_99 : decode cX10_count 99 = .ok (.ifCond .eq 7, 3) := by decide +kernel
theorem dX10_count_102 : decode cX10_count 102 = .ok (.iconst 1, 1) := by decide +kernel
theorem dX10_count_103 : decode cX10_count 103 = .ok (.goto 4, 3) := by decide +kernel
theorem dX10_count_106 : decode cX10_count 106 = .ok (.iconst 0, 1) := by decide +kernel
theorem dX10_count_107 : decode cX10_count 107 = .ok (.ireturn, 1) := by decide +kernel
theorem dX10_count_108 : decode cX10_count 108 = .ok (.aload_n 0, 1) := by decide +kernel
theorem dX10_count_109 : decode cX10_count 109 = .ok (.getfield 27, 3) := by decide +kernel
theorem dX10_count_112 : decode cX10_count 112 = .ok (.aload_n 0, 1) := by decide +kernel
theorem dX10_count_113 : decode cX10_count 113 = .ok (.getfield 32, 3) := by decide +kernel
theorem dX10_count_116 : decode cX10_count 116 = .ok (.getfield 158, 3) := by decide +kernel
theorem dX10_count_119 : decode cX10_count 119 = .ok (.invokevirtual 253, 3) := by decide +kernel
theorem dX10_count_122 : decode cX10_count 122 = .ok (.ireturn, 1) := by decide +kernel
theorem dX10_count_123 : decode cX10_count 123 = .ok (.aload_n 0, 1) := by decide +kernel
theorem dX10_count_124 : decode cX10_count 124 = .ok (.getfield 32, 3) := by decide +kernel
theorem dX10_count_127 : decode cX10_count 127 = .ok (.getfield 154, 3) := by decide +kernel
theorem dX10_count_130 : decode cX10_count 130 = .ok (.lconst 0, 1) := by decide +kernel
theorem dX10_count_131 : decode cX10_count 131 = .ok (.lcmp, 1) := by decide +kernel
theorem dX10_count_132 : decode cX10_count 132 = .ok (.ifCond .ne 7, 3) := by decide +kernel
theorem dX10_count_135 : decode cX10_count 135 = .ok (.iconst 0, 1) := by decide +kernel
theorem dX10_count_136 : decode cX10_count 136 = .ok (.goto 10, 3) := by decide +kernel
theorem dX10_count_139 : decode cX10_count 139 = .ok (.aload_n 0, 1) := by decide +kernel
theorem dX10_count_140 : decode cX10_count 140 = .ok (.getfield 19, 3) := by decide +kernel
theorem dX10_count_143 : decode cX10_count 143 = .ok (.invokevirtual 256, 3) := by decide +kernel
theorem dX10_count_146 : decode cX10_count 146 = .ok (.ireturn, 1) := by decide +kernel
theorem dX10_count_147 : decode cX10_count 147 = .ok (.aload_n 0, 1) := by decide +kernel
theorem dX10_count_148 : decode cX10_count 148 = .ok (.getfield 32, 3) := by decide +kernel
theorem dX10_count_151 : decode cX10_count 151 = .ok (.getfield 172, 3) := by decide +kernel
theorem dX10_count_154 : decode cX10_count 154 = .ok (.ireturn, 1) := by decide +kernel
theorem dX10_count_155 : decode cX10_count 155 = .ok (.aload_n 0, 1) := by decide +kernel
theorem dX10_count_156 : decode cX10_count 156 = .ok (.getfield 32, 3) := by decide +kernel
theorem dX10_count_159 : decode cX10_count 159 = .ok (.getfield 154, 3) := by decide +kernel
theorem dX10_count_162 : decode cX10_count 162 = .ok (.invokestatic 79, 3) := by decide +kernel
theorem dX10_count_165 : decode cX10_count 165 = .ok (.ireturn, 1) := by decide +kernel
theorem dX10_count_166 : decode cX10_count 166 = .ok (.aload_n 0, 1) := by decide +kernel
theorem dX10_count_167 : decode cX10_count 167 = .ok (.getfield 32, 3) := by decide +kernel
theorem dX10_count_170 : decode cX10_count 170 = .ok (.getfield 217, 3) := by decide +kernel
theorem dX10_count_173 : decode cX10_count 173 = .ok (.invokestatic 79, 3) := by decide +kernel
theorem dX10_count_176 : decode cX10_count 176 = .ok (.ireturn, 1) := by decide +kernel
theorem dX10_count_177 : decode cX10_count 177 = .ok (.aload_n 0, 1) := by decide +kernel
theorem dX10_count_178 : decode cX10_count 178 = .ok (.getfield 32, 3) := by decide +kernel
theorem dX10_count_181 : decode cX10_count 181 = .ok (.getfield 227, 3) := by decide +kernel
theorem dX10_count_184 : decode cX10_count 184 = .ok (.ireturn, 1) := by decide +kernel
theorem dX10_count_185 : decode cX10_count 185 = .ok (.aload_n 0, 1) := by decide +kernel
theorem dX10_count_186 : decode cX10_count 186 = .ok (.getfield 10, 3) := by decide +kernel
theorem dX10_count_189 : decode cX10_count 189 = .ok (.getfield 39, 3) := by decide +kernel
theorem dX10_count_192 : decode cX10_count 192 = .ok (.ireturn, 1) := by decide +kernel
theorem dX10_count_193 : decode cX10_count 193 = .ok (.aload_n 0, 1) := by decide +kernel
theorem dX10_count_194 : decode cX10_count 194 = .ok (.getfield 68, 3) := by decide +kernel
theorem dX10_count_197 : decode cX10_count 197 = .ok (.ireturn, 1) := by decide +kernel
theorem dX10_count_198 : decode cX10_count 198 = .ok (.aload_n 0, 1) := by decide +kernel
theorem dX10_count_199 : decode cX10_count 199 = .ok (.getfield 202, 3) := by decide +kernel
theorem dX10_count_202 : decode cX10_count 202 = .ok (.ireturn, 1) := by decide +kernel
theorem dX10_count_203 : decode cX10_count 203 = .ok (.bipush (-102), 2) := by decide +kernel
theorem dX10_count_205 : decode cX10_count 205 = .ok (.ireturn, 1) := by decide +kernel
theorem dX10_digest_0 : decode cX10_digest 0 = .ok (.ldc2_w 259, 3) := by decide +kernel
theorem dX10_digest_3 : decode cX10_digest 3 = .ok (.lstore_n 1, 1) := by decide +kernel
theorem dX10_digest_4 : decode cX10_digest 4 = .ok (.iconst 0, 1) := by decide +kernel
theorem dX10_digest_5 : decode cX10_digest 5 = .ok (.istore_n 3, 1) := by decide +kernel
theorem dX10_digest_6 : decode cX10_digest 6 = .ok (.iload_n 3, 1) := by decide +kernel
theorem dX10_digest_7 : decode cX10_digest 7 = .ok (.aload_n 0, 1) := by decide +kernel
theorem dX10_digest_8 : decode cX10_digest 8 = .ok (.getfield 27, 3) := by decide +kernel
theorem dX10_digest_11 : decode cX10_digest 11 = .ok (.getfield 61, 3) := by decide +kernel
theorem dX10_digest_14 : decode cX10_digest 14 = .ok (.if_icmp .ge 65, 3) := by decide +kernel
theorem dX10_digest_17 : decode cX10_digest 17 = .ok (.iconst 0, 1) := by decide +kernel
theorem dX10_digest_18 : decode cX10_digest 18 = .ok (.istore 4, 2) := by decide +kernel
theorem dX10_digest_20 : decode cX10_digest 20 = .ok (.iload 4, 2) := by decide +kernel
theorem dX10_digest_22 : decode cX10_digest 22 = .ok (.bipush 8, 2) := by decide +kernel
theorem dX10_digest_24 : decode cX10_digest 24 = .ok (.if_icmp .gt 21, 3) := by decide +kernel
theorem dX10_digest_27 : decode cX10_digest 27 = .ok (.lload_n 1, 1) := by decide +kernel
theorem dX10_digest_28 : decode cX10_digest 28 = .ok (.aload_n 0, 1) := by decide +kernel
theorem dX10_digest_29 : decode cX10_digest 29 = .ok (.iload_n 3, 1) := by decide +kernel
theorem dX10_digest_30 : decode cX10_digest 30 = .ok (.iload 4, 2) := by decide +kernel
theorem dX10_digest_32 : decode cX10_digest 32 = .ok (.invokevirtual 261, 3) := by decide +kernel
theorem dX10_digest_35 : decode cX10_digest 35 = .ok (.invokestatic 264, 3) := by decide +kernel
theorem dX10_digest_38 : decode cX10_digest 38 = .ok (.lstore_n 1, 1) := by decide +kernel
theorem dX10_digest_39 : decode cX10_digest 39 = .ok (.iinc 4 1, 3) := by decide +kernel
theorem dX10_digest_42 : decode cX10_digest 42 = .ok (.goto (-22), 3) := by decide +kernel
theorem dX10_digest_45 : decode cX10_digest 45 = .ok (.iconst 0, 1) := by decide +kernel
theorem dX10_digest_46 : decode cX10_digest 46 = .ok (.istore 4, 2) := by decide +kernel
theorem dX10_digest_48 : decode cX10_digest 48 = .ok (.iload 4, 2) := by decide +kernel
theorem dX10_digest_50 : decode cX10_digest 50 = .ok (.bipush 12, 2) := by decide +kernel
theorem dX10_digest_52 : decode cX10_digest 52 = .ok (.if_icmp .ge 21, 3) := by decide +kernel
theorem dX10_digest_55 : decode cX10_digest 55 = .ok (.lload_n 1, 1) := by decide +kernel
theorem dX10_digest_56 : decode cX10_digest 56 = .ok (.aload_n 0, 1) := by decide +kernel
theorem dX10_digest_57 : decode cX10_digest 57 = .ok (.iload_n 3, 1) := by decide +kernel
theorem dX10_digest_58 : decode cX10_digest 58 = .ok (.iload 4, 2) := by decide +kernel
theorem dX10_digest_60 : decode cX10_digest 60 = .ok (.invokevirtual 267, 3) := by decide +kernel
theorem dX10_digest_63 : decode cX10_digest 63 = .ok (.invokestatic 264, 3) := by decide +kernel
theorem dX10_digest_66 : decode cX10_digest 66 = .ok (.lstore_n 1, 1) := by decide +kernel
theorem dX10_digest_67 : decode cX10_digest 67 = .ok (.iinc 4 1, 3) := by decide +kernel
theorem dX10_digest_70 : decode cX10_digest 70 = .ok (.goto (-22), 3) := by decide +kernel
theorem dX10_digest_73 : decode cX10_digest 73 = .ok (.iinc 3 1, 3) := by decide +kernel
theorem dX10_digest_76 : decode cX10_digest 76 = .ok (.goto (-70), 3) := by decide +kernel
theorem dX10_digest_79 : decode cX10_digest 79 = .ok (.iconst 0, 1) := by decide +kernel
theorem dX10_digest_80 : decode cX10_digest 80 = .ok (.istore_n 3, 1) := by decide +kernel
theorem dX10_digest_81 : decode cX10_digest 81 = .ok (.iload_n 3, 1) := by decide +kernel
theorem dX10_digest_82 : decode cX10_digest 82 = .ok (.iconst 1, 1) := by decide +kernel
theorem dX10_digest_83 : decode cX10_digest 83 = .ok (.if_icmp .gt 16, 3) := by decide +kernel
theorem dX10_digest_86 : decode cX10_digest 86 = .ok (.aload_n 0, 1) := by decide +kernel
theorem dX10_digest_87 : decode cX10_digest 87 = .ok (.lload_n 1, 1) := by decide +kernel
theorem dX10_digest_88 : decode cX10_digest 88 = .ok (.iload_n 3, 1) := by decide +kernel
theorem dX10_digest_89 : decode cX10_digest 89 = .ok (.invokevirtual 270, 3) := by decide +kernel
theorem dX10_digest_92 : decode cX10_digest 92 = .ok (.lstore_n 1, 1) := by decide +kernel
theorem dX10_digest_93 : decode cX10_digest 93 = .ok (.iinc 3 1, 3) := by decide +kernel
theorem dX10_digest_96 : decode cX10_digest 96 = .ok (.goto (-15), 3) := by decide +kernel
theorem dX10_digest_99 : decode cX10_digest 99 = .ok (.aload_n 0, 1) := by decide +kernel
theorem dX10_digest_100 : decode cX10_digest 100 = .ok (.invokevirtual 188, 3) := by decide +kernel
theorem dX10_digest_103 : decode cX10_digest 103 = .ok (.ifCond .ne 29, 3) := by decide +kernel
theorem dX10_digest_106 : decode cX10_digest 106 = .ok (.aload_n 0, 1) := by decide +kernel
theorem dX10_digest_107 : decode cX10_digest 107 = .ok (.invokevirtual 199, 3) := by decide +kernel
theorem dX10_digest_110 : decode cX10_digest 110 = .ok (.ifCond .ne 22, 3) := by decide +kernel
theorem dX10_digest_113 : decode cX10_digest 113 = .ok (.lload_n 1, 1) := by decide +kernel
theorem dX10_digest_114 : decode cX10_digest 114 = .ok (.aload_n 0, 1) := by decide +kernel
theorem dX10_digest_115 : decode cX10_digest 115 = .ok (.iconst 2, 1) := by decide +kernel
theorem dX10_digest_116 : decode cX10_digest 116 = .ok (.invokevirtual 273, 3) := by decide +kernel
theorem dX10_digest_119 : decode cX10_digest 119 = .ok (.invokestatic 264, 3) := by decide +kernel
theorem dX10_digest_122 : decode cX10_digest 122 = .ok (.lstore_n 1, 1) := by decide +kernel
theorem dX10_digest_123 : decode cX10_digest 123 = .ok (.lload_n 1, 1) := by decide +kernel
theorem dX10_digest_124 : decode cX10_digest 124 = .ok (.aload_n 0, 1) := by decide +kernel
theorem dX10_digest_125 : decode cX10_digest 125 = .ok (.invokevirtual 276, 3) := by decide +kernel
theorem dX10_digest_128 : decode cX10_digest 128 = .ok (.invokestatic 264, 3) := by decide +kernel
theorem dX10_digest_131 : decode cX10_digest 131 = .ok (.lstore_n 1, 1) := by decide +kernel
theorem dX10_digest_132 : decode cX10_digest 132 = .ok (.iconst 0, 1) := by decide +kernel
theorem dX10_digest_133 : decode cX10_digest 133 = .ok (.istore_n 3, 1) := by decide +kernel
theorem dX10_digest_134 : decode cX10_digest 134 = .ok (.iload_n 3, 1) := by decide +kernel
theorem dX10_digest_135 : decode cX10_digest 135 = .ok (.aload_n 0, 1) := by decide +kernel
theorem dX10_digest_136 : decode cX10_digest 136 = .ok (.getfield 10, 3) := by decide +kernel
theorem dX10_digest_139 : decode cX10_digest 139 = .ok (.getfield 39, 3) := by decide +kernel
theorem dX10_digest_142 : decode cX10_digest 142 = .ok (.if_icmp .ge 22, 3) := by decide +kernel
theorem dX10_digest_145 : decode cX10_digest 145 = .ok (.lload_n 1, 1) := by decide +kernel
theorem dX10_digest_146 : decode cX10_digest 146 = .ok (.aload_n 0, 1) := by decide +kernel
theorem dX10_digest_147 : decode cX10_digest 147 = .ok (.getfield 10, 3) := by decide +kernel
theorem dX10_digest_150 : decode cX10_digest 150 = .ok (.iload_n 3, 1) := by decide +kernel
theorem dX10_digest_151 : decode cX10_digest 151 = .ok (.invokevirtual 279, 3) := by decide +kernel
theorem dX10_digest_154 : decode cX10_digest 154 = .ok (.invokestatic 264, 3) := by decide +kernel
theorem dX10_digest_157 : decode cX10_digest 157 = .ok (.lstore_n 1, 1) := by decide +kernel
theorem dX10_digest_158 : decode cX10_digest 158 = .ok (.iinc 3 1, 3) := by decide +kernel
theorem dX10_digest_161 : decode cX10_digest 161 = .ok (.goto (-27), 3) := by decide +kernel
theorem dX10_digest_164 : decode cX10_digest 164 = .ok (.iconst 0, 1) := by decide +kernel
theorem dX10_digest_165 : decode cX10_digest 165 = .ok (.istore_n 3, 1) := by decide +kernel
theorem dX10_digest_166 : decode cX10_digest 166 = .ok (.iload_n 3, 1) := by decide +kernel
theorem dX10_digest_167 : decode cX10_digest 167 = .ok (.bipush 12, 2) := by decide +kernel
theorem dX10_digest_169 : decode cX10_digest 169 = .ok (.if_icmp .gt 19, 3) := by decide +kernel
theorem dX10_digest_172 : decode cX10_digest 172 = .ok (.lload_n 1, 1) := by decide +kernel
theorem dX10_digest_173 : decode cX10_digest 173 = .ok (.aload_n 0, 1) := by decide +kernel
theorem dX10_digest_174 : decode cX10_digest 174 = .ok (.iload_n 3, 1) := by decide +kernel
theorem dX10_digest_175 : decode cX10_digest 175 = .ok (.invokevirtual 281, 3) := by decide +kernel
theorem dX10_digest_178 : decode cX10_digest 178 = .ok (.invokestatic 264, 3) := by decide +kernel
theorem dX10_digest_181 : decode cX10_digest 181 = .ok (.lstore_n 1, 1) := by decide +kernel
theorem dX10_digest_182 : decode cX10_digest 182 = .ok (.iinc 3 1, 3) := by decide +kernel
theorem dX10_digest_185 : decode cX10_digest 185 = .ok (.goto (-19), 3) := by decide +kernel
theorem dX10_digest_188 : decode cX10_digest 188 = .ok (.lload_n 1, 1) := by decide +kernel
theorem dX10_digest_189 : decode cX10_digest 189 = .ok (.lreturn, 1) := by decide +kernel
theorem dX10_digestTune_0 : decode cX10_digestTune 0 = .ok (.aload_n 0, 1) := by decide +kernel
theorem dX10_digestTune_1 : decode cX10_digestTune 1 = .ok (.getfield 32, 3) := by decide +kernel
theorem dX10_digestTune_4 : decode cX10_digestTune 4 = .ok (.iload_n 3, 1) := by decide +kernel
theorem dX10_digestTune_5 : decode cX10_digestTune 5 = .ok (.invokevirtual 84, 3) := by decide +kernel
theorem dX10_digestTune_8 : decode cX10_digestTune 8 = .ok (.lconst 0, 1) := by decide +kernel
theorem dX10_digestTune_9 : decode cX10_digestTune 9 = .ok (.lcmp, 1) := by decide +kernel
theorem dX10_digestTune_10 : decode cX10_digestTune 10 = .ok (.ifCond .ne 5, 3) := by decide +kernel
theorem dX10_digestTune_13 : decode cX10_digestTune 13 = .ok (.lload_n 1, 1) := by decide +kernel
theorem dX10_digestTune_14 : decode cX10_digestTune 14 = .ok (.lreturn, 1) := by decide +kernel
theorem dX10_digestTune_15 : decode cX10_digestTune 15 = .ok (.lload_n 1, 1) := by decide +kernel
theorem dX10_digestTune_16 : decode cX10_digestTune 16 = .ok (.lstore 4, 2) := by decide +kernel
theorem dX10_digestTune_18 : decode cX10_digestTune 18 = .ok (.iconst 0, 1) := by decide +kernel
theorem dX10_digestTune_19 : decode cX10_digestTune 19 = .ok (.istore 6, 2) := by decide +kernel
theorem dX10_digestTune_21 : decode cX10_digestTune 21 = .ok (.iload 6, 2) := by decide +kernel
theorem dX10_digestTune_23 : decode cX10_digestTune 23 = .ok (.iconst 4, 1) := by decide +kernel
theorem dX10_digestTune_24 : decode cX10_digestTune 24 = .ok (.if_icmp .gt 23, 3) := by decide +kernel
theorem dX10_digestTune_27 : decode cX10_digestTune 27 = .ok (.lload 4, 2) := by decide +kernel
theorem dX10_digestTune_29 : decode cX10_digestTune 29 = .ok (.aload_n 0, 1) := by decide +kernel
theorem dX10_digestTune_30 : decode cX10_digestTune 30 = .ok (.iload_n 3, 1) := by decide +kernel
theorem dX10_digestTune_31 : decode cX10_digestTune 31 = .ok (.iload 6, 2) := by decide +kernel
theorem dX10_digestTune_33 : decode cX10_digestTune 33 = .ok (.invokevirtual 284, 3) := by decide +kernel
theorem dX10_digestTune_36 : decode cX10_digestTune 36 = .ok (.invokestatic 264, 3) := by decide +kernel
theorem dX10_digestTune_39 : decode cX10_digestTune 39 = .ok (.lstore 4, 2) := by decide +kernel
theorem dX10_digestTune_41 : decode cX10_digestTune 41 = .ok (.iinc 6 1, 3) := by decide +kernel
theorem dX10_digestTune_44 : decode cX10_digestTune 44 = .ok (.goto (-23), 3) := by decide +kernel
theorem dX10_digestTune_47 : decode cX10_digestTune 47 = .ok (.bipush 10, 2) := by decide +kernel
theorem dX10_digestTune_49 : decode cX10_digestTune 49 = .ok (.istore 6, 2) := by decide +kernel
theorem dX10_digestTune_51 : decode cX10_digestTune 51 = .ok (.iload 6, 2) := by decide +kernel
theorem dX10_digestTune_53 : decode cX10_digestTune 53 = .ok (.bipush 18, 2) := by decide +kernel
theorem dX10_digestTune_55 : decode cX10_digestTune 55 = .ok (.if_icmp .ge 23, 3) := by decide +kernel
theorem dX10_digestTune_58 : decode cX10_digestTune 58 = .ok (.lload 4, 2) := by decide +kernel
theorem dX10_digestTune_60 : decode cX10_digestTune 60 = .ok (.aload_n 0, 1) := by decide +kernel
theorem dX10_digestTune_61 : decode cX10_digestTune 61 = .ok (.iload_n 3, 1) := by decide +kernel
theorem dX10_digestTune_62 : decode cX10_digestTune 62 = .ok (.iload 6, 2) := by decide +kernel
theorem dX10_digestTune_64 : decode cX10_digestTune 64 = .ok (.invokevirtual 284, 3) := by decide +kernel
theorem dX10_digestTune_67 : decode cX10_digestTune 67 = .ok (.invokestatic 264, 3) := by decide +kernel
theorem dX10_digestTune_70 : decode cX10_digestTune 70 = .ok (.lstore 4, 2) := by decide +kernel
theorem dX10_digestTune_72 : decode cX10_digestTune 72 = .ok (.iinc 6 1, 3) := by decide +kernel
theorem dX10_digestTune_75 : decode cX10_digestTune 75 = .ok (.goto (-24), 3) := by decide +kernel
theorem dX10_digestTune_78 : decode cX10_digestTune 78 = .ok (.lload 4, 2) := by decide +kernel
theorem dX10_digestTune_80 : decode cX10_digestTune 80 = .ok (.lreturn, 1) := by decide +kernel
theorem dX10_mix_0 : decode cX10_mix 0 = .ok (.ldc2_w 287, 3) := by decide +kernel
theorem dX10_mix_3 : decode cX10_mix 3 = .ok (.lload_n 0, 1) := by decide +kernel
theorem dX10_mix_4 : decode cX10_mix 4 = .ok (.lmul, 1) := by decide +kernel
theorem dX10_mix_5 : decode cX10_mix 5 = .ok (.iload_n 2, 1) := by decide +kernel
theorem dX10_mix_6 : decode cX10_mix 6 = .ok (.i2l, 1) := by decide +kernel
theorem dX10_mix_7 : decode cX10_mix 7 = .ok (.ladd, 1) := by decide +kernel
theorem dX10_mix_8 : decode cX10_mix 8 = .ok (.lreturn, 1) := by decide +kernel
theorem dX10_noCity_0 : decode cX10_noCity 0 = .ok (.aload_n 0, 1) := by decide +kernel
theorem dX10_noCity_1 : decode cX10_noCity 1 = .ok (.getfield 27, 3) := by decide +kernel
theorem dX10_noCity_4 : decode cX10_noCity 4 = .ok (.getfield 61, 3) := by decide +kernel
theorem dX10_noCity_7 : decode cX10_noCity 7 = .ok (.ifCond .ne 7, 3) := by decide +kernel
theorem dX10_noCity_10 : decode cX10_noCity 10 = .ok (.iconst 1, 1) := by decide +kernel
theorem dX10_noCity_11 : decode cX10_noCity 11 = .ok (.goto 4, 3) := by decide +kernel
theorem dX10_noCity_14 : decode cX10_noCity 14 = .ok (.iconst 0, 1) := by decide +kernel
theorem dX10_noCity_15 : decode cX10_noCity 15 = .ok (.ireturn, 1) := by decide +kernel
theorem dX10_noTunes_0 : decode cX10_noTunes 0 = .ok (.aload_n 0, 1) := by decide +kernel
theorem dX10_noTunes_1 : decode cX10_noTunes 1 = .ok (.getfield 32, 3) := by decide +kernel
theorem dX10_noTunes_4 : decode cX10_noTunes 4 = .ok (.getfield 154, 3) := by decide +kernel
theorem dX10_noTunes_7 : decode cX10_noTunes 7 = .ok (.lconst 0, 1) := by decide +kernel
theorem dX10_noTunes_8 : decode cX10_noTunes 8 = .ok (.lcmp, 1) := by decide +kernel
theorem dX10_noTunes_9 : decode cX10_noTunes 9 = .ok (.ifCond .eq 15, 3) := by decide +kernel
theorem dX10_noTunes_12 : decode cX10_noTunes 12 = .ok (.aload_n 0, 1) := by decide +kernel
theorem dX10_noTunes_13 : decode cX10_noTunes 13 = .ok (.getfield 32, 3) := by decide +kernel
theorem dX10_noTunes_16 : decode cX10_noTunes 16 = .ok (.getfield 217, 3) := by decide +kernel
theorem dX10_noTunes_19 : decode cX10_noTunes 19 = .ok (.lconst 0, 1) := by decide +kernel
theorem dX10_noTunes_20 : decode cX10_noTunes 20 = .ok (.lcmp, 1) := by decide +kernel
theorem dX10_noTunes_21 : decode cX10_noTunes 21 = .ok (.ifCond .ne 7, 3) := by decide +kernel
theorem dX10_noTunes_24 : decode cX10_noTunes 24 = .ok (.iconst 1, 1) := by decide +kernel
theorem dX10_noTunes_25 : decode cX10_noTunes 25 = .ok (.goto 4, 3) := by decide +kernel
theorem dX10_noTunes_28 : decode cX10_noTunes 28 = .ok (.iconst 0, 1) := by decide +kernel
theorem dX10_noTunes_29 : decode cX10_noTunes 29 = .ok (.ireturn, 1) := by decide +kernel
theorem dX10_isNote_0 : decode cX10_isNote 0 = .ok (.iload_n 0, 1) := by decide +kernel
theorem dX10_isNote_1 : decode cX10_isNote 1 = .ok (.ifCond .lt 13, 3) := by decide +kernel
theorem dX10_isNote_4 : decode cX10_isNote 4 = .ok (.iload_n 0, 1) := by decide +kernel
theorem dX10_isNote_5 : decode cX10_isNote 5 = .ok (.bipush 12, 2) := by decide +kernel
theorem dX10_isNote_7 : decode cX10_isNote 7 = .ok (.if_icmp .ge 7, 3) := by decide +kernel
theorem dX10_isNote_10 : decode cX10_isNote 10 = .ok (.iconst 1, 1) := by decide +kernel
theorem dX10_isNote_11 : decode cX10_isNote 11 = .ok (.goto 4, 3) := by decide +kernel
theorem dX10_isNote_14 : decode cX10_isNote 14 = .ok (.iconst 0, 1) := by decide +kernel
theorem dX10_isNote_15 : decode cX10_isNote 15 = .ok (.ireturn, 1) := by decide +kernel
theorem dX10_leaves_0 : decode cX10_leaves 0 = .ok (.iconst 0, 1) := by decide +kernel
theorem dX10_leaves_1 : decode cX10_leaves 1 = .ok (.istore_n 2, 1) := by decide +kernel
theorem dX10_leaves_2 : decode cX10_leaves 2 = .ok (.iconst 0, 1) := by decide +kernel
theorem dX10_leaves_3 : decode cX10_leaves 3 = .ok (.istore_n 3, 1) := by decide +kernel
theorem dX10_leaves_4 : decode cX10_leaves 4 = .ok (.iload_n 3, 1) := by decide +kernel
theorem dX10_leaves_5 : decode cX10_leaves 5 = .ok (.bipush 12, 2) := by decide +kernel
theorem dX10_leaves_7 : decode cX10_leaves 7 = .ok (.if_icmp .ge 25, 3) := by decide +kernel
theorem dX10_leaves_10 : decode cX10_leaves 10 = .ok (.aload_n 0, 1) := by decide +kernel
theorem dX10_leaves_11 : decode cX10_leaves 11 = .ok (.iload_n 3, 1) := by decide +kernel
theorem dX10_leaves_12 : decode cX10_leaves 12 = .ok (.iload_n 1, 1) := by decide +kernel
theorem dX10_leaves_13 : decode cX10_leaves 13 = .ok (.invokevirtual 150, 3) := by decide +kernel
theorem dX10_leaves_16 : decode cX10_leaves 16 = .ok (.iload_n 3, 1) := by decide +kernel
theorem dX10_leaves_17 : decode cX10_leaves 17 = .ok (.if_icmp .ne 9, 3) := by decide +kernel
theorem dX10_leaves_20 : decode cX10_leaves 20 = .ok (.iload_n 2, 1) := by decide +kernel
theorem dX10_leaves_21 : decode cX10_leaves 21 = .ok (.iconst 1, 1) := by decide +kernel
theorem dX10_leaves_22 : decode cX10_leaves 22 = .ok (.iload_n 3, 1) := by decide +kernel
theorem dX10_leaves_23 : decode cX10_leaves 23 = .ok (.ishl, 1) := by decide +kernel
theorem dX10_leaves_24 : decode cX10_leaves 24 = .ok (.ior, 1) := by decide +kernel
theorem dX10_leaves_25 : decode cX10_leaves 25 = .ok (.istore_n 2, 1) := by decide +kernel
theorem dX10_leaves_26 : decode cX10_leaves 26 = .ok (.iinc 3 1, 3) := by decide +kernel
theorem dX10_leaves_29 : decode cX10_leaves 29 = .ok (.goto (-25), 3) := by decide +kernel
theorem dX10_leaves_32 : decode cX10_leaves 32 = .ok (.iload_n 2, 1) := by decide +kernel
theorem dX10_leaves_33 : decode cX10_leaves 33 = .ok (.ireturn, 1) := by decide +kernel
theorem dX10_again_0 : decode cX10_again 0 = .ok (.aload_n 0, 1) := by decide +kernel
theorem dX10_again_1 : decode cX10_again 1 = .ok (.getfield 32, 3) := by decide +kernel
theorem dX10_again_4 : decode cX10_again 4 = .ok (.getfield 154, 3) := by decide +kernel
theorem dX10_again_7 : decode cX10_again 7 = .ok (.lconst 0, 1) := by decide +kernel
theorem dX10_again_8 : decode cX10_again 8 = .ok (.lcmp, 1) := by decide +kernel
theorem dX10_again_9 : decode cX10_again 9 = .ok (.ifCond .ne 5, 3) := by decide +kernel
theorem dX10_again_12 : decode cX10_again 12 = .ok (.iconst (-1), 1) := by decide +kernel
theorem dX10_again_13 : decode cX10_again 13 = .ok (.ireturn, 1) := by decide +kernel
theorem dX10_again_14 : decode cX10_again 14 = .ok (.aload_n 0, 1) := by decide +kernel
theorem dX10_again_15 : decode cX10_again 15 = .ok (.getfield 32, 3) := by decide +kernel
theorem dX10_again_18 : decode cX10_again 18 = .ok (.getfield 154, 3) := by decide +kernel
theorem dX10_again_21 : decode cX10_again 21 = .ok (.lstore_n 3, 1) := by decide +kernel
theorem dX10_again_22 : decode cX10_again 22 = .ok (.iconst 1, 1) := by decide +kernel
theorem dX10_again_23 : decode cX10_again 23 = .ok (.istore 5, 2) := by decide +kernel
theorem dX10_again_25 : decode cX10_again 25 = .ok (.iload 5, 2) := by decide +kernel
theorem dX10_again_27 : decode cX10_again 27 = .ok (.bipush 24, 2) := by decide +kernel
theorem dX10_again_29 : decode cX10_again 29 = .ok (.if_icmp .gt 31, 3) := by decide +kernel
theorem dX10_again_32 : decode cX10_again 32 = .ok (.aload_n 1, 1) := by decide +kernel
theorem dX10_again_33 : decode cX10_again 33 = .ok (.lload_n 3, 1) := by decide +kernel
theorem dX10_again_34 : decode cX10_again 34 = .ok (.iload_n 2, 1) := by decide +kernel
theorem dX10_again_35 : decode cX10_again 35 = .ok (.invokevirtual 175, 3) := by decide +kernel
theorem dX10_again_38 : decode cX10_again 38 = .ok (.lstore_n 3, 1) := by decide +kernel
theorem dX10_again_39 : decode cX10_again 39 = .ok (.lload_n 3, 1) := by decide +kernel
theorem dX10_again_40 : decode cX10_again 40 = .ok (.aload_n 0, 1) := by decide +kernel
theorem dX10_again_41 : decode cX10_again 41 = .ok (.getfield 32, 3) := by decide +kernel
theorem dX10_again_44 : decode cX10_again 44 = .ok (.getfield 154, 3) := by decide +kernel
theorem dX10_again_47 : decode cX10_again 47 = .ok (.lcmp, 1) := by decide +kernel
theorem dX10_again_48 : decode cX10_again 48 = .ok (.ifCond .ne 6, 3) := by decide +kernel
theorem dX10_again_51 : decode cX10_again 51 = .ok (.iload 5, 2) := by decide +kernel
theorem dX10_again_53 : decode cX10_again 53 = .ok (.ireturn, 1) := by decide +kernel
theorem dX10_again_54 : decode cX10_again 54 = .ok (.iinc 5 1, 3) := by decide +kernel
theorem dX10_again_57 : decode cX10_again 57 = .ok (.goto (-32), 3) := by decide +kernel
theorem dX10_again_60 : decode cX10_again 60 = .ok (.iconst (-1), 1) := by decide +kernel
theorem dX10_again_61 : decode cX10_again 61 = .ok (.ireturn, 1) := by decide +kernel
theorem dX10_tonics_0 : decode cX10_tonics 0 = .ok (.iconst 0, 1) := by decide +kernel
theorem dX10_tonics_1 : decode cX10_tonics 1 = .ok (.istore_n 3, 1) := by decide +kernel
theorem dX10_tonics_2 : decode cX10_tonics 2 = .ok (.iconst 0, 1) := by decide +kernel
theorem dX10_tonics_3 : decode cX10_tonics 3 = .ok (.istore 4, 2) := by decide +kernel
theorem dX10_tonics_5 : decode cX10_tonics 5 = .ok (.iload 4, 2) := by decide +kernel
theorem dX10_tonics_7 : decode cX10_tonics 7 = .ok (.bipush 12, 2) := by decide +kernel
theorem dX10_tonics_9 : decode cX10_tonics 9 = .ok (.if_icmp .ge 30, 3) := by decide +kernel
theorem dX10_tonics_12 : decode cX10_tonics 12 = .ok (.aload_n 0, 1) := by decide +kernel
theorem dX10_tonics_13 : decode cX10_tonics 13 = .ok (.getfield 32, 3) := by decide +kernel
theorem dX10_tonics_16 : decode cX10_tonics 16 = .ok (.aload_n 1, 1) := by decide +kernel
theorem dX10_tonics_17 : decode cX10_tonics 17 = .ok (.iload_n 2, 1) := by decide +kernel
theorem dX10_tonics_18 : decode cX10_tonics 18 = .ok (.iload 4, 2) := by decide +kernel
theorem dX10_tonics_20 : decode cX10_tonics 20 = .ok (.invokevirtual 289, 3) := by decide +kernel
theorem dX10_tonics_23 : decode cX10_tonics 23 = .ok (.ifCond .eq 10, 3) := by decide +kernel
theorem dX10_tonics_26 : decode cX10_tonics 26 = .ok (.iload_n 3, 1) := by decide +kernel
theorem dX10_tonics_27 : decode cX10_tonics 27 = .ok (.iconst 1, 1) := by decide +kernel
theorem dX10_tonics_28 : decode cX10_tonics 28 = .ok (.iload 4, 2) := by decide +kernel
theorem dX10_tonics_30 : decode cX10_tonics 30 = .ok (.ishl, 1) := by decide +kernel
theorem dX10_tonics_31 : decode cX10_tonics 31 = .ok (.ior, 1) := by decide +kernel
theorem dX10_tonics_32 : decode cX10_tonics 32 = .ok (.istore_n 3, 1) := by decide +kernel
theorem dX10_tonics_33 : decode cX10_tonics 33 = .ok (.iinc 4 1, 3) := by decide +kernel
theorem dX10_tonics_36 : decode cX10_tonics 36 = .ok (.goto (-31), 3) := by decide +kernel
theorem dX10_tonics_39 : decode cX10_tonics 39 = .ok (.iload_n 3, 1) := by decide +kernel
theorem dX10_tonics_40 : decode cX10_tonics 40 = .ok (.ireturn, 1) := by decide +kernel
theorem dX10_ask_0 : decode cX10_ask 0 = .ok (.iload_n 1, 1) := by decide +kernel
theorem dX10_ask_1 : decode cX10_ask 1 = .ok (.ifCond .ne 5, 3) := by decide +kernel
theorem dX10_ask_4 : decode cX10_ask 4 = .ok (.iconst (-1), 1) := by decide +kernel
theorem dX10_ask_5 : decode cX10_ask 5 = .ok (.ireturn, 1) := by decide +kernel
theorem dX10_ask_6 : decode cX10_ask 6 = .ok (.iconst (-1), 1) := by decide +kernel
theorem dX10_ask_7 : decode cX10_ask 7 = .ok (.istore_n 2, 1) := by decide +kernel
theorem dX10_ask_8 : decode cX10_ask 8 = .ok (.bipush 13, 2) := by decide +kernel
theorem dX10_ask_10 : decode cX10_ask 10 = .ok (.istore_n 3, 1) := by decide +kernel
theorem dX10_ask_11 : decode cX10_ask 11 = .ok (.iconst 0, 1) := by decide +kernel
theorem dX10_ask_12 : decode cX10_ask 12 = .ok (.istore 4, 2) := by decide +kernel
theorem dX10_ask_14 : decode cX10_ask 14 = .ok (.iload 4, 2) := by decide +kernel
theorem dX10_ask_16 : decode cX10_ask 16 = .ok (.bipush 12, 2) := by decide +kernel
theorem dX10_ask_18 : decode cX10_ask 18 = .ok (.if_icmp .ge 30, 3) := by decide +kernel
theorem dX10_ask_21 : decode cX10_ask 21 = .ok (.aload_n 0, 1) := by decide +kernel
theorem dX10_ask_22 : decode cX10_ask 22 = .ok (.iload 4, 2) := by decide +kernel
theorem dX10_ask_24 : decode cX10_ask 24 = .ok (.iload_n 1, 1) := by decide +kernel
theorem dX10_ask_25 : decode cX10_ask 25 = .ok (.invokestatic 293, 3) := by decide +kernel
theorem dX10_ask_28 : decode cX10_ask 28 = .ok (.istore 5, 2) := by decide +kernel
theorem dX10_ask_30 : decode cX10_ask 30 = .ok (.iload 5, 2) := by decide +kernel
theorem dX10_ask_32 : decode cX10_ask 32 = .ok (.iload_n 3, 1) := by decide +kernel
theorem dX10_ask_33 : decode cX10_ask 33 = .ok (.if_icmp .ge 9, 3) := by decide +kernel
theorem dX10_ask_36 : decode cX10_ask 36 = .ok (.iload 5, 2) := by decide +kernel
theorem dX10_ask_38 : decode cX10_ask 38 = .ok (.istore_n 3, 1) := by decide +kernel
theorem dX10_ask_39 : decode cX10_ask 39 = .ok (.iload 4, 2) := by decide +kernel
theorem dX10_ask_41 : decode cX10_ask 41 = .ok (.istore_n 2, 1) := by decide +kernel
theorem dX10_ask_42 : decode cX10_ask 42 = .ok (.iinc 4 1, 3) := by decide +kernel
theorem dX10_ask_45 : decode cX10_ask 45 = .ok (.goto (-31), 3) := by decide +kernel
theorem dX10_ask_48 : decode cX10_ask 48 = .ok (.iload_n 2, 1) := by decide +kernel
theorem dX10_ask_49 : decode cX10_ask 49 = .ok (.ireturn, 1) := by decide +kernel
theorem dX10_leftAtWorst_0 : decode cX10_leftAtWorst 0 = .ok (.lconst 0, 1) := by decide +kernel
theorem dX10_leftAtWorst_1 : decode cX10_leftAtWorst 1 = .ok (.lstore_n 3, 1) := by decide +kernel
theorem dX10_leftAtWorst_2 : decode cX10_leftAtWorst 2 = .ok (.iconst 0, 1) := by decide +kernel
theorem dX10_leftAtWorst_3 : decode cX10_leftAtWorst 3 = .ok (.istore 5, 2) := by decide +kernel
theorem dX10_leftAtWorst_5 : decode cX10_leftAtWorst 5 = .ok (.iconst 0, 1) := by decide +kernel
theorem dX10_leftAtWorst_6 : decode cX10_leftAtWorst 6 = .ok (.istore 6, 2) := by decide +kernel
theorem dX10_leftAtWorst_8 : decode cX10_leftAtWorst 8 = .ok (.iload 6, 2) := by decide +kernel
theorem dX10_leftAtWorst_10 : decode cX10_leftAtWorst 10 = .ok (.bipush 12, 2) := by decide +kernel
theorem dX10_leftAtWorst_12 : decode cX10_leftAtWorst 12 = .ok (.if_icmp .ge 53, 3) := by decide +kernel
theorem dX10_leftAtWorst_15 : decode cX10_leftAtWorst 15 = .ok (.iload_n 2, 1) := by decide +kernel
theorem dX10_leftAtWorst_16 : decode cX10_leftAtWorst 16 = .ok (.iload 6, 2) := by decide +kernel
theorem dX10_leftAtWorst_18 : decode cX10_leftAtWorst 18 = .ok (.ishr, 1) := by decide +kernel
theorem dX10_leftAtWorst_19 : decode cX10_leftAtWorst 19 = .ok (.iconst 1, 1) := by decide +kernel
theorem dX10_leftAtWorst_20 : decode cX10_leftAtWorst 20 = .ok (.iand, 1) := by decide +kernel
theorem dX10_leftAtWorst_21 : decode cX10_leftAtWorst 21 = .ok (.iconst 1, 1) := by decide +kernel
theorem dX10_leftAtWorst_22 : decode cX10_leftAtWorst 22 = .ok (.if_icmp .ne 37, 3) := by decide +kernel
theorem dX10_leftAtWorst_25 : decode cX10_leftAtWorst 25 = .ok (.iconst 4, 1) := by decide +kernel
theorem dX10_leftAtWorst_26 : decode cX10_leftAtWorst 26 = .ok (.aload_n 0, 1) := by decide +kernel
theorem dX10_leftAtWorst_27 : decode cX10_leftAtWorst 27 = .ok (.iload_n 1, 1) := by decide +kernel
theorem dX10_leftAtWorst_28 : decode cX10_leftAtWorst 28 = .ok (.iload 6, 2) := by decide +kernel
theorem dX10_leftAtWorst_30 : decode cX10_leftAtWorst 30 = .ok (.invokevirtual 150, 3) := by decide +kernel
theorem dX10_leftAtWorst_33 : decode cX10_leftAtWorst 33 = .ok (.imul, 1) := by decide +kernel
theorem dX10_leftAtWorst_34 : decode cX10_leftAtWorst 34 = .ok (.istore 7, 2) := by decide +kernel
theorem dX10_leftAtWorst_36 : decode cX10_leftAtWorst 36 = .ok (.lload_n 3, 1) := by decide +kernel
theorem dX10_leftAtWorst_37 : decode cX10_leftAtWorst 37 = .ok (.lconst 1, 1) := by decide +kernel
theorem dX10_leftAtWorst_38 : decode cX10_leftAtWorst 38 = .ok (.iload 7, 2) := by decide +kernel
theorem dX10_leftAtWorst_40 : decode cX10_leftAtWorst 40 = .ok (.lshl, 1) := by decide +kernel
theorem dX10_leftAtWorst_41 : decode cX10_leftAtWorst 41 = .ok (.ladd, 1) := by decide +kernel
theorem dX10_leftAtWorst_42 : decode cX10_leftAtWorst 42 = .ok (.lstore_n 3, 1) := by decide +kernel
theorem dX10_leftAtWorst_43 : decode cX10_leftAtWorst 43 = .ok (.iload 5, 2) := by decide +kernel
theorem dX10_leftAtWorst_45 : decode cX10_leftAtWorst 45 = .ok (.lload_n 3, 1) := by decide +kernel
theorem dX10_leftAtWorst_46 : decode cX10_leftAtWorst 46 = .ok (.iload 7, 2) := by decide +kernel
theorem dX10_leftAtWorst_48 : decode cX10_leftAtWorst 48 = .ok (.lushr, 1) := by decide +kernel
theorem dX10_leftAtWorst_49 : decode cX10_leftAtWorst 49 = .ok (.ldc2_w 297, 3) := by decide +kernel
theorem dX10_leftAtWorst_52 : decode cX10_leftAtWorst 52 = .ok (.land, 1) := by decide +kernel
theorem dX10_leftAtWorst_53 : decode cX10_leftAtWorst 53 = .ok (.l2i, 1) := by decide +kernel
theorem dX10_leftAtWorst_54 : decode cX10_leftAtWorst 54 = .ok (.invokestatic 299, 3) := by decide +kernel
theorem dX10_leftAtWorst_57 : decode cX10_leftAtWorst 57 = .ok (.istore 5, 2) := by decide +kernel
theorem dX10_leftAtWorst_59 : decode cX10_leftAtWorst 59 = .ok (.iinc 6 1, 3) := by decide +kernel
theorem dX10_leftAtWorst_62 : decode cX10_leftAtWorst 62 = .ok (.goto (-54), 3) := by decide +kernel
theorem dX10_leftAtWorst_65 : decode cX10_leftAtWorst 65 = .ok (.iload 5, 2) := by decide +kernel
theorem dX10_leftAtWorst_67 : decode cX10_leftAtWorst 67 = .ok (.ireturn, 1) := by decide +kernel
theorem dX11_init_0 : decode cX11_init 0 = .ok (.aload_n 0, 1) := by decide +kernel
theorem dX11_init_1 : decode cX11_init 1 = .ok (.invokespecial 1, 3) := by decide +kernel
theorem dX11_init_4 : decode cX11_init 4 = .ok (.aload_n 0, 1) := by decide +kernel
theorem dX11_init_5 : decode cX11_init 5 = .ok (.bipush 44, 2) := by decide +kernel
theorem dX11_init_7 : decode cX11_init 7 = .ok (.newarray .int, 2) := by decide +kernel
theorem dX11_init_9 : decode cX11_init 9 = .ok (.putfield 7, 3) := by decide +kernel
theorem dX11_init_12 : decode cX11_init 12 = .ok (.aload_n 0, 1) := by decide +kernel
theorem dX11_init_13 : decode cX11_init 13 = .ok (.bipush 24, 2) := by decide +kernel
theorem dX11_init_15 : decode cX11_init 15 = .ok (.newarray .int, 2) := by decide +kernel
theorem dX11_init_17 : decode cX11_init 17 = .ok (.putfield 13, 3) := by decide +kernel
theorem dX11_init_20 : decode cX11_init 20 = .ok (.aload_n 0, 1) := by decide +kernel
theorem dX11_init_21 : decode cX11_init 21 = .ok (.bipush 8, 2) := by decide +kernel
theorem dX11_init_23 : decode cX11_init 23 = .ok (.newarray .int, 2) := by decide +kernel
theorem dX11_init_25 : decode cX11_init 25 = .ok (.putfield 16, 3) := by decide +kernel
theorem dX11_init_28 : decode cX11_init 28 = .ok (.aload_n 0, 1) := by decide +kernel
theorem dX11_init_29 : decode cX11_init 29 = .ok (.bipush 8, 2) := by decide +kernel
theorem dX11_init_31 : decode cX11_init 31 = .ok (.newarray .int, 2) := by decide +kernel
theorem dX11_init_33 : decode cX11_init 33 = .ok (.putfield 19, 3) := by decide +kernel
theorem dX11_init_36 : decode cX11_init 36 = .ok (.aload_n 0, 1) := by decide +kernel
theorem dX11_init_37 : decode cX11_init 37 = .ok (.bipush 8, 2) := by decide +kernel
theorem dX11_init_39 : decode cX11_init 39 = .ok (.newarray .int, 2) := by decide +kernel
theorem dX11_init_41 : decode cX11_init 41 = .ok (.putfield 22, 3) := by decide +kernel
theorem dX11_init_44 : decode cX11_init 44 = .ok (.aload_n 0, 1) := by decide +kernel
theorem dX11_init_45 : decode cX11_init 45 = .ok (.bipush 8, 2) := by decide +kernel
theorem dX11_init_47 : decode cX11_init 47 = .ok (.newarray .int, 2) := by decide +kernel
theorem dX11_init_49 : decode cX11_init 49 = .ok (.putfield 25, 3) := by decide +kernel
theorem dX11_init_52 : decode cX11_init 52 = .ok (.aload_n 0, 1) := by decide +kernel
theorem dX11_init_53 : decode cX11_init 53 = .ok (.bipush 8, 2) := by decide +kernel
theorem dX11_init_55 : decode cX11_init 55 = .ok (.newarray .int, 2) := by decide +kernel
theorem dX11_init_57 : decode cX11_init 57 = .ok (.putfield 28, 3) := by decide +kernel
theorem dX11_init_60 : decode cX11_init 60 = .ok (.aload_n 0, 1) := by decide +kernel
theorem dX11_init_61 : decode cX11_init 61 = .ok (.bipush 8, 2) := by decide +kernel
theorem dX11_init_63 : decode cX11_init 63 = .ok (.newarray .int, 2) := by decide +kernel
theorem dX11_init_65 : decode cX11_init 65 = .ok (.putfield 31, 3) := by decide +kernel
theorem dX11_init_68 : decode cX11_init 68 = .ok (.aload_n 0, 1) := by decide +kernel
theorem dX11_init_69 : decode cX11_init 69 = .ok (.bipush 48, 2) := by decide +kernel
theorem dX11_init_71 : decode cX11_init 71 = .ok (.newarray .int, 2) := by decide +kernel
theorem dX11_init_73 : decode cX11_init 73 = .ok (.putfield 34, 3) := by decide +kernel
theorem dX11_init_76 : decode cX11_init 76 = .ok (.aload_n 0, 1) := by decide +kernel
theorem dX11_init_77 : decode cX11_init 77 = .ok (.bipush 6, 2) := by decide +kernel
theorem dX11_init_79 : decode cX11_init 79 = .ok (.newarray .int, 2) := by decide +kernel
theorem dX11_init_81 : decode cX11_init 81 = .ok (.putfield 37, 3) := by decide +kernel
theorem dX11_init_84 : decode cX11_init 84 = .ok (.aload_n 0, 1) := by decide +kernel
theorem dX11_init_85 : decode cX11_init 85 = .ok (.bipush 6, 2) := by decide +kernel
theorem dX11_init_87 : decode cX11_init 87 = .ok (.newarray .int, 2) := by decide +kernel
theorem dX11_init_89 : decode cX11_init 89 = .ok (.putfield 40, 3) := by decide +kernel
theorem dX11_init_92 : decode cX11_init 92 = .ok (.aload_n 0, 1) := by decide +kernel
theorem dX11_init_93 : decode cX11_init 93 = .ok (.sipush 512, 3) := by decide +kernel
theorem dX11_init_96 : decode cX11_init 96 = .ok (.newarray .int, 2) := by decide +kernel
theorem dX11_init_98 : decode cX11_init 98 = .ok (.putfield 43, 3) := by decide +kernel
theorem dX11_init_101 : decode cX11_init 101 = .ok (.aload_n 0, 1) := by decide +kernel
theorem dX11_init_102 : decode cX11_init 102 = .ok (.bipush 18, 2) := by decide +kernel
theorem dX11_init_104 : decode cX11_init 104 = .ok (.newarray .int, 2) := by decide +kernel
theorem dX11_init_106 : decode cX11_init 106 = .ok (.putfield 46, 3) := by decide +kernel
theorem dX11_init_109 : decode cX11_init 109 = .ok (.aload_n 0, 1) := by decide +kernel
theorem dX11_init_110 : decode cX11_init 110 = .ok (.bipush 12, 2) := by decide +kernel
theorem dX11_init_112 : decode cX11_init 112 = .ok (.newarray .int, 2) := by decide +kernel
theorem dX11_init_114 : decode cX11_init 114 = .ok (.putfield 49, 3) := by decide +kernel
theorem dX11_init_117 : decode cX11_init 117 = .ok (.aload_n 0, 1) := by decide +kernel
theorem dX11_init_118 : decode cX11_init 118 = .ok (.bipush 8, 2) := by decide +kernel
theorem dX11_init_120 : decode cX11_init 120 = .ok (.newarray .int, 2) := by decide +kernel
theorem dX11_init_122 : decode cX11_init 122 = .ok (.putfield 52, 3) := by decide +kernel
theorem dX11_init_125 : decode cX11_init 125 = .ok (.aload_n 0, 1) := by decide +kernel
theorem dX11_init_126 : decode cX11_init 126 = .ok (.bipush 8, 2) := by decide +kernel
theorem dX11_init_128 : decode cX11_init 128 = .ok (.newarray .int, 2) := by decide +kernel
theorem dX11_init_130 : decode cX11_init 130 = .ok (.putfield 55, 3) := by decide +kernel
theorem dX11_init_133 : decode cX11_init 133 = .ok (.aload_n 0, 1) := by decide +kernel
theorem dX11_init_134 : decode cX11_init 134 = .ok (.bipush 8, 2) := by decide +kernel
theorem dX11_init_136 : decode cX11_init 136 = .ok (.newarray .int, 2) := by decide +kernel
theorem dX11_init_138 : decode cX11_init 138 = .ok (.putfield 58, 3) := by decide +kernel
theorem dX11_init_141 : decode cX11_init 141 = .ok (.aload_n 0, 1) := by decide +kernel
theorem dX11_init_142 : decode cX11_init 142 = .ok (.bipush 8, 2) := by decide +kernel
theorem dX11_init_144 : decode cX11_init 144 = .ok (.newarray .int, 2) := by decide +kernel
theorem dX11_init_146 : decode cX11_init 146 = .ok (.putfield 61, 3) := by decide +kernel
theorem dX11_init_149 : decode cX11_init 149 = .ok (.aload_n 0, 1) := by decide +kernel
theorem dX11_init_150 : decode cX11_init 150 = .ok (.bipush 18, 2) := by decide +kernel
theorem dX11_init_152 : decode cX11_init 152 = .ok (.newarray .int, 2) := by decide +kernel
theorem dX11_init_154 : decode cX11_init 154 = .ok (.putfield 64, 3) := by decide +kernel
theorem dX11_init_157 : decode cX11_init 157 = .ok (.aload_n 0, 1) := by decide +kernel
theorem dX11_init_158 : decode cX11_init 158 = .ok (.iconst (-1), 1) := by decide +kernel
theorem dX11_init_159 : decode cX11_init 159 = .ok (.putfield 67, 3) := by decide +kernel
theorem dX11_init_162 : decode cX11_init 162 = .ok (.return_, 1) := by decide +kernel
theorem dX11_in_0 : decode cX11_in 0 = .ok (.lload_n 0, 1) := by decide +kernel
theorem dX11_in_1 : decode cX11_in 1 = .ok (.lload_n 2, 1) := by decide +kernel
theorem dX11_in_2 : decode cX11_in 2 = .ok (.lcmp, 1) := by decide +kernel
theorem dX11_in_3 : decode cX11_in 3 = .ok (.ifCond .lt 14, 3) := by decide +kernel
theorem dX11_in_6 : decode cX11_in 6 = .ok (.lload_n 0, 1) := by decide +kernel
theorem dX11_in_7 : decode cX11_in 7 = .ok (.lload 4, 2) := by decide +kernel
theorem dX11_in_9 : decode cX11_in 9 = .ok (.lcmp, 1) := by decide +kernel
theorem dX11_in_10 : decode cX11_in 10 = .ok (.ifCond .gt 7, 3) := by decide +kernel
theorem dX11_in_13 : decode cX11_in 13 = .ok (.iconst 1, 1) := by decide +kernel
theorem dX11_in_14 : decode cX11_in 14 = .ok (.goto 4, 3) := by decide +kernel
theorem dX11_in_17 : decode cX11_in 17 = .ok (.iconst 0, 1) := by decide +kernel
theorem dX11_in_18 : decode cX11_in 18 = .ok (.ireturn, 1) := by decide +kernel
theorem dX11_copy_0 : decode cX11_copy 0 = .ok (.iconst 0, 1) := by decide +kernel
theorem dX11_copy_1 : decode cX11_copy 1 = .ok (.istore_n 2, 1) := by decide +kernel
theorem dX11_copy_2 : decode cX11_copy 2 = .ok (.iload_n 2, 1) := by decide +kernel
theorem dX11_copy_3 : decode cX11_copy 3 = .ok (.aload_n 0, 1) := by decide +kernel
theorem dX11_copy_4 : decode cX11_copy 4 = .ok (.arraylength, 1) := by decide +kernel
theorem dX11_copy_5 : decode cX11_copy 5 = .ok (.if_icmp .ge 15, 3) := by decide +kernel
theorem dX11_copy_8 : decode cX11_copy 8 = .ok (.aload_n 1, 1) := by decide +kernel
theorem dX11_copy_9 : decode cX11_copy 9 = .ok (.iload_n 2, 1) := by decide +kernel
theorem dX11_copy_10 : decode cX11_copy 10 = .ok (.aload_n 0, 1) := by decide +kernel
theorem dX11_copy_11 : decode cX11_copy 11 = .ok (.iload_n 2, 1) := by decide +kernel
theorem dX11_copy_12 : decode cX11_copy 12 = .ok (.iaload, 1) := by decide +kernel
theorem dX11_copy_13 : decode cX11_copy 13 = .ok (.iastore, 1) := by decide +kernel
theorem dX11_copy_14 : decode cX11_copy 14 = .ok (.iinc 2 1, 3) := by decide +kernel
theorem dX11_copy_17 : decode cX11_copy 17 = .ok (.goto (-15), 3) := by decide +kernel
theorem dX11_copy_20 : decode cX11_copy 20 = .ok (.return_, 1) := by decide +kernel
theorem dX11_above_0 : decode cX11_above 0 = .ok (.iload_n 0, 1) := by decide +kernel
theorem dX11_above_1 : decode cX11_above 1 = .ok (.iload_n 1, 1) := by decide +kernel
theorem dX11_above_2 : decode cX11_above 2 = .ok (.isub, 1) := by decide +kernel
theorem dX11_above_3 : decode cX11_above 3 = .ok (.bipush 24, 2) := by decide +kernel
theorem dX11_above_5 : decode cX11_above 5 = .ok (.iadd, 1) := by decide +kernel
theorem dX11_above_6 : decode cX11_above 6 = .ok (.bipush 12, 2) := by decide +kernel
theorem dX11_above_8 : decode cX11_above 8 = .ok (.irem, 1) := by decide +kernel
theorem dX11_above_9 : decode cX11_above 9 = .ok (.ireturn, 1) := by decide +kernel
theorem dX11_letter_0 : decode cX11_letter 0 = .ok (.iload_n 1, 1) := by decide +kernel
theorem dX11_letter_1 : decode cX11_letter 1 = .ok (.i2l, 1) := by decide +kernel
theorem dX11_letter_2 : decode cX11_letter 2 = .ok (.lconst 1, 1) := by decide +kernel
theorem dX11_letter_3 : decode cX11_letter 3 = .ok (.ldc2_w 71, 3) := by decide +kernel
theorem dX11_letter_6 : decode cX11_letter 6 = .ok (.invokestatic 73, 3) := by decide +kernel
theorem dX11_letter_9 : decode cX11_letter 9 = .ok (.ifCond .ne 6, 3) := by decide +kernel
theorem dX11_letter_12 : decode cX11_letter 12 = .ok (.bipush (-102), 2) := by decide +kernel
theorem dX11_letter_14 : decode cX11_letter 14 = .ok (.ireturn, 1) := by decide +kernel
theorem dX11_letter_15 : decode cX11_letter 15 = .ok (.aload_n 0, 1) := by decide +kernel
theorem dX11_letter_16 : decode cX11_letter 16 = .ok (.getfield 77, 3) := by decide +kernel
theorem dX11_letter_19 : decode cX11_letter 19 = .ok (.bipush 44, 2) := by decide +kernel
theorem dX11_letter_21 : decode cX11_letter 21 = .ok (.if_icmp .ne 6, 3) := by decide +kernel
theorem dX11_letter_24 : decode cX11_letter 24 = .ok (.bipush (-104), 2) := by decide +kernel
theorem dX11_letter_26 : decode cX11_letter 26 = .ok (.ireturn, 1) := by decide +kernel
theorem dX11_letter_27 : decode cX11_letter 27 = .ok (.aload_n 0, 1) := by decide +kernel
theorem dX11_letter_28 : decode cX11_letter 28 = .ok (.getfield 7, 3) := by decide +kernel
theorem dX11_letter_31 : decode cX11_letter 31 = .ok (.aload_n 0, 1) := by decide +kernel
theorem dX11_letter_32 : decode cX11_letter 32 = .ok (.getfield 77, 3) := by decide +kernel
theorem dX11_letter_35 : decode cX11_letter 35 = .ok (.iload_n 1, 1) := by decide +kernel
theorem dX11_letter_36 : decode cX11_letter 36 = .ok (.iastore, 1) := by decide +kernel
theorem dX11_letter_37 : decode cX11_letter 37 = .ok (.aload_n 0, 1) := by decide +kernel
theorem dX11_letter_38 : decode cX11_letter 38 = .ok (.dup, 1) := by decide +kernel
theorem dX11_letter_39 : decode cX11_letter 39 = .ok (.getfield 77, 3) := by decide +kernel
theorem dX11_letter_42 : decode cX11_letter 42 = .ok (.iconst 1, 1) := by decide +kernel
theorem dX11_letter_43 : decode cX11_letter 43 = .ok (.iadd, 1) := by decide +kernel
theorem dX11_letter_44 : decode cX11_letter 44 = .ok (.putfield 77, 3) := by decide +kernel
theorem dX11_letter_47 : decode cX11_letter 47 = .ok (.aload_n 0, 1) := by decide +kernel
theorem dX11_letter_48 : decode cX11_letter 48 = .ok (.getfield 77, 3) := by decide +kernel
theorem dX11_letter_51 : decode cX11_letter 51 = .ok (.ireturn, 1) := by decide +kernel
theorem dX11_blank_0 : decode cX11_blank 0 = .ok (.aload_n 0, 1) := by decide +kernel
theorem dX11_blank_1 : decode cX11_blank 1 = .ok (.getfield 77, 3) := by decide +kernel
theorem dX11_blank_4 : decode cX11_blank 4 = .ok (.istore_n 1, 1) := by decide +kernel
theorem dX11_blank_5 : decode cX11_blank 5 = .ok (.aload_n 0, 1) := by decide +kernel
theorem dX11_blank_6 : decode cX11_blank 6 = .ok (.iconst 0, 1) := by decide +kernel
theorem dX11_blank_7 : decode cX11_blank 7 = .ok (.putfield 77, 3) := by decide +kernel
theorem dX11_blank_10 : decode cX11_blank 10 = .ok (.iload_n 1, 1) := by decide +kernel
theorem dX11_blank_11 : decode cX11_blank 11 = .ok (.ireturn, 1) := by decide +kernel
theorem dX11_kindBy_0 : decode cX11_kindBy 0 = .ok (.iload_n 0, 1) := by decide +kernel
theorem dX11_kindBy_1 : decode cX11_kindBy 1 = .ok (.lookupswitch 61 #[(98, 55), (105, 59), (109, 53), (112, 57), (115, 51)], 51) := by decide +kernel
theorem dX11_kindBy_52 : decode cX11_kindBy 52 = .ok (.iconst 0, 1) := by decide +kernel
theorem dX11_kindBy_53 : decode cX11_kindBy 53 = .ok (.ireturn, 1) := by decide +kernel
theorem dX11_kindBy_54 : decode cX11_kindBy 54 = .ok (.iconst 1, 1) := by decide +kernel
theorem dX11_kindBy_55 : decode cX11_kindBy 55 = .ok (.ireturn, 1) := by decide +kernel
theorem dX11_kindBy_56 : decode cX11_kindBy 56 = .ok (.iconst 2, 1) := by decide +kernel
theorem dX11_kindBy_57 : decode cX11_kindBy 57 = .ok (.ireturn, 1) := by decide +kernel
theorem dX11_kindBy_58 : decode cX11_kindBy 58 = .ok (.iconst 3, 1) := by decide +kernel
theorem dX11_kindBy_59 : decode cX11_kindBy 59 = .ok (.ireturn, 1) := by decide +kernel
theorem dX11_kindBy_60 : decode cX11_kindBy 60 = .ok (.iconst 4, 1) := by decide +kernel
theorem dX11_kindBy_61 : decode cX11_kindBy 61 = .ok (.ireturn, 1) := by decide +kernel
theorem dX11_kindBy_62 : decode cX11_kindBy 62 = .ok (.iconst (-1), 1) := by decide +kernel
theorem dX11_kindBy_63 : decode cX11_kindBy 63 = .ok (.ireturn, 1) := by decide +kernel
theorem dX11_isCorner_0 : decode cX11_isCorner 0 = .ok (.iload_n 1, 1) := by decide +kernel
theorem dX11_isCorner_1 : decode cX11_isCorner 1 = .ok (.i2l, 1) := by decide +kernel
theorem dX11_isCorner_2 : decode cX11_isCorner 2 = .ok (.ldc2_w 80, 3) := by decide +kernel
theorem dX11_isCorner_5 : decode cX11_isCorner 5 = .ok (.aload_n 0, 1) := by decide +kernel
theorem dX11_isCorner_6 : decode cX11_isCorner 6 = .ok (.getfield 7, 3) := by decide +kernel
theorem dX11_isCorner_9 : decode cX11_isCorner 9 = .ok (.iconst 0, 1) := by decide +kernel
theorem dX11_isCorner_10 : decode cX11_isCorner 10 = .ok (.iaload, 1) := by decide +kernel
theorem dX11_isCorner_11 : decode cX11_isCorner 11 = .ok (.iconst 1, 1) := by decide +kernel
theorem dX11_isCorner_12 : decode cX11_isCorner 12 = .ok (.isub, 1) := by decide +kernel
theorem dX11_isCorner_13 : decode cX11_isCorner 13 = .ok (.i2l, 1) := by decide +kernel
theorem dX11_isCorner_14 : decode cX11_isCorner 14 = .ok (.invokestatic 73, 3) := by decide +kernel
theorem dX11_isCorner_17 : decode cX11_isCorner 17 = .ok (.ireturn, 1) := by decide +kernel
theorem dX11_isStreetLetter_0 : decode cX11_isStreetLetter 0 = .ok (.aload_n 0, 1) := by decide +kernel
theorem dX11_isStreetLetter_1 : decode cX11_isStreetLetter 1 = .ok (.getfield 7, 3) := by decide +kernel
theorem dX11_isStreetLetter_4 : decode cX11_isStreetLetter 4 = .ok (.iload_n 1, 1) := by decide +kernel
theorem dX11_isStreetLetter_5 : decode cX11_isStreetLetter 5 = .ok (.iaload, 1) := by decide +kernel
theorem dX11_isStreetLetter_6 : decode cX11_isStreetLetter 6 = .ok (.istore_n 2, 1) := by decide +kernel
theorem dX11_isStreetLetter_7 : decode cX11_isStreetLetter 7 = .ok (.iload_n 1, 1) := by decide +kernel
theorem dX11_isStreetLetter_8 : decode cX11_isStreetLetter 8 = .ok (.iconst 2, 1) := by decide +kernel
theorem dX11_isStreetLetter_9 : decode cX11_isStreetLetter 9 = .ok (.isub, 1) := by decide +kernel
theorem dX11_isStreetLetter_10 : decode cX11_isStreetLetter 10 = .ok (.iconst 5, 1) := by decide +kernel
theorem dX11_isStreetLetter_11 : decode cX11_isStreetLetter 11 = .ok (.irem, 1) := by decide +kernel
theorem dX11_isStreetLetter_12 : decode cX11_isStreetLetter 12 = .ok (.tableswitch 90 0 3 #[32, 46, 52, 78], 32) := by decide +kernel
theorem dX11_isStreetLetter_44 : decode cX11_isStreetLetter 44 = .ok (.iload_n 2, 1) := by decide +kernel
theorem dX11_isStreetLetter_45 : decode cX11_isStreetLetter 45 = .ok (.invokestatic 82, 3) := by decide +kernel
theorem dX11_isStreetLetter_48 : decode cX11_isStreetLetter 48 = .ok (.iconst (-1), 1) := by decide +kernel
theorem dX11_isStreetLetter_49 : decode cX11_isStreetLetter 49 = .ok (.if_icmp .eq 7, 3) := by decide +kernel
theorem dX11_isStreetLetter_52 : decode cX11_isStreetLetter 52 = .ok (.iconst 1, 1) := by decide +kernel
theorem dX11_isStreetLetter_53 : decode cX11_isStreetLetter 53 = .ok (.goto 4, 3) := by decide +kernel
theorem dX11_isStreetLetter_56 : decode cX11_isStreetLetter 56 = .ok (.iconst 0, 1) := by decide +kernel
theorem dX11_isStreetLetter_57 : decode cX11_isStreetLetter 57 = .ok (.ireturn, 1) := by decide +kernel
theorem dX11_isStreetLetter_58 : decode cX11_isStreetLetter 58 = .ok (.aload_n 0, 1) := by decide +kernel
theorem dX11_isStreetLetter_59 : decode cX11_isStreetLetter 59 = .ok (.iload_n 2, 1) := by decide +kernel
theorem dX11_isStreetLetter_60 : decode cX11_isStreetLetter 60 = .ok (.invokevirtual 86, 3) := by decide +kernel
theorem dX11_isStreetLetter_63 : decode cX11_isStreetLetter 63 = .ok (.ireturn, 1) := by decide +kernel
theorem dX11_isStreetLetter_64 : decode cX11_isStreetLetter 64 = .ok (.aload_n 0, 1) := by decide +kernel
theorem dX11_isStreetLetter_65 : decode cX11_isStreetLetter 65 = .ok (.iload_n 2, 1) := by decide +kernel
theorem dX11_isStreetLetter_66 : decode cX11_isStreetLetter 66 = .ok (.invokevirtual 86, 3) := by decide +kernel
theorem dX11_isStreetLetter_69 : decode cX11_isStreetLetter 69 = .ok (.ifCond .eq 19, 3) := by decide +kernel
theorem dX11_isStreetLetter_72 : decode cX11_isStreetLetter 72 = .ok (.iload_n 2, 1) := by decide +kernel
theorem dX11_isStreetLetter_73 : decode cX11_isStreetLetter 73 = .ok (.aload_n 0, 1) := by decide +kernel
theorem dX11_isStreetLetter_74 : decode cX11_isStreetLetter 74 = .ok (.getfield 7, 3) := by decide +kernel
theorem dX11_isStreetLetter_77 : decode cX11_isStreetLetter 77 = .ok (.iload_n 1, 1) := by decide +kernel
theorem dX11_isStreetLetter_78 : decode cX11_isStreetLetter 78 = .ok (.iconst 1, 1) := by decide +kernel
theorem dX11_isStreetLetter_79 : decode cX11_isStreetLetter 79 = .ok (.isub, 1) := by decide +kernel
theorem dX11_isStreetLetter_80 : decode cX11_isStreetLetter 80 = .ok (.iaload, 1) := by decide +kernel
theorem dX11_isStreetLetter_81 : decode cX11_isStreetLetter 81 = .ok (.if_icmp .eq 7, 3) := by decide +kernel
theorem dX11_isStreetLetter_84 : decode cX11_isStreetLetter 84 = .ok (.iconst 1, 1) := by decide +kernel
theorem dX11_isStreetLetter_85 : decode cX11_isStreetLetter 85 = .ok (.goto 4, 3) := by decide +kernel
theorem dX11_isStreetLetter_88 : decode cX11_isStreetLetter 88 = .ok (.iconst 0, 1) := by decide +kernel
theorem dX11_isStreetLetter_89 : decode cX11_isStreetLetter 89 = .ok (.ireturn, 1) := by decide +kernel
theorem dX11_isStreetLetter_90 : decode cX11_isStreetLetter 90 = .ok (.iload_n 2, 1) := by decide +kernel
theorem dX11_isStreetLetter_91 : decode cX11_isStreetLetter 91 = .ok (.i2l, 1) := by decide +kernel
theorem dX11_isStreetLetter_92 : decode cX11_isStreetLetter 92 = .ok (.ldc2_w 90, 3) := by decide +kernel
theorem dX11_isStreetLetter_95 : decode cX11_isStreetLetter 95 = .ok (.ldc2_w 92, 3) := by decide +kernel
theorem dX11_isStreetLetter_98 : decode cX11_isStreetLetter 98 = .ok (.invokestatic 73, 3) := by decide +kernel
theorem dX11_isStreetLetter_101 : decode cX11_isStreetLetter 101 = .ok (.ireturn, 1) := by decide +kernel
theorem dX11_isStreetLetter_102 : decode cX11_isStreetLetter 102 = .ok (.iload_n 2, 1) := by decide +kernel
theorem dX11_isStreetLetter_103 : decode cX11_isStreetLetter 103 = .ok (.bipush 44, 2) := by decide +kernel
theorem dX11_isStreetLetter_105 : decode cX11_isStreetLetter 105 = .ok (.if_icmp .ne 13, 3) := by decide +kernel
theorem dX11_isStreetLetter_108 : decode cX11_isStreetLetter 108 = .ok (.iload_n 1, 1) := by decide +kernel
theorem dX11_isStreetLetter_109 : decode cX11_isStreetLetter 109 = .ok (.bipush 41, 2) := by decide +kernel
theorem dX11_isStreetLetter_111 : decode cX11_isStreetLetter 111 = .ok (.if_icmp .ge 7, 3) := by decide +kernel
theorem dX11_isStreetLetter_114 : decode cX11_isStreetLetter 114 = .ok (.iconst 1, 1) := by decide +kernel
theorem dX11_isStreetLetter_115 : decode cX11_isStreetLetter 115 = .ok (.goto 4, 3) := by decide +kernel
theorem dX11_isStreetLetter_118 : decode cX11_isStreetLetter 118 = .ok (.iconst 0, 1) := by decide +kernel
theorem dX11_isStreetLetter_119 : decode cX11_isStreetLetter 119 = .ok (.ireturn, 1) := by decide +kernel
theorem dX11_faultOf_0 : decode cX11_faultOf 0 = .ok (.iconst 0, 1) := by decide +kernel
theorem dX11_faultOf_1 : decode cX11_faultOf 1 = .ok (.istore_n 1, 1) := by decide +kernel
theorem dX11_faultOf_2 : decode cX11_faultOf 2 = .ok (.iconst 1, 1) := by decide +kernel
theorem dX11_faultOf_3 : decode cX11_faultOf 3 = .ok (.istore_n 2, 1) := by decide +kernel
theorem dX11_faultOf_4 : decode cX11_faultOf 4 = .ok (.iload_n 1, 1) := by decide +kernel
theorem dX11_faultOf_5 : decode cX11_faultOf 5 = .ok (.aload_n 0, 1) := by decide +kernel
theorem dX11_faultOf_6 : decode cX11_faultOf 6 = .ok (.getfield 77, 3) := by decide +kernel
theorem dX11_faultOf_9 : decode cX11_faultOf 9 = .ok (.if_icmp .ge 75, 3) := by decide +kernel
theorem dX11_faultOf_12 : decode cX11_faultOf 12 = .ok (.iload_n 2, 1) := by decide +kernel
theorem dX11_faultOf_13 : decode cX11_faultOf 13 = .ok (.ifCond .eq 71, 3) := by decide +kernel
theorem dX11_faultOf_16 : decode cX11_faultOf 16 = .ok (.iload_n 1, 1) := by decide +kernel
theorem dX11_faultOf_17 : decode cX11_faultOf 17 = .ok (.ifCond .ne 22, 3) := by decide +kernel
theorem dX11_faultOf_20 : decode cX11_faultOf 20 = .ok (.aload_n 0, 1) := by decide +kernel
theorem dX11_faultOf_21 : decode cX11_faultOf 21 = .ok (.getfield 7, 3) := by decide +kernel
theorem dX11_faultOf_24 : decode cX11_faultOf 24 = .ok (.iconst 0, 1) := by decide +kernel
theorem dX11_faultOf_25 : decode cX11_faultOf 25 = .ok (.iaload, 1) := by decide +kernel
theorem dX11_faultOf_26 : decode cX11_faultOf 26 = .ok (.i2l, 1) := by decide +kernel
theorem dX11_faultOf_27 : decode cX11_faultOf 27 = .ok (.ldc2_w 94, 3) := by decide +kernel
theorem dX11_faultOf_30 : decode cX11_faultOf 30 = .ok (.ldc2_w 96, 3) := by decide +kernel
theorem dX11_faultOf_33 : decode cX11_faultOf 33 = .ok (.invokestatic 73, 3) := by decide +kernel
theorem dX11_faultOf_36 : decode cX11_faultOf 36 = .ok (.goto 32, 3) := by decide +kernel
theorem dX11_faultOf_39 : decode cX11_faultOf 39 = .ok (.iload_n 1, 1) := by decide +kernel
theorem dX11_faultOf_40 : decode cX11_faultOf 40 = .ok (.iconst 1, 1) := by decide +kernel
theorem dX11_faultOf_41 : decode cX11_faultOf 41 = .ok (.if_icmp .ne 22, 3) := by decide +kernel
theorem dX11_faultOf_44 : decode cX11_faultOf 44 = .ok (.aload_n 0, 1) := by decide +kernel
theorem dX11_faultOf_45 : decode cX11_faultOf 45 = .ok (.getfield 7, 3) := by decide +kernel
theorem dX11_faultOf_48 : decode cX11_faultOf 48 = .ok (.iconst 1, 1) := by decide +kernel
theorem dX11_faultOf_49 : decode cX11_faultOf 49 = .ok (.iaload, 1) := by decide +kernel
theorem dX11_faultOf_50 : decode cX11_faultOf 50 = .ok (.bipush 59, 2) := by decide +kernel
theorem dX11_faultOf_52 : decode cX11_faultOf 52 = .ok (.if_icmp .ne 7, 3) := by decide +kernel
theorem dX11_faultOf_55 : decode cX11_faultOf 55 = .ok (.iconst 1, 1) := by decide +kernel
theorem dX11_faultOf_56 : decode cX11_faultOf 56 = .ok (.goto 12, 3) := by decide +kernel
theorem dX11_faultOf_59 : decode cX11_faultOf 59 = .ok (.iconst 0, 1) := by decide +kernel
theorem dX11_faultOf_60 : decode cX11_faultOf 60 = .ok (.goto 8, 3) := by decide +kernel
theorem dX11_faultOf_63 : decode cX11_faultOf 63 = .ok (.aload_n 0, 1) := by decide +kernel
theorem dX11_faultOf_64 : decode cX11_faultOf 64 = .ok (.iload_n 1, 1) := by decide +kernel
theorem dX11_faultOf_65 : decode cX11_faultOf 65 = .ok (.invokevirtual 98, 3) := by decide +kernel
theorem dX11_faultOf_68 : decode cX11_faultOf 68 = .ok (.istore_n 2, 1) := by decide +kernel
theorem dX11_faultOf_69 : decode cX11_faultOf 69 = .ok (.iload_n 1, 1) := by decide +kernel
end
section
theorem dX11_faultOf_70 : decode cX11_faultOf 70 = .ok (.iload_n 2, 1) := by decide +kernel
theorem dX11_faultOf_71 : decode cX11_faultOf 71 = .ok (.ifCond .eq 7, 3) := by decide +kernel
theorem dX11_faultOf_74 : decode cX11_faultOf 74 = .ok (.iconst 1, 1) := by decide +kernel
theorem dX11_faultOf_75 : decode cX11_faultOf 75 = .ok (.goto 4, 3) := by decide +kernel
theorem dX11_faultOf_78 : decode cX11_faultOf 78 = .ok (.iconst 0, 1) := by decide +kernel
theorem dX11_faultOf_79 : decode cX11_faultOf 79 = .ok (.iadd, 1) := by decide +kernel
theorem dX11_faultOf_80 : decode cX11_faultOf 80 = .ok (.istore_n 1, 1) := by decide +kernel
theorem dX11_faultOf_81 : decode cX11_faultOf 81 = .ok (.goto (-77), 3) := by decide +kernel
theorem dX11_faultOf_84 : decode cX11_faultOf 84 = .ok (.iload_n 1, 1) := by decide +kernel
theorem dX11_faultOf_85 : decode cX11_faultOf 85 = .ok (.ireturn, 1) := by decide +kernel
theorem dX11_fault_0 : decode cX11_fault 0 = .ok (.aload_n 0, 1) := by decide +kernel
theorem dX11_fault_1 : decode cX11_fault 1 = .ok (.invokevirtual 101, 3) := by decide +kernel
theorem dX11_fault_4 : decode cX11_fault 4 = .ok (.ireturn, 1) := by decide +kernel
theorem dX11_city_0 : decode cX11_city 0 = .ok (.aload_n 0, 1) := by decide +kernel
theorem dX11_city_1 : decode cX11_city 1 = .ok (.getfield 77, 3) := by decide +kernel
theorem dX11_city_4 : decode cX11_city 4 = .ok (.bipush 11, 2) := by decide +kernel
theorem dX11_city_6 : decode cX11_city 6 = .ok (.if_icmp .lt 24, 3) := by decide +kernel
theorem dX11_city_9 : decode cX11_city 9 = .ok (.aload_n 0, 1) := by decide +kernel
theorem dX11_city_10 : decode cX11_city 10 = .ok (.getfield 77, 3) := by decide +kernel
theorem dX11_city_13 : decode cX11_city 13 = .ok (.iconst 5, 1) := by decide +kernel
theorem dX11_city_14 : decode cX11_city 14 = .ok (.irem, 1) := by decide +kernel
theorem dX11_city_15 : decode cX11_city 15 = .ok (.iconst 1, 1) := by decide +kernel
theorem dX11_city_16 : decode cX11_city 16 = .ok (.if_icmp .ne 14, 3) := by decide +kernel
theorem dX11_city_19 : decode cX11_city 19 = .ok (.aload_n 0, 1) := by decide +kernel
theorem dX11_city_20 : decode cX11_city 20 = .ok (.invokevirtual 101, 3) := by decide +kernel
theorem dX11_city_23 : decode cX11_city 23 = .ok (.aload_n 0, 1) := by decide +kernel
theorem dX11_city_24 : decode cX11_city 24 = .ok (.getfield 77, 3) := by decide +kernel
theorem dX11_city_27 : decode cX11_city 27 = .ok (.if_icmp .ge 6, 3) := by decide +kernel
theorem dX11_city_30 : decode cX11_city 30 = .ok (.bipush (-103), 2) := by decide +kernel
theorem dX11_city_32 : decode cX11_city 32 = .ok (.ireturn, 1) := by decide +kernel
theorem dX11_city_33 : decode cX11_city 33 = .ok (.aload_n 0, 1) := by decide +kernel
theorem dX11_city_34 : decode cX11_city 34 = .ok (.aload_n 0, 1) := by decide +kernel
theorem dX11_city_35 : decode cX11_city 35 = .ok (.getfield 7, 3) := by decide +kernel
theorem dX11_city_38 : decode cX11_city 38 = .ok (.iconst 0, 1) := by decide +kernel
theorem dX11_city_39 : decode cX11_city 39 = .ok (.iaload, 1) := by decide +kernel
theorem dX11_city_40 : decode cX11_city 40 = .ok (.bipush 48, 2) := by decide +kernel
theorem dX11_city_42 : decode cX11_city 42 = .ok (.isub, 1) := by decide +kernel
theorem dX11_city_43 : decode cX11_city 43 = .ok (.putfield 105, 3) := by decide +kernel
theorem dX11_city_46 : decode cX11_city 46 = .ok (.aload_n 0, 1) := by decide +kernel
theorem dX11_city_47 : decode cX11_city 47 = .ok (.aload_n 0, 1) := by decide +kernel
theorem dX11_city_48 : decode cX11_city 48 = .ok (.getfield 77, 3) := by decide +kernel
theorem dX11_city_51 : decode cX11_city 51 = .ok (.iconst 1, 1) := by decide +kernel
theorem dX11_city_52 : decode cX11_city 52 = .ok (.isub, 1) := by decide +kernel
theorem dX11_city_53 : decode cX11_city 53 = .ok (.iconst 5, 1) := by decide +kernel
theorem dX11_city_54 : decode cX11_city 54 = .ok (.idiv, 1) := by decide +kernel
theorem dX11_city_55 : decode cX11_city 55 = .ok (.putfield 108, 3) := by decide +kernel
theorem dX11_city_58 : decode cX11_city 58 = .ok (.iconst 0, 1) := by decide +kernel
theorem dX11_city_59 : decode cX11_city 59 = .ok (.istore_n 1, 1) := by decide +kernel
theorem dX11_city_60 : decode cX11_city 60 = .ok (.iload_n 1, 1) := by decide +kernel
theorem dX11_city_61 : decode cX11_city 61 = .ok (.aload_n 0, 1) := by decide +kernel
theorem dX11_city_62 : decode cX11_city 62 = .ok (.getfield 108, 3) := by decide +kernel
theorem dX11_city_65 : decode cX11_city 65 = .ok (.if_icmp .ge 98, 3) := by decide +kernel
theorem dX11_city_68 : decode cX11_city 68 = .ok (.iconst 2, 1) := by decide +kernel
theorem dX11_city_69 : decode cX11_city 69 = .ok (.iconst 5, 1) := by decide +kernel
theorem dX11_city_70 : decode cX11_city 70 = .ok (.iload_n 1, 1) := by decide +kernel
theorem dX11_city_71 : decode cX11_city 71 = .ok (.imul, 1) := by decide +kernel
theorem dX11_city_72 : decode cX11_city 72 = .ok (.iadd, 1) := by decide +kernel
theorem dX11_city_73 : decode cX11_city 73 = .ok (.istore_n 2, 1) := by decide +kernel
theorem dX11_city_74 : decode cX11_city 74 = .ok (.aload_n 0, 1) := by decide +kernel
theorem dX11_city_75 : decode cX11_city 75 = .ok (.getfield 13, 3) := by decide +kernel
theorem dX11_city_78 : decode cX11_city 78 = .ok (.iconst 3, 1) := by decide +kernel
theorem dX11_city_79 : decode cX11_city 79 = .ok (.iload_n 1, 1) := by decide +kernel
theorem dX11_city_80 : decode cX11_city 80 = .ok (.imul, 1) := by decide +kernel
theorem dX11_city_81 : decode cX11_city 81 = .ok (.aload_n 0, 1) := by decide +kernel
theorem dX11_city_82 : decode cX11_city 82 = .ok (.getfield 7, 3) := by decide +kernel
theorem dX11_city_85 : decode cX11_city 85 = .ok (.iload_n 2, 1) := by decide +kernel
theorem dX11_city_86 : decode cX11_city 86 = .ok (.iaload, 1) := by decide +kernel
theorem dX11_city_87 : decode cX11_city 87 = .ok (.invokestatic 82, 3) := by decide +kernel
theorem dX11_city_90 : decode cX11_city 90 = .ok (.iastore, 1) := by decide +kernel
theorem dX11_city_91 : decode cX11_city 91 = .ok (.aload_n 0, 1) := by decide +kernel
theorem dX11_city_92 : decode cX11_city 92 = .ok (.getfield 13, 3) := by decide +kernel
theorem dX11_city_95 : decode cX11_city 95 = .ok (.iconst 3, 1) := by decide +kernel
theorem dX11_city_96 : decode cX11_city 96 = .ok (.iload_n 1, 1) := by decide +kernel
theorem dX11_city_97 : decode cX11_city 97 = .ok (.imul, 1) := by decide +kernel
theorem dX11_city_98 : decode cX11_city 98 = .ok (.iconst 1, 1) := by decide +kernel
theorem dX11_city_99 : decode cX11_city 99 = .ok (.iadd, 1) := by decide +kernel
theorem dX11_city_100 : decode cX11_city 100 = .ok (.aload_n 0, 1) := by decide +kernel
theorem dX11_city_101 : decode cX11_city 101 = .ok (.getfield 7, 3) := by decide +kernel
theorem dX11_city_104 : decode cX11_city 104 = .ok (.iload_n 2, 1) := by decide +kernel
theorem dX11_city_105 : decode cX11_city 105 = .ok (.iconst 1, 1) := by decide +kernel
theorem dX11_city_106 : decode cX11_city 106 = .ok (.iadd, 1) := by decide +kernel
theorem dX11_city_107 : decode cX11_city 107 = .ok (.iaload, 1) := by decide +kernel
theorem dX11_city_108 : decode cX11_city 108 = .ok (.bipush 48, 2) := by decide +kernel
theorem dX11_city_110 : decode cX11_city 110 = .ok (.isub, 1) := by decide +kernel
theorem dX11_city_111 : decode cX11_city 111 = .ok (.iastore, 1) := by decide +kernel
theorem dX11_city_112 : decode cX11_city 112 = .ok (.aload_n 0, 1) := by decide +kernel
theorem dX11_city_113 : decode cX11_city 113 = .ok (.getfield 13, 3) := by decide +kernel
theorem dX11_city_116 : decode cX11_city 116 = .ok (.iconst 3, 1) := by decide +kernel
theorem dX11_city_117 : decode cX11_city 117 = .ok (.iload_n 1, 1) := by decide +kernel
theorem dX11_city_118 : decode cX11_city 118 = .ok (.imul, 1) := by decide +kernel
theorem dX11_city_119 : decode cX11_city 119 = .ok (.iconst 2, 1) := by decide +kernel
theorem dX11_city_120 : decode cX11_city 120 = .ok (.iadd, 1) := by decide +kernel
theorem dX11_city_121 : decode cX11_city 121 = .ok (.aload_n 0, 1) := by decide +kernel
theorem dX11_city_122 : decode cX11_city 122 = .ok (.getfield 7, 3) := by decide +kernel
theorem dX11_city_125 : decode cX11_city 125 = .ok (.iload_n 2, 1) := by decide +kernel
theorem dX11_city_126 : decode cX11_city 126 = .ok (.iconst 2, 1) := by decide +kernel
theorem dX11_city_127 : decode cX11_city 127 = .ok (.iadd, 1) := by decide +kernel
theorem dX11_city_128 : decode cX11_city 128 = .ok (.iaload, 1) := by decide +kernel
theorem dX11_city_129 : decode cX11_city 129 = .ok (.bipush 48, 2) := by decide +kernel
theorem dX11_city_131 : decode cX11_city 131 = .ok (.isub, 1) := by decide +kernel
theorem dX11_city_132 : decode cX11_city 132 = .ok (.iastore, 1) := by decide +kernel
theorem dX11_city_133 : decode cX11_city 133 = .ok (.aload_n 0, 1) := by decide +kernel
theorem dX11_city_134 : decode cX11_city 134 = .ok (.getfield 16, 3) := by decide +kernel
theorem dX11_city_137 : decode cX11_city 137 = .ok (.iload_n 1, 1) := by decide +kernel
theorem dX11_city_138 : decode cX11_city 138 = .ok (.aload_n 0, 1) := by decide +kernel
theorem dX11_city_139 : decode cX11_city 139 = .ok (.getfield 7, 3) := by decide +kernel
theorem dX11_city_142 : decode cX11_city 142 = .ok (.iload_n 2, 1) := by decide +kernel
theorem dX11_city_143 : decode cX11_city 143 = .ok (.iconst 3, 1) := by decide +kernel
theorem dX11_city_144 : decode cX11_city 144 = .ok (.iadd, 1) := by decide +kernel
theorem dX11_city_145 : decode cX11_city 145 = .ok (.iaload, 1) := by decide +kernel
theorem dX11_city_146 : decode cX11_city 146 = .ok (.bipush 97, 2) := by decide +kernel
theorem dX11_city_148 : decode cX11_city 148 = .ok (.isub, 1) := by decide +kernel
theorem dX11_city_149 : decode cX11_city 149 = .ok (.iastore, 1) := by decide +kernel
theorem dX11_city_150 : decode cX11_city 150 = .ok (.aload_n 0, 1) := by decide +kernel
theorem dX11_city_151 : decode cX11_city 151 = .ok (.getfield 19, 3) := by decide +kernel
theorem dX11_city_154 : decode cX11_city 154 = .ok (.iload_n 1, 1) := by decide +kernel
theorem dX11_city_155 : decode cX11_city 155 = .ok (.iconst 0, 1) := by decide +kernel
theorem dX11_city_156 : decode cX11_city 156 = .ok (.iastore, 1) := by decide +kernel
theorem dX11_city_157 : decode cX11_city 157 = .ok (.iinc 1 1, 3) := by decide +kernel
theorem dX11_city_160 : decode cX11_city 160 = .ok (.goto (-100), 3) := by decide +kernel
theorem dX11_city_163 : decode cX11_city 163 = .ok (.aload_n 0, 1) := by decide +kernel
theorem dX11_city_164 : decode cX11_city 164 = .ok (.iconst 0, 1) := by decide +kernel
theorem dX11_city_165 : decode cX11_city 165 = .ok (.putfield 111, 3) := by decide +kernel
theorem dX11_city_168 : decode cX11_city 168 = .ok (.aload_n 0, 1) := by decide +kernel
theorem dX11_city_169 : decode cX11_city 169 = .ok (.iconst 0, 1) := by decide +kernel
theorem dX11_city_170 : decode cX11_city 170 = .ok (.putfield 114, 3) := by decide +kernel
theorem dX11_city_173 : decode cX11_city 173 = .ok (.aload_n 0, 1) := by decide +kernel
theorem dX11_city_174 : decode cX11_city 174 = .ok (.iconst 0, 1) := by decide +kernel
theorem dX11_city_175 : decode cX11_city 175 = .ok (.putfield 118, 3) := by decide +kernel
theorem dX11_city_178 : decode cX11_city 178 = .ok (.aload_n 0, 1) := by decide +kernel
theorem dX11_city_179 : decode cX11_city 179 = .ok (.iconst 0, 1) := by decide +kernel
theorem dX11_city_180 : decode cX11_city 180 = .ok (.putfield 121, 3) := by decide +kernel
theorem dX11_city_183 : decode cX11_city 183 = .ok (.aload_n 0, 1) := by decide +kernel
theorem dX11_city_184 : decode cX11_city 184 = .ok (.dup, 1) := by decide +kernel
theorem dX11_city_185 : decode cX11_city 185 = .ok (.getfield 124, 3) := by decide +kernel
theorem dX11_city_188 : decode cX11_city 188 = .ok (.iconst 1, 1) := by decide +kernel
theorem dX11_city_189 : decode cX11_city 189 = .ok (.iadd, 1) := by decide +kernel
theorem dX11_city_190 : decode cX11_city 190 = .ok (.putfield 124, 3) := by decide +kernel
theorem dX11_city_193 : decode cX11_city 193 = .ok (.aload_n 0, 1) := by decide +kernel
theorem dX11_city_194 : decode cX11_city 194 = .ok (.iconst 0, 1) := by decide +kernel
theorem dX11_city_195 : decode cX11_city 195 = .ok (.putfield 77, 3) := by decide +kernel
theorem dX11_city_198 : decode cX11_city 198 = .ok (.aload_n 0, 1) := by decide +kernel
theorem dX11_city_199 : decode cX11_city 199 = .ok (.getfield 108, 3) := by decide +kernel
theorem dX11_city_202 : decode cX11_city 202 = .ok (.ireturn, 1) := by decide +kernel
theorem dX11_lacks_0 : decode cX11_lacks 0 = .ok (.aload_n 0, 1) := by decide +kernel
theorem dX11_lacks_1 : decode cX11_lacks 1 = .ok (.getfield 108, 3) := by decide +kernel
theorem dX11_lacks_4 : decode cX11_lacks 4 = .ok (.ifCond .ne 7, 3) := by decide +kernel
theorem dX11_lacks_7 : decode cX11_lacks 7 = .ok (.iconst 1, 1) := by decide +kernel
theorem dX11_lacks_8 : decode cX11_lacks 8 = .ok (.goto 4, 3) := by decide +kernel
theorem dX11_lacks_11 : decode cX11_lacks 11 = .ok (.iconst 0, 1) := by decide +kernel
theorem dX11_lacks_12 : decode cX11_lacks 12 = .ok (.ireturn, 1) := by decide +kernel
theorem dX11_isStreet_0 : decode cX11_isStreet 0 = .ok (.iload_n 1, 1) := by decide +kernel
theorem dX11_isStreet_1 : decode cX11_isStreet 1 = .ok (.i2l, 1) := by decide +kernel
theorem dX11_isStreet_2 : decode cX11_isStreet 2 = .ok (.lconst 0, 1) := by decide +kernel
theorem dX11_isStreet_3 : decode cX11_isStreet 3 = .ok (.aload_n 0, 1) := by decide +kernel
theorem dX11_isStreet_4 : decode cX11_isStreet 4 = .ok (.getfield 108, 3) := by decide +kernel
theorem dX11_isStreet_7 : decode cX11_isStreet 7 = .ok (.iconst 1, 1) := by decide +kernel
theorem dX11_isStreet_8 : decode cX11_isStreet 8 = .ok (.isub, 1) := by decide +kernel
theorem dX11_isStreet_9 : decode cX11_isStreet 9 = .ok (.i2l, 1) := by decide +kernel
theorem dX11_isStreet_10 : decode cX11_isStreet 10 = .ok (.invokestatic 73, 3) := by decide +kernel
theorem dX11_isStreet_13 : decode cX11_isStreet 13 = .ok (.ireturn, 1) := by decide +kernel
theorem dX11_isNote_0 : decode cX11_isNote 0 = .ok (.iload_n 0, 1) := by decide +kernel
theorem dX11_isNote_1 : decode cX11_isNote 1 = .ok (.i2l, 1) := by decide +kernel
theorem dX11_isNote_2 : decode cX11_isNote 2 = .ok (.lconst 0, 1) := by decide +kernel
theorem dX11_isNote_3 : decode cX11_isNote 3 = .ok (.ldc2_w 127, 3) := by decide +kernel
theorem dX11_isNote_6 : decode cX11_isNote 6 = .ok (.invokestatic 73, 3) := by decide +kernel
theorem dX11_isNote_9 : decode cX11_isNote 9 = .ok (.ireturn, 1) := by decide +kernel
theorem dX11_isTuneText_0 : decode cX11_isTuneText 0 = .ok (.aload_n 0, 1) := by decide +kernel
theorem dX11_isTuneText_1 : decode cX11_isTuneText 1 = .ok (.getfield 77, 3) := by decide +kernel
theorem dX11_isTuneText_4 : decode cX11_isTuneText 4 = .ok (.i2l, 1) := by decide +kernel
theorem dX11_isTuneText_5 : decode cX11_isTuneText 5 = .ok (.lconst 1, 1) := by decide +kernel
theorem dX11_isTuneText_6 : decode cX11_isTuneText 6 = .ok (.ldc2_w 129, 3) := by decide +kernel
theorem dX11_isTuneText_9 : decode cX11_isTuneText 9 = .ok (.invokestatic 73, 3) := by decide +kernel
theorem dX11_isTuneText_12 : decode cX11_isTuneText 12 = .ok (.istore_n 1, 1) := by decide +kernel
theorem dX11_isTuneText_13 : decode cX11_isTuneText 13 = .ok (.iconst 0, 1) := by decide +kernel
theorem dX11_isTuneText_14 : decode cX11_isTuneText 14 = .ok (.istore_n 2, 1) := by decide +kernel
theorem dX11_isTuneText_15 : decode cX11_isTuneText 15 = .ok (.iload_n 2, 1) := by decide +kernel
theorem dX11_isTuneText_16 : decode cX11_isTuneText 16 = .ok (.aload_n 0, 1) := by decide +kernel
theorem dX11_isTuneText_17 : decode cX11_isTuneText 17 = .ok (.getfield 77, 3) := by decide +kernel
theorem dX11_isTuneText_20 : decode cX11_isTuneText 20 = .ok (.if_icmp .ge 38, 3) := by decide +kernel
theorem dX11_isTuneText_23 : decode cX11_isTuneText 23 = .ok (.iload_n 1, 1) := by decide +kernel
theorem dX11_isTuneText_24 : decode cX11_isTuneText 24 = .ok (.ifCond .eq 26, 3) := by decide +kernel
theorem dX11_isTuneText_27 : decode cX11_isTuneText 27 = .ok (.aload_n 0, 1) := by decide +kernel
theorem dX11_isTuneText_28 : decode cX11_isTuneText 28 = .ok (.getfield 7, 3) := by decide +kernel
theorem dX11_isTuneText_31 : decode cX11_isTuneText 31 = .ok (.iload_n 2, 1) := by decide +kernel
theorem dX11_isTuneText_32 : decode cX11_isTuneText 32 = .ok (.iaload, 1) := by decide +kernel
theorem dX11_isTuneText_33 : decode cX11_isTuneText 33 = .ok (.i2l, 1) := by decide +kernel
theorem dX11_isTuneText_34 : decode cX11_isTuneText 34 = .ok (.ldc2_w 90, 3) := by decide +kernel
theorem dX11_isTuneText_37 : decode cX11_isTuneText 37 = .ok (.ldc2_w 92, 3) := by decide +kernel
theorem dX11_isTuneText_40 : decode cX11_isTuneText 40 = .ok (.invokestatic 73, 3) := by decide +kernel
theorem dX11_isTuneText_43 : decode cX11_isTuneText 43 = .ok (.ifCond .eq 7, 3) := by decide +kernel
theorem dX11_isTuneText_46 : decode cX11_isTuneText 46 = .ok (.iconst 1, 1) := by decide +kernel
theorem dX11_isTuneText_47 : decode cX11_isTuneText 47 = .ok (.goto 4, 3) := by decide +kernel
theorem dX11_isTuneText_50 : decode cX11_isTuneText 50 = .ok (.iconst 0, 1) := by decide +kernel
theorem dX11_isTuneText_51 : decode cX11_isTuneText 51 = .ok (.istore_n 1, 1) := by decide +kernel
theorem dX11_isTuneText_52 : decode cX11_isTuneText 52 = .ok (.iinc 2 1, 3) := by decide +kernel
theorem dX11_isTuneText_55 : decode cX11_isTuneText 55 = .ok (.goto (-40), 3) := by decide +kernel
theorem dX11_isTuneText_58 : decode cX11_isTuneText 58 = .ok (.iload_n 1, 1) := by decide +kernel
theorem dX11_isTuneText_59 : decode cX11_isTuneText 59 = .ok (.ireturn, 1) := by decide +kernel
theorem dX11_tune_0 : decode cX11_tune 0 = .ok (.iload_n 1, 1) := by decide +kernel
theorem dX11_tune_1 : decode cX11_tune 1 = .ok (.i2l, 1) := by decide +kernel
theorem dX11_tune_2 : decode cX11_tune 2 = .ok (.lconst 0, 1) := by decide +kernel
theorem dX11_tune_3 : decode cX11_tune 3 = .ok (.lconst 1, 1) := by decide +kernel
theorem dX11_tune_4 : decode cX11_tune 4 = .ok (.invokestatic 73, 3) := by decide +kernel
theorem dX11_tune_7 : decode cX11_tune 7 = .ok (.ifCond .ne 6, 3) := by decide +kernel
theorem dX11_tune_10 : decode cX11_tune 10 = .ok (.bipush (-101), 2) := by decide +kernel
theorem dX11_tune_12 : decode cX11_tune 12 = .ok (.ireturn, 1) := by decide +kernel
theorem dX11_tune_13 : decode cX11_tune 13 = .ok (.aload_n 0, 1) := by decide +kernel
theorem dX11_tune_14 : decode cX11_tune 14 = .ok (.invokevirtual 131, 3) := by decide +kernel
theorem dX11_tune_17 : decode cX11_tune 17 = .ok (.ifCond .ne 6, 3) := by decide +kernel
theorem dX11_tune_20 : decode cX11_tune 20 = .ok (.bipush (-103), 2) := by decide +kernel
theorem dX11_tune_22 : decode cX11_tune 22 = .ok (.ireturn, 1) := by decide +kernel
theorem dX11_tune_23 : decode cX11_tune 23 = .ok (.aload_n 0, 1) := by decide +kernel
theorem dX11_tune_24 : decode cX11_tune 24 = .ok (.getfield 77, 3) := by decide +kernel
theorem dX11_tune_27 : decode cX11_tune 27 = .ok (.istore_n 2, 1) := by decide +kernel
theorem dX11_tune_28 : decode cX11_tune 28 = .ok (.iconst 0, 1) := by decide +kernel
theorem dX11_tune_29 : decode cX11_tune 29 = .ok (.istore_n 3, 1) := by decide +kernel
theorem dX11_tune_30 : decode cX11_tune 30 = .ok (.iload_n 3, 1) := by decide +kernel
theorem dX11_tune_31 : decode cX11_tune 31 = .ok (.iload_n 2, 1) := by decide +kernel
theorem dX11_tune_32 : decode cX11_tune 32 = .ok (.if_icmp .ge 46, 3) := by decide +kernel
theorem dX11_tune_35 : decode cX11_tune 35 = .ok (.iload_n 1, 1) := by decide +kernel
theorem dX11_tune_36 : decode cX11_tune 36 = .ok (.ifCond .ne 21, 3) := by decide +kernel
theorem dX11_tune_39 : decode cX11_tune 39 = .ok (.aload_n 0, 1) := by decide +kernel
theorem dX11_tune_40 : decode cX11_tune 40 = .ok (.getfield 22, 3) := by decide +kernel
theorem dX11_tune_43 : decode cX11_tune 43 = .ok (.iload_n 3, 1) := by decide +kernel
theorem dX11_tune_44 : decode cX11_tune 44 = .ok (.aload_n 0, 1) := by decide +kernel
theorem dX11_tune_45 : decode cX11_tune 45 = .ok (.getfield 7, 3) := by decide +kernel
theorem dX11_tune_48 : decode cX11_tune 48 = .ok (.iload_n 3, 1) := by decide +kernel
theorem dX11_tune_49 : decode cX11_tune 49 = .ok (.iaload, 1) := by decide +kernel
theorem dX11_tune_50 : decode cX11_tune 50 = .ok (.bipush 97, 2) := by decide +kernel
theorem dX11_tune_52 : decode cX11_tune 52 = .ok (.isub, 1) := by decide +kernel
theorem dX11_tune_53 : decode cX11_tune 53 = .ok (.iastore, 1) := by decide +kernel
theorem dX11_tune_54 : decode cX11_tune 54 = .ok (.goto 18, 3) := by decide +kernel
theorem dX11_tune_57 : decode cX11_tune 57 = .ok (.aload_n 0, 1) := by decide +kernel
theorem dX11_tune_58 : decode cX11_tune 58 = .ok (.getfield 25, 3) := by decide +kernel
theorem dX11_tune_61 : decode cX11_tune 61 = .ok (.iload_n 3, 1) := by decide +kernel
theorem dX11_tune_62 : decode cX11_tune 62 = .ok (.aload_n 0, 1) := by decide +kernel
theorem dX11_tune_63 : decode cX11_tune 63 = .ok (.getfield 7, 3) := by decide +kernel
theorem dX11_tune_66 : decode cX11_tune 66 = .ok (.iload_n 3, 1) := by decide +kernel
theorem dX11_tune_67 : decode cX11_tune 67 = .ok (.iaload, 1) := by decide +kernel
theorem dX11_tune_68 : decode cX11_tune 68 = .ok (.bipush 97, 2) := by decide +kernel
theorem dX11_tune_70 : decode cX11_tune 70 = .ok (.isub, 1) := by decide +kernel
theorem dX11_tune_71 : decode cX11_tune 71 = .ok (.iastore, 1) := by decide +kernel
theorem dX11_tune_72 : decode cX11_tune 72 = .ok (.iinc 3 1, 3) := by decide +kernel
theorem dX11_tune_75 : decode cX11_tune 75 = .ok (.goto (-45), 3) := by decide +kernel
theorem dX11_tune_78 : decode cX11_tune 78 = .ok (.iload_n 1, 1) := by decide +kernel
theorem dX11_tune_79 : decode cX11_tune 79 = .ok (.ifCond .ne 11, 3) := by decide +kernel
theorem dX11_tune_82 : decode cX11_tune 82 = .ok (.aload_n 0, 1) := by decide +kernel
theorem dX11_tune_83 : decode cX11_tune 83 = .ok (.iload_n 2, 1) := by decide +kernel
theorem dX11_tune_84 : decode cX11_tune 84 = .ok (.putfield 135, 3) := by decide +kernel
theorem dX11_tune_87 : decode cX11_tune 87 = .ok (.goto 8, 3) := by decide +kernel
theorem dX11_tune_90 : decode cX11_tune 90 = .ok (.aload_n 0, 1) := by decide +kernel
theorem dX11_tune_91 : decode cX11_tune 91 = .ok (.iload_n 2, 1) := by decide +kernel
theorem dX11_tune_92 : decode cX11_tune 92 = .ok (.putfield 138, 3) := by decide +kernel
theorem dX11_tune_95 : decode cX11_tune 95 = .ok (.aload_n 0, 1) := by decide +kernel
theorem dX11_tune_96 : decode cX11_tune 96 = .ok (.iconst 0, 1) := by decide +kernel
theorem dX11_tune_97 : decode cX11_tune 97 = .ok (.putfield 77, 3) := by decide +kernel
theorem dX11_tune_100 : decode cX11_tune 100 = .ok (.iload_n 2, 1) := by decide +kernel
theorem dX11_tune_101 : decode cX11_tune 101 = .ok (.ireturn, 1) := by decide +kernel
theorem dX11_manyOf_0 : decode cX11_manyOf 0 = .ok (.iload_n 1, 1) := by decide +kernel
theorem dX11_manyOf_1 : decode cX11_manyOf 1 = .ok (.ifCond .ne 10, 3) := by decide +kernel
theorem dX11_manyOf_4 : decode cX11_manyOf 4 = .ok (.aload_n 0, 1) := by decide +kernel
theorem dX11_manyOf_5 : decode cX11_manyOf 5 = .ok (.getfield 135, 3) := by decide +kernel
theorem dX11_manyOf_8 : decode cX11_manyOf 8 = .ok (.goto 7, 3) := by decide +kernel
theorem dX11_manyOf_11 : decode cX11_manyOf 11 = .ok (.aload_n 0, 1) := by decide +kernel
theorem dX11_manyOf_12 : decode cX11_manyOf 12 = .ok (.getfield 138, 3) := by decide +kernel
theorem dX11_manyOf_15 : decode cX11_manyOf 15 = .ok (.ireturn, 1) := by decide +kernel
theorem dX11_isTune_0 : decode cX11_isTune 0 = .ok (.iload_n 1, 1) := by decide +kernel
theorem dX11_isTune_1 : decode cX11_isTune 1 = .ok (.i2l, 1) := by decide +kernel
theorem dX11_isTune_2 : decode cX11_isTune 2 = .ok (.lconst 0, 1) := by decide +kernel
theorem dX11_isTune_3 : decode cX11_isTune 3 = .ok (.lconst 1, 1) := by decide +kernel
theorem dX11_isTune_4 : decode cX11_isTune 4 = .ok (.invokestatic 73, 3) := by decide +kernel
theorem dX11_isTune_7 : decode cX11_isTune 7 = .ok (.ifCond .eq 15, 3) := by decide +kernel
theorem dX11_isTune_10 : decode cX11_isTune 10 = .ok (.aload_n 0, 1) := by decide +kernel
theorem dX11_isTune_11 : decode cX11_isTune 11 = .ok (.iload_n 1, 1) := by decide +kernel
theorem dX11_isTune_12 : decode cX11_isTune 12 = .ok (.invokevirtual 141, 3) := by decide +kernel
theorem dX11_isTune_15 : decode cX11_isTune 15 = .ok (.ifCond .le 7, 3) := by decide +kernel
theorem dX11_isTune_18 : decode cX11_isTune 18 = .ok (.iconst 1, 1) := by decide +kernel
theorem dX11_isTune_19 : decode cX11_isTune 19 = .ok (.goto 4, 3) := by decide +kernel
theorem dX11_isTune_22 : decode cX11_isTune 22 = .ok (.iconst 0, 1) := by decide +kernel
theorem dX11_isTune_23 : decode cX11_isTune 23 = .ok (.ireturn, 1) := by decide +kernel
theorem dX11_areBoth_0 : decode cX11_areBoth 0 = .ok (.aload_n 0, 1) := by decide +kernel
theorem dX11_areBoth_1 : decode cX11_areBoth 1 = .ok (.getfield 135, 3) := by decide +kernel
theorem dX11_areBoth_4 : decode cX11_areBoth 4 = .ok (.ifCond .le 14, 3) := by decide +kernel
theorem dX11_areBoth_7 : decode cX11_areBoth 7 = .ok (.aload_n 0, 1) := by decide +kernel
theorem dX11_areBoth_8 : decode cX11_areBoth 8 = .ok (.getfield 138, 3) := by decide +kernel
theorem dX11_areBoth_11 : decode cX11_areBoth 11 = .ok (.ifCond .le 7, 3) := by decide +kernel
theorem dX11_areBoth_14 : decode cX11_areBoth 14 = .ok (.iconst 1, 1) := by decide +kernel
theorem dX11_areBoth_15 : decode cX11_areBoth 15 = .ok (.goto 4, 3) := by decide +kernel
theorem dX11_areBoth_18 : decode cX11_areBoth 18 = .ok (.iconst 0, 1) := by decide +kernel
theorem dX11_areBoth_19 : decode cX11_areBoth 19 = .ok (.ireturn, 1) := by decide +kernel
theorem dX11_noteAt_0 : decode cX11_noteAt 0 = .ok (.iload_n 1, 1) := by decide +kernel
theorem dX11_noteAt_1 : decode cX11_noteAt 1 = .ok (.ifCond .ne 12, 3) := by decide +kernel
theorem dX11_noteAt_4 : decode cX11_noteAt 4 = .ok (.aload_n 0, 1) := by decide +kernel
theorem dX11_noteAt_5 : decode cX11_noteAt 5 = .ok (.getfield 22, 3) := by decide +kernel
theorem dX11_noteAt_8 : decode cX11_noteAt 8 = .ok (.iload_n 2, 1) := by decide +kernel
theorem dX11_noteAt_9 : decode cX11_noteAt 9 = .ok (.iaload, 1) := by decide +kernel
theorem dX11_noteAt_10 : decode cX11_noteAt 10 = .ok (.goto 9, 3) := by decide +kernel
theorem dX11_noteAt_13 : decode cX11_noteAt 13 = .ok (.aload_n 0, 1) := by decide +kernel
theorem dX11_noteAt_14 : decode cX11_noteAt 14 = .ok (.getfield 25, 3) := by decide +kernel
theorem dX11_noteAt_17 : decode cX11_noteAt 17 = .ok (.iload_n 2, 1) := by decide +kernel
theorem dX11_noteAt_18 : decode cX11_noteAt 18 = .ok (.iaload, 1) := by decide +kernel
theorem dX11_noteAt_19 : decode cX11_noteAt 19 = .ok (.ireturn, 1) := by decide +kernel
theorem dX11_tritonesOf_0 : decode cX11_tritonesOf 0 = .ok (.iconst 0, 1) := by decide +kernel
theorem dX11_tritonesOf_1 : decode cX11_tritonesOf 1 = .ok (.istore_n 2, 1) := by decide +kernel
theorem dX11_tritonesOf_2 : decode cX11_tritonesOf 2 = .ok (.iconst 1, 1) := by decide +kernel
theorem dX11_tritonesOf_3 : decode cX11_tritonesOf 3 = .ok (.istore_n 3, 1) := by decide +kernel
theorem dX11_tritonesOf_4 : decode cX11_tritonesOf 4 = .ok (.iload_n 3, 1) := by decide +kernel
theorem dX11_tritonesOf_5 : decode cX11_tritonesOf 5 = .ok (.iload_n 1, 1) := by decide +kernel
theorem dX11_tritonesOf_6 : decode cX11_tritonesOf 6 = .ok (.if_icmp .ge 33, 3) := by decide +kernel
theorem dX11_tritonesOf_9 : decode cX11_tritonesOf 9 = .ok (.iload_n 2, 1) := by decide +kernel
theorem dX11_tritonesOf_10 : decode cX11_tritonesOf 10 = .ok (.aload_n 0, 1) := by decide +kernel
theorem dX11_tritonesOf_11 : decode cX11_tritonesOf 11 = .ok (.iload_n 3, 1) := by decide +kernel
theorem dX11_tritonesOf_12 : decode cX11_tritonesOf 12 = .ok (.iaload, 1) := by decide +kernel
theorem dX11_tritonesOf_13 : decode cX11_tritonesOf 13 = .ok (.aload_n 0, 1) := by decide +kernel
theorem dX11_tritonesOf_14 : decode cX11_tritonesOf 14 = .ok (.iload_n 3, 1) := by decide +kernel
theorem dX11_tritonesOf_15 : decode cX11_tritonesOf 15 = .ok (.iconst 1, 1) := by decide +kernel
theorem dX11_tritonesOf_16 : decode cX11_tritonesOf 16 = .ok (.isub, 1) := by decide +kernel
theorem dX11_tritonesOf_17 : decode cX11_tritonesOf 17 = .ok (.iaload, 1) := by decide +kernel
theorem dX11_tritonesOf_18 : decode cX11_tritonesOf 18 = .ok (.invokestatic 144, 3) := by decide +kernel
theorem dX11_tritonesOf_21 : decode cX11_tritonesOf 21 = .ok (.bipush 6, 2) := by decide +kernel
theorem dX11_tritonesOf_23 : decode cX11_tritonesOf 23 = .ok (.if_icmp .ne 7, 3) := by decide +kernel
theorem dX11_tritonesOf_26 : decode cX11_tritonesOf 26 = .ok (.iconst 1, 1) := by decide +kernel
theorem dX11_tritonesOf_27 : decode cX11_tritonesOf 27 = .ok (.goto 4, 3) := by decide +kernel
theorem dX11_tritonesOf_30 : decode cX11_tritonesOf 30 = .ok (.iconst 0, 1) := by decide +kernel
theorem dX11_tritonesOf_31 : decode cX11_tritonesOf 31 = .ok (.iadd, 1) := by decide +kernel
theorem dX11_tritonesOf_32 : decode cX11_tritonesOf 32 = .ok (.istore_n 2, 1) := by decide +kernel
theorem dX11_tritonesOf_33 : decode cX11_tritonesOf 33 = .ok (.iinc 3 1, 3) := by decide +kernel
theorem dX11_tritonesOf_36 : decode cX11_tritonesOf 36 = .ok (.goto (-32), 3) := by decide +kernel
theorem dX11_tritonesOf_39 : decode cX11_tritonesOf 39 = .ok (.iload_n 2, 1) := by decide +kernel
theorem dX11_tritonesOf_40 : decode cX11_tritonesOf 40 = .ok (.ireturn, 1) := by decide +kernel
theorem dX11_isInScale_0 : decode cX11_isInScale 0 = .ok (.iload_n 0, 1) := by decide +kernel
theorem dX11_isInScale_1 : decode cX11_isInScale 1 = .ok (.bipush 12, 2) := by decide +kernel
theorem dX11_isInScale_3 : decode cX11_isInScale 3 = .ok (.if_icmp .ge 9, 3) := by decide +kernel
theorem dX11_isInScale_6 : decode cX11_isInScale 6 = .ok (.sipush 2741, 3) := by decide +kernel
theorem dX11_isInScale_9 : decode cX11_isInScale 9 = .ok (.goto 6, 3) := by decide +kernel
theorem dX11_isInScale_12 : decode cX11_isInScale 12 = .ok (.sipush 1453, 3) := by decide +kernel
theorem dX11_isInScale_15 : decode cX11_isInScale 15 = .ok (.istore_n 2, 1) := by decide +kernel
theorem dX11_isInScale_16 : decode cX11_isInScale 16 = .ok (.iload_n 2, 1) := by decide +kernel
theorem dX11_isInScale_17 : decode cX11_isInScale 17 = .ok (.iload_n 1, 1) := by decide +kernel
theorem dX11_isInScale_18 : decode cX11_isInScale 18 = .ok (.ishr, 1) := by decide +kernel
theorem dX11_isInScale_19 : decode cX11_isInScale 19 = .ok (.iconst 1, 1) := by decide +kernel
theorem dX11_isInScale_20 : decode cX11_isInScale 20 = .ok (.iand, 1) := by decide +kernel
theorem dX11_isInScale_21 : decode cX11_isInScale 21 = .ok (.iconst 1, 1) := by decide +kernel
theorem dX11_isInScale_22 : decode cX11_isInScale 22 = .ok (.if_icmp .ne 7, 3) := by decide +kernel
theorem dX11_isInScale_25 : decode cX11_isInScale 25 = .ok (.iconst 1, 1) := by decide +kernel
theorem dX11_isInScale_26 : decode cX11_isInScale 26 = .ok (.goto 4, 3) := by decide +kernel
theorem dX11_isInScale_29 : decode cX11_isInScale 29 = .ok (.iconst 0, 1) := by decide +kernel
theorem dX11_isInScale_30 : decode cX11_isInScale 30 = .ok (.ireturn, 1) := by decide +kernel
theorem dX11_inKey_0 : decode cX11_inKey 0 = .ok (.iconst 0, 1) := by decide +kernel
theorem dX11_inKey_1 : decode cX11_inKey 1 = .ok (.istore_n 3, 1) := by decide +kernel
theorem dX11_inKey_2 : decode cX11_inKey 2 = .ok (.iconst 0, 1) := by decide +kernel
theorem dX11_inKey_3 : decode cX11_inKey 3 = .ok (.istore 4, 2) := by decide +kernel
theorem dX11_inKey_5 : decode cX11_inKey 5 = .ok (.iload 4, 2) := by decide +kernel
theorem dX11_inKey_7 : decode cX11_inKey 7 = .ok (.aload_n 0, 1) := by decide +kernel
theorem dX11_inKey_8 : decode cX11_inKey 8 = .ok (.iload_n 1, 1) := by decide +kernel
theorem dX11_inKey_9 : decode cX11_inKey 9 = .ok (.invokevirtual 141, 3) := by decide +kernel
theorem dX11_inKey_12 : decode cX11_inKey 12 = .ok (.if_icmp .ge 38, 3) := by decide +kernel
theorem dX11_inKey_15 : decode cX11_inKey 15 = .ok (.iload_n 3, 1) := by decide +kernel
theorem dX11_inKey_16 : decode cX11_inKey 16 = .ok (.iload_n 2, 1) := by decide +kernel
theorem dX11_inKey_17 : decode cX11_inKey 17 = .ok (.aload_n 0, 1) := by decide +kernel
theorem dX11_inKey_18 : decode cX11_inKey 18 = .ok (.iload_n 1, 1) := by decide +kernel
theorem dX11_inKey_19 : decode cX11_inKey 19 = .ok (.iload 4, 2) := by decide +kernel
theorem dX11_inKey_21 : decode cX11_inKey 21 = .ok (.invokevirtual 148, 3) := by decide +kernel
theorem dX11_inKey_24 : decode cX11_inKey 24 = .ok (.iload_n 2, 1) := by decide +kernel
theorem dX11_inKey_25 : decode cX11_inKey 25 = .ok (.bipush 12, 2) := by decide +kernel
theorem dX11_inKey_27 : decode cX11_inKey 27 = .ok (.irem, 1) := by decide +kernel
theorem dX11_inKey_28 : decode cX11_inKey 28 = .ok (.invokestatic 144, 3) := by decide +kernel
theorem dX11_inKey_31 : decode cX11_inKey 31 = .ok (.invokestatic 151, 3) := by decide +kernel
theorem dX11_inKey_34 : decode cX11_inKey 34 = .ok (.ifCond .eq 7, 3) := by decide +kernel
theorem dX11_inKey_37 : decode cX11_inKey 37 = .ok (.iconst 1, 1) := by decide +kernel
theorem dX11_inKey_38 : decode cX11_inKey 38 = .ok (.goto 4, 3) := by decide +kernel
theorem dX11_inKey_41 : decode cX11_inKey 41 = .ok (.iconst 0, 1) := by decide +kernel
theorem dX11_inKey_42 : decode cX11_inKey 42 = .ok (.iadd, 1) := by decide +kernel
theorem dX11_inKey_43 : decode cX11_inKey 43 = .ok (.istore_n 3, 1) := by decide +kernel
theorem dX11_inKey_44 : decode cX11_inKey 44 = .ok (.iinc 4 1, 3) := by decide +kernel
theorem dX11_inKey_47 : decode cX11_inKey 47 = .ok (.goto (-42), 3) := by decide +kernel
theorem dX11_inKey_50 : decode cX11_inKey 50 = .ok (.iload_n 3, 1) := by decide +kernel
theorem dX11_inKey_51 : decode cX11_inKey 51 = .ok (.ireturn, 1) := by decide +kernel
theorem dX11_keyOf_0 : decode cX11_keyOf 0 = .ok (.iconst 0, 1) := by decide +kernel
theorem dX11_keyOf_1 : decode cX11_keyOf 1 = .ok (.istore_n 2, 1) := by decide +kernel
theorem dX11_keyOf_2 : decode cX11_keyOf 2 = .ok (.iconst 1, 1) := by decide +kernel
theorem dX11_keyOf_3 : decode cX11_keyOf 3 = .ok (.istore_n 3, 1) := by decide +kernel
theorem dX11_keyOf_4 : decode cX11_keyOf 4 = .ok (.iload_n 3, 1) := by decide +kernel
theorem dX11_keyOf_5 : decode cX11_keyOf 5 = .ok (.bipush 24, 2) := by decide +kernel
theorem dX11_keyOf_7 : decode cX11_keyOf 7 = .ok (.if_icmp .ge 30, 3) := by decide +kernel
theorem dX11_keyOf_10 : decode cX11_keyOf 10 = .ok (.aload_n 0, 1) := by decide +kernel
theorem dX11_keyOf_11 : decode cX11_keyOf 11 = .ok (.iload_n 1, 1) := by decide +kernel
theorem dX11_keyOf_12 : decode cX11_keyOf 12 = .ok (.iload_n 3, 1) := by decide +kernel
theorem dX11_keyOf_13 : decode cX11_keyOf 13 = .ok (.invokevirtual 155, 3) := by decide +kernel
theorem dX11_keyOf_16 : decode cX11_keyOf 16 = .ok (.aload_n 0, 1) := by decide +kernel
theorem dX11_keyOf_17 : decode cX11_keyOf 17 = .ok (.iload_n 1, 1) := by decide +kernel
theorem dX11_keyOf_18 : decode cX11_keyOf 18 = .ok (.iload_n 2, 1) := by decide +kernel
theorem dX11_keyOf_19 : decode cX11_keyOf 19 = .ok (.invokevirtual 155, 3) := by decide +kernel
theorem dX11_keyOf_22 : decode cX11_keyOf 22 = .ok (.if_icmp .le 7, 3) := by decide +kernel
theorem dX11_keyOf_25 : decode cX11_keyOf 25 = .ok (.iload_n 3, 1) := by decide +kernel
theorem dX11_keyOf_26 : decode cX11_keyOf 26 = .ok (.goto 4, 3) := by decide +kernel
theorem dX11_keyOf_29 : decode cX11_keyOf 29 = .ok (.iload_n 2, 1) := by decide +kernel
theorem dX11_keyOf_30 : decode cX11_keyOf 30 = .ok (.istore_n 2, 1) := by decide +kernel
theorem dX11_keyOf_31 : decode cX11_keyOf 31 = .ok (.iinc 3 1, 3) := by decide +kernel
theorem dX11_keyOf_34 : decode cX11_keyOf 34 = .ok (.goto (-30), 3) := by decide +kernel
theorem dX11_keyOf_37 : decode cX11_keyOf 37 = .ok (.iload_n 2, 1) := by decide +kernel
theorem dX11_keyOf_38 : decode cX11_keyOf 38 = .ok (.ireturn, 1) := by decide +kernel
theorem dX11_notesOf_0 : decode cX11_notesOf 0 = .ok (.iconst 0, 1) := by decide +kernel
theorem dX11_notesOf_1 : decode cX11_notesOf 1 = .ok (.istore_n 2, 1) := by decide +kernel
theorem dX11_notesOf_2 : decode cX11_notesOf 2 = .ok (.iconst 0, 1) := by decide +kernel
theorem dX11_notesOf_3 : decode cX11_notesOf 3 = .ok (.istore_n 3, 1) := by decide +kernel
theorem dX11_notesOf_4 : decode cX11_notesOf 4 = .ok (.iload_n 3, 1) := by decide +kernel
theorem dX11_notesOf_5 : decode cX11_notesOf 5 = .ok (.aload_n 0, 1) := by decide +kernel
theorem dX11_notesOf_6 : decode cX11_notesOf 6 = .ok (.iload_n 1, 1) := by decide +kernel
theorem dX11_notesOf_7 : decode cX11_notesOf 7 = .ok (.invokevirtual 141, 3) := by decide +kernel
theorem dX11_notesOf_10 : decode cX11_notesOf 10 = .ok (.if_icmp .ge 20, 3) := by decide +kernel
theorem dX11_notesOf_13 : decode cX11_notesOf 13 = .ok (.iload_n 2, 1) := by decide +kernel
theorem dX11_notesOf_14 : decode cX11_notesOf 14 = .ok (.iconst 1, 1) := by decide +kernel
theorem dX11_notesOf_15 : decode cX11_notesOf 15 = .ok (.aload_n 0, 1) := by decide +kernel
theorem dX11_notesOf_16 : decode cX11_notesOf 16 = .ok (.iload_n 1, 1) := by decide +kernel
theorem dX11_notesOf_17 : decode cX11_notesOf 17 = .ok (.iload_n 3, 1) := by decide +kernel
theorem dX11_notesOf_18 : decode cX11_notesOf 18 = .ok (.invokevirtual 148, 3) := by decide +kernel
theorem dX11_notesOf_21 : decode cX11_notesOf 21 = .ok (.ishl, 1) := by decide +kernel
theorem dX11_notesOf_22 : decode cX11_notesOf 22 = .ok (.ior, 1) := by decide +kernel
theorem dX11_notesOf_23 : decode cX11_notesOf 23 = .ok (.istore_n 2, 1) := by decide +kernel
theorem dX11_notesOf_24 : decode cX11_notesOf 24 = .ok (.iinc 3 1, 3) := by decide +kernel
theorem dX11_notesOf_27 : decode cX11_notesOf 27 = .ok (.goto (-23), 3) := by decide +kernel
theorem dX11_notesOf_30 : decode cX11_notesOf 30 = .ok (.iload_n 2, 1) := by decide +kernel
theorem dX11_notesOf_31 : decode cX11_notesOf 31 = .ok (.ireturn, 1) := by decide +kernel
theorem dX11_tellTune_0 : decode cX11_tellTune 0 = .ok (.iload_n 2, 1) := by decide +kernel
theorem dX11_tellTune_1 : decode cX11_tellTune 1 = .ok (.i2l, 1) := by decide +kernel
theorem dX11_tellTune_2 : decode cX11_tellTune 2 = .ok (.ldc2_w 158, 3) := by decide +kernel
theorem dX11_tellTune_5 : decode cX11_tellTune 5 = .ok (.ldc2_w 160, 3) := by decide +kernel
theorem dX11_tellTune_8 : decode cX11_tellTune 8 = .ok (.invokestatic 73, 3) := by decide +kernel
theorem dX11_tellTune_11 : decode cX11_tellTune 11 = .ok (.ifCond .eq 29, 3) := by decide +kernel
theorem dX11_tellTune_14 : decode cX11_tellTune 14 = .ok (.iload_n 2, 1) := by decide +kernel
theorem dX11_tellTune_15 : decode cX11_tellTune 15 = .ok (.bipush 10, 2) := by decide +kernel
theorem dX11_tellTune_17 : decode cX11_tellTune 17 = .ok (.isub, 1) := by decide +kernel
theorem dX11_tellTune_18 : decode cX11_tellTune 18 = .ok (.aload_n 0, 1) := by decide +kernel
theorem dX11_tellTune_19 : decode cX11_tellTune 19 = .ok (.iload_n 1, 1) := by decide +kernel
theorem dX11_tellTune_20 : decode cX11_tellTune 20 = .ok (.invokevirtual 141, 3) := by decide +kernel
theorem dX11_tellTune_23 : decode cX11_tellTune 23 = .ok (.if_icmp .ge 15, 3) := by decide +kernel
theorem dX11_tellTune_26 : decode cX11_tellTune 26 = .ok (.aload_n 0, 1) := by decide +kernel
theorem dX11_tellTune_27 : decode cX11_tellTune 27 = .ok (.iload_n 1, 1) := by decide +kernel
theorem dX11_tellTune_28 : decode cX11_tellTune 28 = .ok (.iload_n 2, 1) := by decide +kernel
theorem dX11_tellTune_29 : decode cX11_tellTune 29 = .ok (.bipush 10, 2) := by decide +kernel
theorem dX11_tellTune_31 : decode cX11_tellTune 31 = .ok (.isub, 1) := by decide +kernel
theorem dX11_tellTune_32 : decode cX11_tellTune 32 = .ok (.invokevirtual 148, 3) := by decide +kernel
theorem dX11_tellTune_35 : decode cX11_tellTune 35 = .ok (.goto 4, 3) := by decide +kernel
theorem dX11_tellTune_38 : decode cX11_tellTune 38 = .ok (.iconst (-1), 1) := by decide +kernel
theorem dX11_tellTune_39 : decode cX11_tellTune 39 = .ok (.ireturn, 1) := by decide +kernel
theorem dX11_tellTune_40 : decode cX11_tellTune 40 = .ok (.iload_n 2, 1) := by decide +kernel
theorem dX11_tellTune_41 : decode cX11_tellTune 41 = .ok (.tableswitch 88 0 4 #[35, 41, 65, 71, 82], 35) := by decide +kernel
theorem dX11_tellTune_76 : decode cX11_tellTune 76 = .ok (.aload_n 0, 1) := by decide +kernel
theorem dX11_tellTune_77 : decode cX11_tellTune 77 = .ok (.iload_n 1, 1) := by decide +kernel
theorem dX11_tellTune_78 : decode cX11_tellTune 78 = .ok (.invokevirtual 141, 3) := by decide +kernel
theorem dX11_tellTune_81 : decode cX11_tellTune 81 = .ok (.ireturn, 1) := by decide +kernel
theorem dX11_tellTune_82 : decode cX11_tellTune 82 = .ok (.iload_n 1, 1) := by decide +kernel
theorem dX11_tellTune_83 : decode cX11_tellTune 83 = .ok (.ifCond .ne 10, 3) := by decide +kernel
theorem dX11_tellTune_86 : decode cX11_tellTune 86 = .ok (.aload_n 0, 1) := by decide +kernel
theorem dX11_tellTune_87 : decode cX11_tellTune 87 = .ok (.getfield 22, 3) := by decide +kernel
theorem dX11_tellTune_90 : decode cX11_tellTune 90 = .ok (.goto 7, 3) := by decide +kernel
theorem dX11_tellTune_93 : decode cX11_tellTune 93 = .ok (.aload_n 0, 1) := by decide +kernel
theorem dX11_tellTune_94 : decode cX11_tellTune 94 = .ok (.getfield 25, 3) := by decide +kernel
theorem dX11_tellTune_97 : decode cX11_tellTune 97 = .ok (.aload_n 0, 1) := by decide +kernel
theorem dX11_tellTune_98 : decode cX11_tellTune 98 = .ok (.iload_n 1, 1) := by decide +kernel
theorem dX11_tellTune_99 : decode cX11_tellTune 99 = .ok (.invokevirtual 141, 3) := by decide +kernel
theorem dX11_tellTune_102 : decode cX11_tellTune 102 = .ok (.invokestatic 162, 3) := by decide +kernel
theorem dX11_tellTune_105 : decode cX11_tellTune 105 = .ok (.ireturn, 1) := by decide +kernel
theorem dX11_tellTune_106 : decode cX11_tellTune 106 = .ok (.aload_n 0, 1) := by decide +kernel
theorem dX11_tellTune_107 : decode cX11_tellTune 107 = .ok (.iload_n 1, 1) := by decide +kernel
theorem dX11_tellTune_108 : decode cX11_tellTune 108 = .ok (.invokevirtual 166, 3) := by decide +kernel
theorem dX11_tellTune_111 : decode cX11_tellTune 111 = .ok (.ireturn, 1) := by decide +kernel
theorem dX11_tellTune_112 : decode cX11_tellTune 112 = .ok (.aload_n 0, 1) := by decide +kernel
theorem dX11_tellTune_113 : decode cX11_tellTune 113 = .ok (.iload_n 1, 1) := by decide +kernel
theorem dX11_tellTune_114 : decode cX11_tellTune 114 = .ok (.aload_n 0, 1) := by decide +kernel
theorem dX11_tellTune_115 : decode cX11_tellTune 115 = .ok (.iload_n 1, 1) := by decide +kernel
theorem dX11_tellTune_116 : decode cX11_tellTune 116 = .ok (.invokevirtual 166, 3) := by decide +kernel
theorem dX11_tellTune_119 : decode cX11_tellTune 119 = .ok (.invokevirtual 155, 3) := by decide +kernel
theorem dX11_tellTune_122 : decode cX11_tellTune 122 = .ok (.ireturn, 1) := by decide +kernel
theorem dX11_tellTune_123 : decode cX11_tellTune 123 = .ok (.aload_n 0, 1) := by decide +kernel
theorem dX11_tellTune_124 : decode cX11_tellTune 124 = .ok (.iload_n 1, 1) := by decide +kernel
theorem dX11_tellTune_125 : decode cX11_tellTune 125 = .ok (.invokevirtual 169, 3) := by decide +kernel
theorem dX11_tellTune_128 : decode cX11_tellTune 128 = .ok (.ireturn, 1) := by decide +kernel
theorem dX11_tellTune_129 : decode cX11_tellTune 129 = .ok (.bipush (-102), 2) := by decide +kernel
theorem dX11_tellTune_131 : decode cX11_tellTune 131 = .ok (.ireturn, 1) := by decide +kernel
theorem dX11_told_0 : decode cX11_told 0 = .ok (.aload_n 0, 1) := by decide +kernel
theorem dX11_told_1 : decode cX11_told 1 = .ok (.iload_n 1, 1) := by decide +kernel
theorem dX11_told_2 : decode cX11_told 2 = .ok (.invokevirtual 172, 3) := by decide +kernel
theorem dX11_told_5 : decode cX11_told 5 = .ok (.ifCond .eq 12, 3) := by decide +kernel
theorem dX11_told_8 : decode cX11_told 8 = .ok (.aload_n 0, 1) := by decide +kernel
theorem dX11_told_9 : decode cX11_told 9 = .ok (.iload_n 1, 1) := by decide +kernel
theorem dX11_told_10 : decode cX11_told 10 = .ok (.iload_n 2, 1) := by decide +kernel
theorem dX11_told_11 : decode cX11_told 11 = .ok (.invokevirtual 175, 3) := by decide +kernel
theorem dX11_told_14 : decode cX11_told 14 = .ok (.goto 5, 3) := by decide +kernel
theorem dX11_told_17 : decode cX11_told 17 = .ok (.bipush (-101), 2) := by decide +kernel
theorem dX11_told_19 : decode cX11_told 19 = .ok (.ireturn, 1) := by decide +kernel
theorem dX11_lowered_0 : decode cX11_lowered 0 = .ok (.iload_n 0, 1) := by decide +kernel
theorem dX11_lowered_1 : decode cX11_lowered 1 = .ok (.iload_n 1, 1) := by decide +kernel
theorem dX11_lowered_2 : decode cX11_lowered 2 = .ok (.invokestatic 144, 3) := by decide +kernel
theorem dX11_lowered_5 : decode cX11_lowered 5 = .ok (.istore_n 2, 1) := by decide +kernel
theorem dX11_lowered_6 : decode cX11_lowered 6 = .ok (.iload_n 2, 1) := by decide +kernel
theorem dX11_lowered_7 : decode cX11_lowered 7 = .ok (.iconst 4, 1) := by decide +kernel
theorem dX11_lowered_8 : decode cX11_lowered 8 = .ok (.if_icmp .eq 15, 3) := by decide +kernel
theorem dX11_lowered_11 : decode cX11_lowered 11 = .ok (.iload_n 2, 1) := by decide +kernel
theorem dX11_lowered_12 : decode cX11_lowered 12 = .ok (.bipush 9, 2) := by decide +kernel
theorem dX11_lowered_14 : decode cX11_lowered 14 = .ok (.if_icmp .eq 9, 3) := by decide +kernel
theorem dX11_lowered_17 : decode cX11_lowered 17 = .ok (.iload_n 2, 1) := by decide +kernel
theorem dX11_lowered_18 : decode cX11_lowered 18 = .ok (.bipush 11, 2) := by decide +kernel
theorem dX11_lowered_20 : decode cX11_lowered 20 = .ok (.if_icmp .ne 11, 3) := by decide +kernel
theorem dX11_lowered_23 : decode cX11_lowered 23 = .ok (.iload_n 0, 1) := by decide +kernel
theorem dX11_lowered_24 : decode cX11_lowered 24 = .ok (.iconst 1, 1) := by decide +kernel
theorem dX11_lowered_25 : decode cX11_lowered 25 = .ok (.invokestatic 144, 3) := by decide +kernel
theorem dX11_lowered_28 : decode cX11_lowered 28 = .ok (.goto 4, 3) := by decide +kernel
theorem dX11_lowered_31 : decode cX11_lowered 31 = .ok (.iload_n 0, 1) := by decide +kernel
theorem dX11_lowered_32 : decode cX11_lowered 32 = .ok (.ireturn, 1) := by decide +kernel
theorem dX11_go_0 : decode cX11_go 0 = .ok (.iconst 0, 1) := by decide +kernel
theorem dX11_go_1 : decode cX11_go 1 = .ok (.istore 4, 2) := by decide +kernel
theorem dX11_go_3 : decode cX11_go 3 = .ok (.iload 4, 2) := by decide +kernel
theorem dX11_go_5 : decode cX11_go 5 = .ok (.iload_n 3, 1) := by decide +kernel
theorem dX11_go_6 : decode cX11_go 6 = .ok (.if_icmp .ge 95, 3) := by decide +kernel
theorem dX11_go_9 : decode cX11_go 9 = .ok (.aload_n 2, 1) := by decide +kernel
theorem dX11_go_10 : decode cX11_go 10 = .ok (.iload 4, 2) := by decide +kernel
theorem dX11_go_12 : decode cX11_go 12 = .ok (.iaload, 1) := by decide +kernel
theorem dX11_go_13 : decode cX11_go 13 = .ok (.istore 5, 2) := by decide +kernel
theorem dX11_go_15 : decode cX11_go 15 = .ok (.iload_n 0, 1) := by decide +kernel
theorem dX11_go_16 : decode cX11_go 16 = .ok (.tableswitch 68 1 4 #[32, 45, 58, 32], 32) := by decide +kernel
theorem dX11_go_48 : decode cX11_go 48 = .ok (.aload_n 2, 1) := by decide +kernel
theorem dX11_go_49 : decode cX11_go 49 = .ok (.iload 4, 2) := by decide +kernel
theorem dX11_go_51 : decode cX11_go 51 = .ok (.iload 5, 2) := by decide +kernel
theorem dX11_go_53 : decode cX11_go 53 = .ok (.iload_n 1, 1) := by decide +kernel
theorem dX11_go_54 : decode cX11_go 54 = .ok (.invokestatic 178, 3) := by decide +kernel
theorem dX11_go_57 : decode cX11_go 57 = .ok (.iastore, 1) := by decide +kernel
theorem dX11_go_58 : decode cX11_go 58 = .ok (.goto 37, 3) := by decide +kernel
theorem dX11_go_61 : decode cX11_go 61 = .ok (.aload_n 2, 1) := by decide +kernel
theorem dX11_go_62 : decode cX11_go 62 = .ok (.iload 4, 2) := by decide +kernel
theorem dX11_go_64 : decode cX11_go 64 = .ok (.iload_n 1, 1) := by decide +kernel
theorem dX11_go_65 : decode cX11_go 65 = .ok (.iload 5, 2) := by decide +kernel
theorem dX11_go_67 : decode cX11_go 67 = .ok (.invokestatic 144, 3) := by decide +kernel
theorem dX11_go_70 : decode cX11_go 70 = .ok (.iastore, 1) := by decide +kernel
theorem dX11_go_71 : decode cX11_go 71 = .ok (.goto 24, 3) := by decide +kernel
theorem dX11_go_74 : decode cX11_go 74 = .ok (.aload_n 2, 1) := by decide +kernel
theorem dX11_go_75 : decode cX11_go 75 = .ok (.iload 4, 2) := by decide +kernel
theorem dX11_go_77 : decode cX11_go 77 = .ok (.aload_n 2, 1) := by decide +kernel
theorem dX11_go_78 : decode cX11_go 78 = .ok (.iconst 0, 1) := by decide +kernel
theorem dX11_go_79 : decode cX11_go 79 = .ok (.iaload, 1) := by decide +kernel
theorem dX11_go_80 : decode cX11_go 80 = .ok (.iastore, 1) := by decide +kernel
theorem dX11_go_81 : decode cX11_go 81 = .ok (.goto 14, 3) := by decide +kernel
theorem dX11_go_84 : decode cX11_go 84 = .ok (.aload_n 2, 1) := by decide +kernel
theorem dX11_go_85 : decode cX11_go 85 = .ok (.iload 4, 2) := by decide +kernel
theorem dX11_go_87 : decode cX11_go 87 = .ok (.iload 5, 2) := by decide +kernel
theorem dX11_go_89 : decode cX11_go 89 = .ok (.iload_n 1, 1) := by decide +kernel
theorem dX11_go_90 : decode cX11_go 90 = .ok (.iadd, 1) := by decide +kernel
theorem dX11_go_91 : decode cX11_go 91 = .ok (.bipush 12, 2) := by decide +kernel
theorem dX11_go_93 : decode cX11_go 93 = .ok (.irem, 1) := by decide +kernel
theorem dX11_go_94 : decode cX11_go 94 = .ok (.iastore, 1) := by decide +kernel
theorem dX11_go_95 : decode cX11_go 95 = .ok (.iinc 4 1, 3) := by decide +kernel
theorem dX11_go_98 : decode cX11_go 98 = .ok (.goto (-95), 3) := by decide +kernel
theorem dX11_go_101 : decode cX11_go 101 = .ok (.aload_n 2, 1) := by decide +kernel
theorem dX11_go_102 : decode cX11_go 102 = .ok (.iload_n 3, 1) := by decide +kernel
theorem dX11_go_103 : decode cX11_go 103 = .ok (.iconst 1, 1) := by decide +kernel
theorem dX11_go_104 : decode cX11_go 104 = .ok (.isub, 1) := by decide +kernel
theorem dX11_go_105 : decode cX11_go 105 = .ok (.iaload, 1) := by decide +kernel
theorem dX11_go_106 : decode cX11_go 106 = .ok (.istore 4, 2) := by decide +kernel
theorem dX11_go_108 : decode cX11_go 108 = .ok (.iload_n 0, 1) := by decide +kernel
theorem dX11_go_109 : decode cX11_go 109 = .ok (.iconst 4, 1) := by decide +kernel
theorem dX11_go_110 : decode cX11_go 110 = .ok (.if_icmp .ne 25, 3) := by decide +kernel
theorem dX11_go_113 : decode cX11_go 113 = .ok (.iload 4, 2) := by decide +kernel
theorem dX11_go_115 : decode cX11_go 115 = .ok (.iload_n 1, 1) := by decide +kernel
theorem dX11_go_116 : decode cX11_go 116 = .ok (.invokestatic 144, 3) := by decide +kernel
theorem dX11_go_119 : decode cX11_go 119 = .ok (.iconst 3, 1) := by decide +kernel
theorem dX11_go_120 : decode cX11_go 120 = .ok (.if_icmp .ne 15, 3) := by decide +kernel
theorem dX11_go_123 : decode cX11_go 123 = .ok (.aload_n 2, 1) := by decide +kernel
theorem dX11_go_124 : decode cX11_go 124 = .ok (.iload_n 3, 1) := by decide +kernel
theorem dX11_go_125 : decode cX11_go 125 = .ok (.iconst 1, 1) := by decide +kernel
theorem dX11_go_126 : decode cX11_go 126 = .ok (.isub, 1) := by decide +kernel
theorem dX11_go_127 : decode cX11_go 127 = .ok (.iload 4, 2) := by decide +kernel
theorem dX11_go_129 : decode cX11_go 129 = .ok (.iconst 1, 1) := by decide +kernel
theorem dX11_go_130 : decode cX11_go 130 = .ok (.iadd, 1) := by decide +kernel
theorem dX11_go_131 : decode cX11_go 131 = .ok (.bipush 12, 2) := by decide +kernel
theorem dX11_go_133 : decode cX11_go 133 = .ok (.irem, 1) := by decide +kernel
theorem dX11_go_134 : decode cX11_go 134 = .ok (.iastore, 1) := by decide +kernel
theorem dX11_go_135 : decode cX11_go 135 = .ok (.return_, 1) := by decide +kernel
theorem dX11_comesOut_0 : decode cX11_comesOut 0 = .ok (.aload_n 0, 1) := by decide +kernel
theorem dX11_comesOut_1 : decode cX11_comesOut 1 = .ok (.getfield 28, 3) := by decide +kernel
theorem dX11_comesOut_4 : decode cX11_comesOut 4 = .ok (.iconst 0, 1) := by decide +kernel
theorem dX11_comesOut_5 : decode cX11_comesOut 5 = .ok (.iload_n 3, 1) := by decide +kernel
theorem dX11_comesOut_6 : decode cX11_comesOut 6 = .ok (.iastore, 1) := by decide +kernel
theorem dX11_comesOut_7 : decode cX11_comesOut 7 = .ok (.iload_n 1, 1) := by decide +kernel
theorem dX11_comesOut_8 : decode cX11_comesOut 8 = .ok (.iload_n 2, 1) := by decide +kernel
theorem dX11_comesOut_9 : decode cX11_comesOut 9 = .ok (.aload_n 0, 1) := by decide +kernel
theorem dX11_comesOut_10 : decode cX11_comesOut 10 = .ok (.getfield 28, 3) := by decide +kernel
theorem dX11_comesOut_13 : decode cX11_comesOut 13 = .ok (.iconst 1, 1) := by decide +kernel
theorem dX11_comesOut_14 : decode cX11_comesOut 14 = .ok (.invokestatic 181, 3) := by decide +kernel
theorem dX11_comesOut_17 : decode cX11_comesOut 17 = .ok (.aload_n 0, 1) := by decide +kernel
theorem dX11_comesOut_18 : decode cX11_comesOut 18 = .ok (.getfield 28, 3) := by decide +kernel
theorem dX11_comesOut_21 : decode cX11_comesOut 21 = .ok (.iconst 0, 1) := by decide +kernel
theorem dX11_comesOut_22 : decode cX11_comesOut 22 = .ok (.iaload, 1) := by decide +kernel
theorem dX11_comesOut_23 : decode cX11_comesOut 23 = .ok (.ireturn, 1) := by decide +kernel
theorem dX11_goStreet_0 : decode cX11_goStreet 0 = .ok (.aload_n 0, 1) := by decide +kernel
theorem dX11_goStreet_1 : decode cX11_goStreet 1 = .ok (.getfield 13, 3) := by decide +kernel
theorem dX11_goStreet_4 : decode cX11_goStreet 4 = .ok (.iconst 3, 1) := by decide +kernel
theorem dX11_goStreet_5 : decode cX11_goStreet 5 = .ok (.iload_n 1, 1) := by decide +kernel
theorem dX11_goStreet_6 : decode cX11_goStreet 6 = .ok (.imul, 1) := by decide +kernel
theorem dX11_goStreet_7 : decode cX11_goStreet 7 = .ok (.iaload, 1) := by decide +kernel
theorem dX11_goStreet_8 : decode cX11_goStreet 8 = .ok (.aload_n 0, 1) := by decide +kernel
theorem dX11_goStreet_9 : decode cX11_goStreet 9 = .ok (.getfield 16, 3) := by decide +kernel
theorem dX11_goStreet_12 : decode cX11_goStreet 12 = .ok (.iload_n 1, 1) := by decide +kernel
theorem dX11_goStreet_13 : decode cX11_goStreet 13 = .ok (.iaload, 1) := by decide +kernel
theorem dX11_goStreet_14 : decode cX11_goStreet 14 = .ok (.aload_n 2, 1) := by decide +kernel
theorem dX11_goStreet_15 : decode cX11_goStreet 15 = .ok (.iload_n 3, 1) := by decide +kernel
theorem dX11_goStreet_16 : decode cX11_goStreet 16 = .ok (.invokestatic 181, 3) := by decide +kernel
theorem dX11_goStreet_19 : decode cX11_goStreet 19 = .ok (.return_, 1) := by decide +kernel
theorem dX11_comes_0 : decode cX11_comes 0 = .ok (.aload_n 0, 1) := by decide +kernel
theorem dX11_comes_1 : decode cX11_comes 1 = .ok (.iload_n 1, 1) := by decide +kernel
theorem dX11_comes_2 : decode cX11_comes 2 = .ok (.invokevirtual 185, 3) := by decide +kernel
theorem dX11_comes_5 : decode cX11_comes 5 = .ok (.ifCond .ne 6, 3) := by decide +kernel
theorem dX11_comes_8 : decode cX11_comes 8 = .ok (.bipush (-101), 2) := by decide +kernel
theorem dX11_comes_10 : decode cX11_comes 10 = .ok (.ireturn, 1) := by decide +kernel
theorem dX11_comes_11 : decode cX11_comes 11 = .ok (.iload_n 2, 1) := by decide +kernel
theorem dX11_comes_12 : decode cX11_comes 12 = .ok (.invokestatic 188, 3) := by decide +kernel
theorem dX11_comes_15 : decode cX11_comes 15 = .ok (.ifCond .eq 25, 3) := by decide +kernel
theorem dX11_comes_18 : decode cX11_comes 18 = .ok (.aload_n 0, 1) := by decide +kernel
theorem dX11_comes_19 : decode cX11_comes 19 = .ok (.aload_n 0, 1) := by decide +kernel
theorem dX11_comes_20 : decode cX11_comes 20 = .ok (.getfield 13, 3) := by decide +kernel
theorem dX11_comes_23 : decode cX11_comes 23 = .ok (.iconst 3, 1) := by decide +kernel
theorem dX11_comes_24 : decode cX11_comes 24 = .ok (.iload_n 1, 1) := by decide +kernel
theorem dX11_comes_25 : decode cX11_comes 25 = .ok (.imul, 1) := by decide +kernel
theorem dX11_comes_26 : decode cX11_comes 26 = .ok (.iaload, 1) := by decide +kernel
theorem dX11_comes_27 : decode cX11_comes 27 = .ok (.aload_n 0, 1) := by decide +kernel
theorem dX11_comes_28 : decode cX11_comes 28 = .ok (.getfield 16, 3) := by decide +kernel
theorem dX11_comes_31 : decode cX11_comes 31 = .ok (.iload_n 1, 1) := by decide +kernel
theorem dX11_comes_32 : decode cX11_comes 32 = .ok (.iaload, 1) := by decide +kernel
theorem dX11_comes_33 : decode cX11_comes 33 = .ok (.iload_n 2, 1) := by decide +kernel
theorem dX11_comes_34 : decode cX11_comes 34 = .ok (.invokevirtual 191, 3) := by decide +kernel
theorem dX11_comes_37 : decode cX11_comes 37 = .ok (.goto 5, 3) := by decide +kernel
theorem dX11_comes_40 : decode cX11_comes 40 = .ok (.bipush (-102), 2) := by decide +kernel
theorem dX11_comes_42 : decode cX11_comes 42 = .ok (.ireturn, 1) := by decide +kernel
theorem dX11_leavesOf_0 : decode cX11_leavesOf 0 = .ok (.iconst 0, 1) := by decide +kernel
theorem dX11_leavesOf_1 : decode cX11_leavesOf 1 = .ok (.istore_n 2, 1) := by decide +kernel
theorem dX11_leavesOf_2 : decode cX11_leavesOf 2 = .ok (.iconst 0, 1) := by decide +kernel
theorem dX11_leavesOf_3 : decode cX11_leavesOf 3 = .ok (.istore_n 3, 1) := by decide +kernel
theorem dX11_leavesOf_4 : decode cX11_leavesOf 4 = .ok (.iload_n 3, 1) := by decide +kernel
theorem dX11_leavesOf_5 : decode cX11_leavesOf 5 = .ok (.bipush 12, 2) := by decide +kernel
theorem dX11_leavesOf_7 : decode cX11_leavesOf 7 = .ok (.if_icmp .ge 42, 3) := by decide +kernel
theorem dX11_leavesOf_10 : decode cX11_leavesOf 10 = .ok (.iload_n 2, 1) := by decide +kernel
theorem dX11_leavesOf_11 : decode cX11_leavesOf 11 = .ok (.aload_n 0, 1) := by decide +kernel
theorem dX11_leavesOf_12 : decode cX11_leavesOf 12 = .ok (.aload_n 0, 1) := by decide +kernel
theorem dX11_leavesOf_13 : decode cX11_leavesOf 13 = .ok (.getfield 13, 3) := by decide +kernel
theorem dX11_leavesOf_16 : decode cX11_leavesOf 16 = .ok (.iconst 3, 1) := by decide +kernel
theorem dX11_leavesOf_17 : decode cX11_leavesOf 17 = .ok (.iload_n 1, 1) := by decide +kernel
theorem dX11_leavesOf_18 : decode cX11_leavesOf 18 = .ok (.imul, 1) := by decide +kernel
theorem dX11_leavesOf_19 : decode cX11_leavesOf 19 = .ok (.iaload, 1) := by decide +kernel
theorem dX11_leavesOf_20 : decode cX11_leavesOf 20 = .ok (.aload_n 0, 1) := by decide +kernel
theorem dX11_leavesOf_21 : decode cX11_leavesOf 21 = .ok (.getfield 16, 3) := by decide +kernel
theorem dX11_leavesOf_24 : decode cX11_leavesOf 24 = .ok (.iload_n 1, 1) := by decide +kernel
theorem dX11_leavesOf_25 : decode cX11_leavesOf 25 = .ok (.iaload, 1) := by decide +kernel
theorem dX11_leavesOf_26 : decode cX11_leavesOf 26 = .ok (.iload_n 3, 1) := by decide +kernel
theorem dX11_leavesOf_27 : decode cX11_leavesOf 27 = .ok (.invokevirtual 191, 3) := by decide +kernel
theorem dX11_leavesOf_30 : decode cX11_leavesOf 30 = .ok (.iload_n 3, 1) := by decide +kernel
theorem dX11_leavesOf_31 : decode cX11_leavesOf 31 = .ok (.if_icmp .ne 9, 3) := by decide +kernel
theorem dX11_leavesOf_34 : decode cX11_leavesOf 34 = .ok (.iconst 1, 1) := by decide +kernel
theorem dX11_leavesOf_35 : decode cX11_leavesOf 35 = .ok (.iload_n 3, 1) := by decide +kernel
theorem dX11_leavesOf_36 : decode cX11_leavesOf 36 = .ok (.ishl, 1) := by decide +kernel
theorem dX11_leavesOf_37 : decode cX11_leavesOf 37 = .ok (.goto 4, 3) := by decide +kernel
theorem dX11_leavesOf_40 : decode cX11_leavesOf 40 = .ok (.iconst 0, 1) := by decide +kernel
theorem dX11_leavesOf_41 : decode cX11_leavesOf 41 = .ok (.ior, 1) := by decide +kernel
theorem dX11_leavesOf_42 : decode cX11_leavesOf 42 = .ok (.istore_n 2, 1) := by decide +kernel
theorem dX11_leavesOf_43 : decode cX11_leavesOf 43 = .ok (.iinc 3 1, 3) := by decide +kernel
theorem dX11_leavesOf_46 : decode cX11_leavesOf 46 = .ok (.goto (-42), 3) := by decide +kernel
theorem dX11_leavesOf_49 : decode cX11_leavesOf 49 = .ok (.iload_n 2, 1) := by decide +kernel
theorem dX11_leavesOf_50 : decode cX11_leavesOf 50 = .ok (.ireturn, 1) := by decide +kernel
theorem dX11_isAs_0 : decode cX11_isAs 0 = .ok (.iload_n 1, 1) := by decide +kernel
theorem dX11_isAs_1 : decode cX11_isAs 1 = .ok (.iload_n 3, 1) := by decide +kernel
theorem dX11_isAs_2 : decode cX11_isAs 2 = .ok (.if_icmp .ne 7, 3) := by decide +kernel
theorem dX11_isAs_5 : decode cX11_isAs 5 = .ok (.iconst 1, 1) := by decide +kernel
theorem dX11_isAs_6 : decode cX11_isAs 6 = .ok (.goto 4, 3) := by decide +kernel
theorem dX11_isAs_9 : decode cX11_isAs 9 = .ok (.iconst 0, 1) := by decide +kernel
theorem dX11_isAs_10 : decode cX11_isAs 10 = .ok (.istore 4, 2) := by decide +kernel
theorem dX11_isAs_12 : decode cX11_isAs 12 = .ok (.iconst 0, 1) := by decide +kernel
theorem dX11_isAs_13 : decode cX11_isAs 13 = .ok (.istore 5, 2) := by decide +kernel
theorem dX11_isAs_15 : decode cX11_isAs 15 = .ok (.iload 5, 2) := by decide +kernel
theorem dX11_isAs_17 : decode cX11_isAs 17 = .ok (.iload_n 1, 1) := by decide +kernel
theorem dX11_isAs_18 : decode cX11_isAs 18 = .ok (.if_icmp .ge 32, 3) := by decide +kernel
theorem dX11_isAs_21 : decode cX11_isAs 21 = .ok (.iload 4, 2) := by decide +kernel
theorem dX11_isAs_23 : decode cX11_isAs 23 = .ok (.ifCond .eq 27, 3) := by decide +kernel
theorem dX11_isAs_26 : decode cX11_isAs 26 = .ok (.aload_n 0, 1) := by decide +kernel
theorem dX11_isAs_27 : decode cX11_isAs 27 = .ok (.iload 5, 2) := by decide +kernel
theorem dX11_isAs_29 : decode cX11_isAs 29 = .ok (.iaload, 1) := by decide +kernel
theorem dX11_isAs_30 : decode cX11_isAs 30 = .ok (.aload_n 2, 1) := by decide +kernel
theorem dX11_isAs_31 : decode cX11_isAs 31 = .ok (.iload 5, 2) := by decide +kernel
theorem dX11_isAs_33 : decode cX11_isAs 33 = .ok (.iaload, 1) := by decide +kernel
theorem dX11_isAs_34 : decode cX11_isAs 34 = .ok (.if_icmp .ne 7, 3) := by decide +kernel
theorem dX11_isAs_37 : decode cX11_isAs 37 = .ok (.iconst 1, 1) := by decide +kernel
theorem dX11_isAs_38 : decode cX11_isAs 38 = .ok (.goto 4, 3) := by decide +kernel
theorem dX11_isAs_41 : decode cX11_isAs 41 = .ok (.iconst 0, 1) := by decide +kernel
theorem dX11_isAs_42 : decode cX11_isAs 42 = .ok (.istore 4, 2) := by decide +kernel
theorem dX11_isAs_44 : decode cX11_isAs 44 = .ok (.iinc 5 1, 3) := by decide +kernel
theorem dX11_isAs_47 : decode cX11_isAs 47 = .ok (.goto (-32), 3) := by decide +kernel
theorem dX11_isAs_50 : decode cX11_isAs 50 = .ok (.iload 4, 2) := by decide +kernel
theorem dX11_isAs_52 : decode cX11_isAs 52 = .ok (.ireturn, 1) := by decide +kernel
theorem dX11_againOf_0 : decode cX11_againOf 0 = .ok (.aload_n 0, 1) := by decide +kernel
theorem dX11_againOf_1 : decode cX11_againOf 1 = .ok (.getfield 22, 3) := by decide +kernel
theorem dX11_againOf_4 : decode cX11_againOf 4 = .ok (.aload_n 0, 1) := by decide +kernel
theorem dX11_againOf_5 : decode cX11_againOf 5 = .ok (.getfield 31, 3) := by decide +kernel
theorem dX11_againOf_8 : decode cX11_againOf 8 = .ok (.invokestatic 195, 3) := by decide +kernel
theorem dX11_againOf_11 : decode cX11_againOf 11 = .ok (.iconst 1, 1) := by decide +kernel
theorem dX11_againOf_12 : decode cX11_againOf 12 = .ok (.istore_n 2, 1) := by decide +kernel
theorem dX11_againOf_13 : decode cX11_againOf 13 = .ok (.iload_n 2, 1) := by decide +kernel
theorem dX11_againOf_14 : decode cX11_againOf 14 = .ok (.bipush 25, 2) := by decide +kernel
theorem dX11_againOf_16 : decode cX11_againOf 16 = .ok (.if_icmp .ge 53, 3) := by decide +kernel
theorem dX11_againOf_19 : decode cX11_againOf 19 = .ok (.aload_n 0, 1) := by decide +kernel
theorem dX11_againOf_20 : decode cX11_againOf 20 = .ok (.getfield 135, 3) := by decide +kernel
theorem dX11_againOf_23 : decode cX11_againOf 23 = .ok (.ifCond .le 46, 3) := by decide +kernel
theorem dX11_againOf_26 : decode cX11_againOf 26 = .ok (.aload_n 0, 1) := by decide +kernel
theorem dX11_againOf_27 : decode cX11_againOf 27 = .ok (.iload_n 1, 1) := by decide +kernel
theorem dX11_againOf_28 : decode cX11_againOf 28 = .ok (.aload_n 0, 1) := by decide +kernel
theorem dX11_againOf_29 : decode cX11_againOf 29 = .ok (.getfield 31, 3) := by decide +kernel
theorem dX11_againOf_32 : decode cX11_againOf 32 = .ok (.aload_n 0, 1) := by decide +kernel
theorem dX11_againOf_33 : decode cX11_againOf 33 = .ok (.getfield 135, 3) := by decide +kernel
theorem dX11_againOf_36 : decode cX11_againOf 36 = .ok (.invokevirtual 199, 3) := by decide +kernel
theorem dX11_againOf_39 : decode cX11_againOf 39 = .ok (.aload_n 0, 1) := by decide +kernel
theorem dX11_againOf_40 : decode cX11_againOf 40 = .ok (.getfield 31, 3) := by decide +kernel
theorem dX11_againOf_43 : decode cX11_againOf 43 = .ok (.aload_n 0, 1) := by decide +kernel
theorem dX11_againOf_44 : decode cX11_againOf 44 = .ok (.getfield 135, 3) := by decide +kernel
theorem dX11_againOf_47 : decode cX11_againOf 47 = .ok (.aload_n 0, 1) := by decide +kernel
theorem dX11_againOf_48 : decode cX11_againOf 48 = .ok (.getfield 22, 3) := by decide +kernel
theorem dX11_againOf_51 : decode cX11_againOf 51 = .ok (.aload_n 0, 1) := by decide +kernel
theorem dX11_againOf_52 : decode cX11_againOf 52 = .ok (.getfield 135, 3) := by decide +kernel
theorem dX11_againOf_55 : decode cX11_againOf 55 = .ok (.invokestatic 203, 3) := by decide +kernel
theorem dX11_againOf_58 : decode cX11_againOf 58 = .ok (.ifCond .eq 5, 3) := by decide +kernel
theorem dX11_againOf_61 : decode cX11_againOf 61 = .ok (.iload_n 2, 1) := by decide +kernel
theorem dX11_againOf_62 : decode cX11_againOf 62 = .ok (.ireturn, 1) := by decide +kernel
theorem dX11_againOf_63 : decode cX11_againOf 63 = .ok (.iinc 2 1, 3) := by decide +kernel
theorem dX11_againOf_66 : decode cX11_againOf 66 = .ok (.goto (-53), 3) := by decide +kernel
theorem dX11_againOf_69 : decode cX11_againOf 69 = .ok (.iconst (-1), 1) := by decide +kernel
theorem dX11_againOf_70 : decode cX11_againOf 70 = .ok (.ireturn, 1) := by decide +kernel
theorem dX11_endsAt_0 : decode cX11_endsAt 0 = .ok (.aload_n 0, 1) := by decide +kernel
theorem dX11_endsAt_1 : decode cX11_endsAt 1 = .ok (.getfield 13, 3) := by decide +kernel
theorem dX11_endsAt_4 : decode cX11_endsAt 4 = .ok (.iconst 3, 1) := by decide +kernel
theorem dX11_endsAt_5 : decode cX11_endsAt 5 = .ok (.iload_n 1, 1) := by decide +kernel
theorem dX11_endsAt_6 : decode cX11_endsAt 6 = .ok (.imul, 1) := by decide +kernel
theorem dX11_endsAt_7 : decode cX11_endsAt 7 = .ok (.iconst 1, 1) := by decide +kernel
theorem dX11_endsAt_8 : decode cX11_endsAt 8 = .ok (.iadd, 1) := by decide +kernel
theorem dX11_endsAt_9 : decode cX11_endsAt 9 = .ok (.iaload, 1) := by decide +kernel
theorem dX11_endsAt_10 : decode cX11_endsAt 10 = .ok (.iload_n 2, 1) := by decide +kernel
theorem dX11_endsAt_11 : decode cX11_endsAt 11 = .ok (.if_icmp .eq 17, 3) := by decide +kernel
theorem dX11_endsAt_14 : decode cX11_endsAt 14 = .ok (.aload_n 0, 1) := by decide +kernel
theorem dX11_endsAt_15 : decode cX11_endsAt 15 = .ok (.getfield 13, 3) := by decide +kernel
theorem dX11_endsAt_18 : decode cX11_endsAt 18 = .ok (.iconst 3, 1) := by decide +kernel
theorem dX11_endsAt_19 : decode cX11_endsAt 19 = .ok (.iload_n 1, 1) := by decide +kernel
theorem dX11_endsAt_20 : decode cX11_endsAt 20 = .ok (.imul, 1) := by decide +kernel
theorem dX11_endsAt_21 : decode cX11_endsAt 21 = .ok (.iconst 2, 1) := by decide +kernel
theorem dX11_endsAt_22 : decode cX11_endsAt 22 = .ok (.iadd, 1) := by decide +kernel
theorem dX11_endsAt_23 : decode cX11_endsAt 23 = .ok (.iaload, 1) := by decide +kernel
theorem dX11_endsAt_24 : decode cX11_endsAt 24 = .ok (.iload_n 2, 1) := by decide +kernel
theorem dX11_endsAt_25 : decode cX11_endsAt 25 = .ok (.if_icmp .ne 7, 3) := by decide +kernel
theorem dX11_endsAt_28 : decode cX11_endsAt 28 = .ok (.iconst 1, 1) := by decide +kernel
theorem dX11_endsAt_29 : decode cX11_endsAt 29 = .ok (.goto 4, 3) := by decide +kernel
theorem dX11_endsAt_32 : decode cX11_endsAt 32 = .ok (.iconst 0, 1) := by decide +kernel
theorem dX11_endsAt_33 : decode cX11_endsAt 33 = .ok (.ireturn, 1) := by decide +kernel
theorem dX11_otherEnd_0 : decode cX11_otherEnd 0 = .ok (.aload_n 0, 1) := by decide +kernel
theorem dX11_otherEnd_1 : decode cX11_otherEnd 1 = .ok (.getfield 13, 3) := by decide +kernel
theorem dX11_otherEnd_4 : decode cX11_otherEnd 4 = .ok (.iconst 3, 1) := by decide +kernel
theorem dX11_otherEnd_5 : decode cX11_otherEnd 5 = .ok (.iload_n 1, 1) := by decide +kernel
theorem dX11_otherEnd_6 : decode cX11_otherEnd 6 = .ok (.imul, 1) := by decide +kernel
theorem dX11_otherEnd_7 : decode cX11_otherEnd 7 = .ok (.iconst 1, 1) := by decide +kernel
theorem dX11_otherEnd_8 : decode cX11_otherEnd 8 = .ok (.iadd, 1) := by decide +kernel
theorem dX11_otherEnd_9 : decode cX11_otherEnd 9 = .ok (.iaload, 1) := by decide +kernel
theorem dX11_otherEnd_10 : decode cX11_otherEnd 10 = .ok (.aload_n 0, 1) := by decide +kernel
theorem dX11_otherEnd_11 : decode cX11_otherEnd 11 = .ok (.getfield 13, 3) := by decide +kernel
theorem dX11_otherEnd_14 : decode cX11_otherEnd 14 = .ok (.iconst 3, 1) := by decide +kernel
theorem dX11_otherEnd_15 : decode cX11_otherEnd 15 = .ok (.iload_n 1, 1) := by decide +kernel
theorem dX11_otherEnd_16 : decode cX11_otherEnd 16 = .ok (.imul, 1) := by decide +kernel
theorem dX11_otherEnd_17 : decode cX11_otherEnd 17 = .ok (.iconst 2, 1) := by decide +kernel
theorem dX11_otherEnd_18 : decode cX11_otherEnd 18 = .ok (.iadd, 1) := by decide +kernel
theorem dX11_otherEnd_19 : decode cX11_otherEnd 19 = .ok (.iaload, 1) := by decide +kernel
theorem dX11_otherEnd_20 : decode cX11_otherEnd 20 = .ok (.iadd, 1) := by decide +kernel
theorem dX11_otherEnd_21 : decode cX11_otherEnd 21 = .ok (.iload_n 2, 1) := by decide +kernel
theorem dX11_otherEnd_22 : decode cX11_otherEnd 22 = .ok (.isub, 1) := by decide +kernel
theorem dX11_otherEnd_23 : decode cX11_otherEnd 23 = .ok (.ireturn, 1) := by decide +kernel
theorem dX11_isOpen_0 : decode cX11_isOpen 0 = .ok (.aload_n 0, 1) := by decide +kernel
theorem dX11_isOpen_1 : decode cX11_isOpen 1 = .ok (.getfield 13, 3) := by decide +kernel
theorem dX11_isOpen_4 : decode cX11_isOpen 4 = .ok (.iconst 3, 1) := by decide +kernel
theorem dX11_isOpen_5 : decode cX11_isOpen 5 = .ok (.iload_n 1, 1) := by decide +kernel
theorem dX11_isOpen_6 : decode cX11_isOpen 6 = .ok (.imul, 1) := by decide +kernel
theorem dX11_isOpen_7 : decode cX11_isOpen 7 = .ok (.iaload, 1) := by decide +kernel
theorem dX11_isOpen_8 : decode cX11_isOpen 8 = .ok (.iconst 2, 1) := by decide +kernel
theorem dX11_isOpen_9 : decode cX11_isOpen 9 = .ok (.if_icmp .ne 18, 3) := by decide +kernel
theorem dX11_isOpen_12 : decode cX11_isOpen 12 = .ok (.aload_n 0, 1) := by decide +kernel
theorem dX11_isOpen_13 : decode cX11_isOpen 13 = .ok (.getfield 114, 3) := by decide +kernel
theorem dX11_isOpen_16 : decode cX11_isOpen 16 = .ok (.ifCond .eq 11, 3) := by decide +kernel
theorem dX11_isOpen_19 : decode cX11_isOpen 19 = .ok (.aload_n 2, 1) := by decide +kernel
theorem dX11_isOpen_20 : decode cX11_isOpen 20 = .ok (.iload_n 3, 1) := by decide +kernel
theorem dX11_isOpen_21 : decode cX11_isOpen 21 = .ok (.invokestatic 162, 3) := by decide +kernel
theorem dX11_isOpen_24 : decode cX11_isOpen 24 = .ok (.ifCond .ne 7, 3) := by decide +kernel
theorem dX11_isOpen_27 : decode cX11_isOpen 27 = .ok (.iconst 1, 1) := by decide +kernel
theorem dX11_isOpen_28 : decode cX11_isOpen 28 = .ok (.goto 4, 3) := by decide +kernel
theorem dX11_isOpen_31 : decode cX11_isOpen 31 = .ok (.iconst 0, 1) := by decide +kernel
theorem dX11_isOpen_32 : decode cX11_isOpen 32 = .ok (.ireturn, 1) := by decide +kernel
theorem dX11_tellStreet_0 : decode cX11_tellStreet 0 = .ok (.iload_n 2, 1) := by decide +kernel
theorem dX11_tellStreet_1 : decode cX11_tellStreet 1 = .ok (.tableswitch 100 0 8 #[51, 51, 51, 62, 69, 75, 81, 87, 93], 51) := by decide +kernel
theorem dX11_tellStreet_52 : decode cX11_tellStreet 52 = .ok (.aload_n 0, 1) := by decide +kernel
theorem dX11_tellStreet_53 : decode cX11_tellStreet 53 = .ok (.getfield 13, 3) := by decide +kernel
theorem dX11_tellStreet_56 : decode cX11_tellStreet 56 = .ok (.iconst 3, 1) := by decide +kernel
theorem dX11_tellStreet_57 : decode cX11_tellStreet 57 = .ok (.iload_n 1, 1) := by decide +kernel
theorem dX11_tellStreet_58 : decode cX11_tellStreet 58 = .ok (.imul, 1) := by decide +kernel
theorem dX11_tellStreet_59 : decode cX11_tellStreet 59 = .ok (.iload_n 2, 1) := by decide +kernel
theorem dX11_tellStreet_60 : decode cX11_tellStreet 60 = .ok (.iadd, 1) := by decide +kernel
theorem dX11_tellStreet_61 : decode cX11_tellStreet 61 = .ok (.iaload, 1) := by decide +kernel
theorem dX11_tellStreet_62 : decode cX11_tellStreet 62 = .ok (.ireturn, 1) := by decide +kernel
theorem dX11_tellStreet_63 : decode cX11_tellStreet 63 = .ok (.aload_n 0, 1) := by decide +kernel
theorem dX11_tellStreet_64 : decode cX11_tellStreet 64 = .ok (.getfield 16, 3) := by decide +kernel
theorem dX11_tellStreet_67 : decode cX11_tellStreet 67 = .ok (.iload_n 1, 1) := by decide +kernel
theorem dX11_tellStreet_68 : decode cX11_tellStreet 68 = .ok (.iaload, 1) := by decide +kernel
theorem dX11_tellStreet_69 : decode cX11_tellStreet 69 = .ok (.ireturn, 1) := by decide +kernel
theorem dX11_tellStreet_70 : decode cX11_tellStreet 70 = .ok (.aload_n 0, 1) := by decide +kernel
theorem dX11_tellStreet_71 : decode cX11_tellStreet 71 = .ok (.iload_n 1, 1) := by decide +kernel
theorem dX11_tellStreet_72 : decode cX11_tellStreet 72 = .ok (.invokevirtual 207, 3) := by decide +kernel
theorem dX11_tellStreet_75 : decode cX11_tellStreet 75 = .ok (.ireturn, 1) := by decide +kernel
theorem dX11_tellStreet_76 : decode cX11_tellStreet 76 = .ok (.aload_n 0, 1) := by decide +kernel
theorem dX11_tellStreet_77 : decode cX11_tellStreet 77 = .ok (.iload_n 1, 1) := by decide +kernel
theorem dX11_tellStreet_78 : decode cX11_tellStreet 78 = .ok (.invokevirtual 210, 3) := by decide +kernel
theorem dX11_tellStreet_81 : decode cX11_tellStreet 81 = .ok (.ireturn, 1) := by decide +kernel
theorem dX11_tellStreet_82 : decode cX11_tellStreet 82 = .ok (.aload_n 0, 1) := by decide +kernel
theorem dX11_tellStreet_83 : decode cX11_tellStreet 83 = .ok (.iload_n 1, 1) := by decide +kernel
theorem dX11_tellStreet_84 : decode cX11_tellStreet 84 = .ok (.invokevirtual 213, 3) := by decide +kernel
theorem dX11_tellStreet_87 : decode cX11_tellStreet 87 = .ok (.ireturn, 1) := by decide +kernel
theorem dX11_tellStreet_88 : decode cX11_tellStreet 88 = .ok (.aload_n 0, 1) := by decide +kernel
theorem dX11_tellStreet_89 : decode cX11_tellStreet 89 = .ok (.iload_n 1, 1) := by decide +kernel
theorem dX11_tellStreet_90 : decode cX11_tellStreet 90 = .ok (.invokevirtual 216, 3) := by decide +kernel
theorem dX11_tellStreet_93 : decode cX11_tellStreet 93 = .ok (.ireturn, 1) := by decide +kernel
theorem dX11_tellStreet_94 : decode cX11_tellStreet 94 = .ok (.aload_n 0, 1) := by decide +kernel
theorem dX11_tellStreet_95 : decode cX11_tellStreet 95 = .ok (.getfield 19, 3) := by decide +kernel
theorem dX11_tellStreet_98 : decode cX11_tellStreet 98 = .ok (.iload_n 1, 1) := by decide +kernel
theorem dX11_tellStreet_99 : decode cX11_tellStreet 99 = .ok (.iaload, 1) := by decide +kernel
theorem dX11_tellStreet_100 : decode cX11_tellStreet 100 = .ok (.ireturn, 1) := by decide +kernel
theorem dX11_tellStreet_101 : decode cX11_tellStreet 101 = .ok (.bipush (-102), 2) := by decide +kernel
theorem dX11_tellStreet_103 : decode cX11_tellStreet 103 = .ok (.ireturn, 1) := by decide +kernel
theorem dX11_street_0 : decode cX11_street 0 = .ok (.aload_n 0, 1) := by decide +kernel
theorem dX11_street_1 : decode cX11_street 1 = .ok (.iload_n 1, 1) := by decide +kernel
theorem dX11_street_2 : decode cX11_street 2 = .ok (.invokevirtual 185, 3) := by decide +kernel
theorem dX11_street_5 : decode cX11_street 5 = .ok (.ifCond .eq 12, 3) := by decide +kernel
theorem dX11_street_8 : decode cX11_street 8 = .ok (.aload_n 0, 1) := by decide +kernel
theorem dX11_street_9 : decode cX11_street 9 = .ok (.iload_n 1, 1) := by decide +kernel
theorem dX11_street_10 : decode cX11_street 10 = .ok (.iload_n 2, 1) := by decide +kernel
theorem dX11_street_11 : decode cX11_street 11 = .ok (.invokevirtual 219, 3) := by decide +kernel
theorem dX11_street_14 : decode cX11_street 14 = .ok (.goto 5, 3) := by decide +kernel
theorem dX11_street_17 : decode cX11_street 17 = .ok (.bipush (-101), 2) := by decide +kernel
theorem dX11_street_19 : decode cX11_street 19 = .ok (.ireturn, 1) := by decide +kernel
theorem dX11_as_0 : decode cX11_as 0 = .ok (.aload_n 0, 1) := by decide +kernel
theorem dX11_as_1 : decode cX11_as 1 = .ok (.iload_n 1, 1) := by decide +kernel
theorem dX11_as_2 : decode cX11_as 2 = .ok (.invokevirtual 185, 3) := by decide +kernel
theorem dX11_as_5 : decode cX11_as 5 = .ok (.ifCond .ne 6, 3) := by decide +kernel
theorem dX11_as_8 : decode cX11_as 8 = .ok (.bipush (-101), 2) := by decide +kernel
theorem dX11_as_10 : decode cX11_as 10 = .ok (.ireturn, 1) := by decide +kernel
theorem dX11_as_11 : decode cX11_as 11 = .ok (.iload_n 2, 1) := by decide +kernel
theorem dX11_as_12 : decode cX11_as 12 = .ok (.i2l, 1) := by decide +kernel
theorem dX11_as_13 : decode cX11_as 13 = .ok (.lconst 0, 1) := by decide +kernel
theorem dX11_as_14 : decode cX11_as 14 = .ok (.ldc2_w 222, 3) := by decide +kernel
theorem dX11_as_17 : decode cX11_as 17 = .ok (.invokestatic 73, 3) := by decide +kernel
theorem dX11_as_20 : decode cX11_as 20 = .ok (.ifCond .ne 6, 3) := by decide +kernel
theorem dX11_as_23 : decode cX11_as 23 = .ok (.bipush (-102), 2) := by decide +kernel
theorem dX11_as_25 : decode cX11_as 25 = .ok (.ireturn, 1) := by decide +kernel
theorem dX11_as_26 : decode cX11_as 26 = .ok (.iload_n 2, 1) := by decide +kernel
theorem dX11_as_27 : decode cX11_as 27 = .ok (.ifCond .eq 32, 3) := by decide +kernel
theorem dX11_as_30 : decode cX11_as 30 = .ok (.iload_n 2, 1) := by decide +kernel
theorem dX11_as_31 : decode cX11_as 31 = .ok (.aload_n 0, 1) := by decide +kernel
theorem dX11_as_32 : decode cX11_as 32 = .ok (.getfield 13, 3) := by decide +kernel
theorem dX11_as_35 : decode cX11_as 35 = .ok (.iconst 3, 1) := by decide +kernel
theorem dX11_as_36 : decode cX11_as 36 = .ok (.iload_n 1, 1) := by decide +kernel
theorem dX11_as_37 : decode cX11_as 37 = .ok (.imul, 1) := by decide +kernel
theorem dX11_as_38 : decode cX11_as 38 = .ok (.iaload, 1) := by decide +kernel
theorem dX11_as_39 : decode cX11_as 39 = .ok (.if_icmp .eq 20, 3) := by decide +kernel
theorem dX11_as_42 : decode cX11_as 42 = .ok (.iload_n 2, 1) := by decide +kernel
theorem dX11_as_43 : decode cX11_as 43 = .ok (.iconst 1, 1) := by decide +kernel
theorem dX11_as_44 : decode cX11_as 44 = .ok (.if_icmp .ne 19, 3) := by decide +kernel
theorem dX11_as_47 : decode cX11_as 47 = .ok (.aload_n 0, 1) := by decide +kernel
theorem dX11_as_48 : decode cX11_as 48 = .ok (.getfield 13, 3) := by decide +kernel
theorem dX11_as_51 : decode cX11_as 51 = .ok (.iconst 3, 1) := by decide +kernel
theorem dX11_as_52 : decode cX11_as 52 = .ok (.iload_n 1, 1) := by decide +kernel
theorem dX11_as_53 : decode cX11_as 53 = .ok (.imul, 1) := by decide +kernel
theorem dX11_as_54 : decode cX11_as 54 = .ok (.iaload, 1) := by decide +kernel
theorem dX11_as_55 : decode cX11_as 55 = .ok (.iconst 4, 1) := by decide +kernel
theorem dX11_as_56 : decode cX11_as 56 = .ok (.if_icmp .ne 7, 3) := by decide +kernel
theorem dX11_as_59 : decode cX11_as 59 = .ok (.iconst 1, 1) := by decide +kernel
theorem dX11_as_60 : decode cX11_as 60 = .ok (.goto 4, 3) := by decide +kernel
theorem dX11_as_63 : decode cX11_as 63 = .ok (.iconst 0, 1) := by decide +kernel
theorem dX11_as_64 : decode cX11_as 64 = .ok (.istore_n 3, 1) := by decide +kernel
theorem dX11_as_65 : decode cX11_as 65 = .ok (.iload_n 3, 1) := by decide +kernel
theorem dX11_as_66 : decode cX11_as 66 = .ok (.ifCond .eq 7, 3) := by decide +kernel
theorem dX11_as_69 : decode cX11_as 69 = .ok (.iload_n 1, 1) := by decide +kernel
theorem dX11_as_70 : decode cX11_as 70 = .ok (.goto 4, 3) := by decide +kernel
theorem dX11_as_73 : decode cX11_as 73 = .ok (.iconst (-1), 1) := by decide +kernel
theorem dX11_as_74 : decode cX11_as 74 = .ok (.ireturn, 1) := by decide +kernel
theorem dX11_walk_0 : decode cX11_walk 0 = .ok (.aload_n 0, 1) := by decide +kernel
theorem dX11_walk_1 : decode cX11_walk 1 = .ok (.iload_n 1, 1) := by decide +kernel
theorem dX11_walk_2 : decode cX11_walk 2 = .ok (.invokevirtual 185, 3) := by decide +kernel
theorem dX11_walk_5 : decode cX11_walk 5 = .ok (.ifCond .ne 6, 3) := by decide +kernel
theorem dX11_walk_8 : decode cX11_walk 8 = .ok (.bipush (-101), 2) := by decide +kernel
theorem dX11_walk_10 : decode cX11_walk 10 = .ok (.ireturn, 1) := by decide +kernel
theorem dX11_walk_11 : decode cX11_walk 11 = .ok (.aload_n 0, 1) := by decide +kernel
theorem dX11_walk_12 : decode cX11_walk 12 = .ok (.getfield 135, 3) := by decide +kernel
theorem dX11_walk_15 : decode cX11_walk 15 = .ok (.ifCond .eq 31, 3) := by decide +kernel
theorem dX11_walk_18 : decode cX11_walk 18 = .ok (.aload_n 0, 1) := by decide +kernel
theorem dX11_walk_19 : decode cX11_walk 19 = .ok (.iload_n 1, 1) := by decide +kernel
theorem dX11_walk_20 : decode cX11_walk 20 = .ok (.aload_n 0, 1) := by decide +kernel
theorem dX11_walk_21 : decode cX11_walk 21 = .ok (.getfield 111, 3) := by decide +kernel
theorem dX11_walk_24 : decode cX11_walk 24 = .ok (.invokevirtual 224, 3) := by decide +kernel
theorem dX11_walk_27 : decode cX11_walk 27 = .ok (.ifCond .eq 19, 3) := by decide +kernel
theorem dX11_walk_30 : decode cX11_walk 30 = .ok (.aload_n 0, 1) := by decide +kernel
theorem dX11_walk_31 : decode cX11_walk 31 = .ok (.iload_n 1, 1) := by decide +kernel
theorem dX11_walk_32 : decode cX11_walk 32 = .ok (.aload_n 0, 1) := by decide +kernel
theorem dX11_walk_33 : decode cX11_walk 33 = .ok (.getfield 22, 3) := by decide +kernel
theorem dX11_walk_36 : decode cX11_walk 36 = .ok (.aload_n 0, 1) := by decide +kernel
theorem dX11_walk_37 : decode cX11_walk 37 = .ok (.getfield 135, 3) := by decide +kernel
theorem dX11_walk_40 : decode cX11_walk 40 = .ok (.invokevirtual 227, 3) := by decide +kernel
theorem dX11_walk_43 : decode cX11_walk 43 = .ok (.ifCond .ne 6, 3) := by decide +kernel
theorem dX11_walk_46 : decode cX11_walk 46 = .ok (.bipush (-103), 2) := by decide +kernel
theorem dX11_walk_48 : decode cX11_walk 48 = .ok (.ireturn, 1) := by decide +kernel
theorem dX11_walk_49 : decode cX11_walk 49 = .ok (.aload_n 0, 1) := by decide +kernel
theorem dX11_walk_50 : decode cX11_walk 50 = .ok (.getfield 118, 3) := by decide +kernel
theorem dX11_walk_53 : decode cX11_walk 53 = .ok (.sipush 999, 3) := by decide +kernel
theorem dX11_walk_56 : decode cX11_walk 56 = .ok (.if_icmp .ne 6, 3) := by decide +kernel
theorem dX11_walk_59 : decode cX11_walk 59 = .ok (.bipush (-104), 2) := by decide +kernel
theorem dX11_walk_61 : decode cX11_walk 61 = .ok (.ireturn, 1) := by decide +kernel
theorem dX11_walk_62 : decode cX11_walk 62 = .ok (.aload_n 0, 1) := by decide +kernel
theorem dX11_walk_63 : decode cX11_walk 63 = .ok (.iload_n 1, 1) := by decide +kernel
theorem dX11_walk_64 : decode cX11_walk 64 = .ok (.aload_n 0, 1) := by decide +kernel
theorem dX11_walk_65 : decode cX11_walk 65 = .ok (.getfield 22, 3) := by decide +kernel
theorem dX11_walk_68 : decode cX11_walk 68 = .ok (.aload_n 0, 1) := by decide +kernel
theorem dX11_walk_69 : decode cX11_walk 69 = .ok (.getfield 135, 3) := by decide +kernel
theorem dX11_walk_72 : decode cX11_walk 72 = .ok (.invokevirtual 199, 3) := by decide +kernel
theorem dX11_walk_75 : decode cX11_walk 75 = .ok (.aload_n 0, 1) := by decide +kernel
theorem dX11_walk_76 : decode cX11_walk 76 = .ok (.aload_n 0, 1) := by decide +kernel
theorem dX11_walk_77 : decode cX11_walk 77 = .ok (.iload_n 1, 1) := by decide +kernel
theorem dX11_walk_78 : decode cX11_walk 78 = .ok (.aload_n 0, 1) := by decide +kernel
theorem dX11_walk_79 : decode cX11_walk 79 = .ok (.getfield 111, 3) := by decide +kernel
theorem dX11_walk_82 : decode cX11_walk 82 = .ok (.invokevirtual 231, 3) := by decide +kernel
theorem dX11_walk_85 : decode cX11_walk 85 = .ok (.putfield 111, 3) := by decide +kernel
theorem dX11_walk_88 : decode cX11_walk 88 = .ok (.aload_n 0, 1) := by decide +kernel
theorem dX11_walk_89 : decode cX11_walk 89 = .ok (.dup, 1) := by decide +kernel
theorem dX11_walk_90 : decode cX11_walk 90 = .ok (.getfield 118, 3) := by decide +kernel
theorem dX11_walk_93 : decode cX11_walk 93 = .ok (.iconst 1, 1) := by decide +kernel
theorem dX11_walk_94 : decode cX11_walk 94 = .ok (.iadd, 1) := by decide +kernel
theorem dX11_walk_95 : decode cX11_walk 95 = .ok (.putfield 118, 3) := by decide +kernel
theorem dX11_walk_98 : decode cX11_walk 98 = .ok (.aload_n 0, 1) := by decide +kernel
theorem dX11_walk_99 : decode cX11_walk 99 = .ok (.getfield 19, 3) := by decide +kernel
theorem dX11_walk_102 : decode cX11_walk 102 = .ok (.iload_n 1, 1) := by decide +kernel
theorem dX11_walk_103 : decode cX11_walk 103 = .ok (.dup2, 1) := by decide +kernel
theorem dX11_walk_104 : decode cX11_walk 104 = .ok (.iaload, 1) := by decide +kernel
theorem dX11_walk_105 : decode cX11_walk 105 = .ok (.iconst 1, 1) := by decide +kernel
theorem dX11_walk_106 : decode cX11_walk 106 = .ok (.iadd, 1) := by decide +kernel
theorem dX11_walk_107 : decode cX11_walk 107 = .ok (.iastore, 1) := by decide +kernel
theorem dX11_walk_108 : decode cX11_walk 108 = .ok (.aload_n 0, 1) := by decide +kernel
theorem dX11_walk_109 : decode cX11_walk 109 = .ok (.getfield 111, 3) := by decide +kernel
theorem dX11_walk_112 : decode cX11_walk 112 = .ok (.ireturn, 1) := by decide +kernel
theorem dX11_stand_0 : decode cX11_stand 0 = .ok (.aload_n 0, 1) := by decide +kernel
theorem dX11_stand_1 : decode cX11_stand 1 = .ok (.invokevirtual 234, 3) := by decide +kernel
theorem dX11_stand_4 : decode cX11_stand 4 = .ok (.ifCond .ne 19, 3) := by decide +kernel
theorem dX11_stand_7 : decode cX11_stand 7 = .ok (.iload_n 1, 1) := by decide +kernel
theorem dX11_stand_8 : decode cX11_stand 8 = .ok (.i2l, 1) := by decide +kernel
theorem dX11_stand_9 : decode cX11_stand 9 = .ok (.lconst 0, 1) := by decide +kernel
theorem dX11_stand_10 : decode cX11_stand 10 = .ok (.aload_n 0, 1) := by decide +kernel
theorem dX11_stand_11 : decode cX11_stand 11 = .ok (.getfield 105, 3) := by decide +kernel
theorem dX11_stand_14 : decode cX11_stand 14 = .ok (.iconst 1, 1) := by decide +kernel
theorem dX11_stand_15 : decode cX11_stand 15 = .ok (.isub, 1) := by decide +kernel
theorem dX11_stand_16 : decode cX11_stand 16 = .ok (.i2l, 1) := by decide +kernel
theorem dX11_stand_17 : decode cX11_stand 17 = .ok (.invokestatic 73, 3) := by decide +kernel
theorem dX11_stand_20 : decode cX11_stand 20 = .ok (.ifCond .ne 6, 3) := by decide +kernel
theorem dX11_stand_23 : decode cX11_stand 23 = .ok (.bipush (-101), 2) := by decide +kernel
theorem dX11_stand_25 : decode cX11_stand 25 = .ok (.ireturn, 1) := by decide +kernel
theorem dX11_stand_26 : decode cX11_stand 26 = .ok (.aload_n 0, 1) := by decide +kernel
theorem dX11_stand_27 : decode cX11_stand 27 = .ok (.getfield 111, 3) := by decide +kernel
theorem dX11_stand_30 : decode cX11_stand 30 = .ok (.istore_n 2, 1) := by decide +kernel
theorem dX11_stand_31 : decode cX11_stand 31 = .ok (.aload_n 0, 1) := by decide +kernel
theorem dX11_stand_32 : decode cX11_stand 32 = .ok (.iload_n 1, 1) := by decide +kernel
theorem dX11_stand_33 : decode cX11_stand 33 = .ok (.putfield 111, 3) := by decide +kernel
theorem dX11_stand_36 : decode cX11_stand 36 = .ok (.iload_n 2, 1) := by decide +kernel
theorem dX11_stand_37 : decode cX11_stand 37 = .ok (.ireturn, 1) := by decide +kernel
theorem dX11_dusk_0 : decode cX11_dusk 0 = .ok (.aload_n 0, 1) := by decide +kernel
theorem dX11_dusk_1 : decode cX11_dusk 1 = .ok (.invokevirtual 234, 3) := by decide +kernel
theorem dX11_dusk_4 : decode cX11_dusk 4 = .ok (.ifCond .eq 6, 3) := by decide +kernel
theorem dX11_dusk_7 : decode cX11_dusk 7 = .ok (.bipush (-103), 2) := by decide +kernel
theorem dX11_dusk_9 : decode cX11_dusk 9 = .ok (.ireturn, 1) := by decide +kernel
theorem dX11_dusk_10 : decode cX11_dusk 10 = .ok (.aload_n 0, 1) := by decide +kernel
theorem dX11_dusk_11 : decode cX11_dusk 11 = .ok (.aload_n 0, 1) := by decide +kernel
theorem dX11_dusk_12 : decode cX11_dusk 12 = .ok (.getfield 114, 3) := by decide +kernel
theorem dX11_dusk_15 : decode cX11_dusk 15 = .ok (.ifCond .ne 7, 3) := by decide +kernel
theorem dX11_dusk_18 : decode cX11_dusk 18 = .ok (.iconst 1, 1) := by decide +kernel
theorem dX11_dusk_19 : decode cX11_dusk 19 = .ok (.goto 4, 3) := by decide +kernel
theorem dX11_dusk_22 : decode cX11_dusk 22 = .ok (.iconst 0, 1) := by decide +kernel
theorem dX11_dusk_23 : decode cX11_dusk 23 = .ok (.putfield 114, 3) := by decide +kernel
theorem dX11_dusk_26 : decode cX11_dusk 26 = .ok (.aload_n 0, 1) := by decide +kernel
theorem dX11_dusk_27 : decode cX11_dusk 27 = .ok (.getfield 114, 3) := by decide +kernel
theorem dX11_dusk_30 : decode cX11_dusk 30 = .ok (.ifCond .eq 7, 3) := by decide +kernel
theorem dX11_dusk_33 : decode cX11_dusk 33 = .ok (.iconst 1, 1) := by decide +kernel
theorem dX11_dusk_34 : decode cX11_dusk 34 = .ok (.goto 4, 3) := by decide +kernel
theorem dX11_dusk_37 : decode cX11_dusk 37 = .ok (.iconst 0, 1) := by decide +kernel
theorem dX11_dusk_38 : decode cX11_dusk 38 = .ok (.ireturn, 1) := by decide +kernel
theorem dX11_sing_0 : decode cX11_sing 0 = .ok (.aload_n 0, 1) := by decide +kernel
theorem dX11_sing_1 : decode cX11_sing 1 = .ok (.iload_n 1, 1) := by decide +kernel
theorem dX11_sing_2 : decode cX11_sing 2 = .ok (.invokevirtual 172, 3) := by decide +kernel
theorem dX11_sing_5 : decode cX11_sing 5 = .ok (.ifCond .eq 20, 3) := by decide +kernel
theorem dX11_sing_8 : decode cX11_sing 8 = .ok (.iload_n 2, 1) := by decide +kernel
theorem dX11_sing_9 : decode cX11_sing 9 = .ok (.i2l, 1) := by decide +kernel
theorem dX11_sing_10 : decode cX11_sing 10 = .ok (.lconst 0, 1) := by decide +kernel
theorem dX11_sing_11 : decode cX11_sing 11 = .ok (.aload_n 0, 1) := by decide +kernel
theorem dX11_sing_12 : decode cX11_sing 12 = .ok (.iload_n 1, 1) := by decide +kernel
theorem dX11_sing_13 : decode cX11_sing 13 = .ok (.invokevirtual 141, 3) := by decide +kernel
theorem dX11_sing_16 : decode cX11_sing 16 = .ok (.iconst 1, 1) := by decide +kernel
theorem dX11_sing_17 : decode cX11_sing 17 = .ok (.isub, 1) := by decide +kernel
theorem dX11_sing_18 : decode cX11_sing 18 = .ok (.i2l, 1) := by decide +kernel
theorem dX11_sing_19 : decode cX11_sing 19 = .ok (.invokestatic 73, 3) := by decide +kernel
theorem dX11_sing_22 : decode cX11_sing 22 = .ok (.ifCond .ne 6, 3) := by decide +kernel
theorem dX11_sing_25 : decode cX11_sing 25 = .ok (.bipush (-101), 2) := by decide +kernel
theorem dX11_sing_27 : decode cX11_sing 27 = .ok (.ireturn, 1) := by decide +kernel
theorem dX11_sing_28 : decode cX11_sing 28 = .ok (.iload_n 3, 1) := by decide +kernel
theorem dX11_sing_29 : decode cX11_sing 29 = .ok (.invokestatic 188, 3) := by decide +kernel
theorem dX11_sing_32 : decode cX11_sing 32 = .ok (.ifCond .ne 6, 3) := by decide +kernel
theorem dX11_sing_35 : decode cX11_sing 35 = .ok (.bipush (-102), 2) := by decide +kernel
theorem dX11_sing_37 : decode cX11_sing 37 = .ok (.ireturn, 1) := by decide +kernel
theorem dX11_sing_38 : decode cX11_sing 38 = .ok (.aload_n 0, 1) := by decide +kernel
theorem dX11_sing_39 : decode cX11_sing 39 = .ok (.iload_n 1, 1) := by decide +kernel
theorem dX11_sing_40 : decode cX11_sing 40 = .ok (.iload_n 2, 1) := by decide +kernel
theorem dX11_sing_41 : decode cX11_sing 41 = .ok (.invokevirtual 148, 3) := by decide +kernel
theorem dX11_sing_44 : decode cX11_sing 44 = .ok (.istore 4, 2) := by decide +kernel
theorem dX11_sing_46 : decode cX11_sing 46 = .ok (.iload_n 1, 1) := by decide +kernel
theorem dX11_sing_47 : decode cX11_sing 47 = .ok (.ifCond .ne 13, 3) := by decide +kernel
theorem dX11_sing_50 : decode cX11_sing 50 = .ok (.aload_n 0, 1) := by decide +kernel
theorem dX11_sing_51 : decode cX11_sing 51 = .ok (.getfield 22, 3) := by decide +kernel
theorem dX11_sing_54 : decode cX11_sing 54 = .ok (.iload_n 2, 1) := by decide +kernel
theorem dX11_sing_55 : decode cX11_sing 55 = .ok (.iload_n 3, 1) := by decide +kernel
theorem dX11_sing_56 : decode cX11_sing 56 = .ok (.iastore, 1) := by decide +kernel
theorem dX11_sing_57 : decode cX11_sing 57 = .ok (.goto 10, 3) := by decide +kernel
theorem dX11_sing_60 : decode cX11_sing 60 = .ok (.aload_n 0, 1) := by decide +kernel
theorem dX11_sing_61 : decode cX11_sing 61 = .ok (.getfield 25, 3) := by decide +kernel
theorem dX11_sing_64 : decode cX11_sing 64 = .ok (.iload_n 2, 1) := by decide +kernel
theorem dX11_sing_65 : decode cX11_sing 65 = .ok (.iload_n 3, 1) := by decide +kernel
theorem dX11_sing_66 : decode cX11_sing 66 = .ok (.iastore, 1) := by decide +kernel
theorem dX11_sing_67 : decode cX11_sing 67 = .ok (.iload 4, 2) := by decide +kernel
theorem dX11_sing_69 : decode cX11_sing 69 = .ok (.ireturn, 1) := by decide +kernel
theorem dX11_raise_0 : decode cX11_raise 0 = .ok (.aload_n 0, 1) := by decide +kernel
theorem dX11_raise_1 : decode cX11_raise 1 = .ok (.iload_n 1, 1) := by decide +kernel
theorem dX11_raise_2 : decode cX11_raise 2 = .ok (.invokevirtual 185, 3) := by decide +kernel
theorem dX11_raise_5 : decode cX11_raise 5 = .ok (.ifCond .ne 6, 3) := by decide +kernel
theorem dX11_raise_8 : decode cX11_raise 8 = .ok (.bipush (-101), 2) := by decide +kernel
theorem dX11_raise_10 : decode cX11_raise 10 = .ok (.ireturn, 1) := by decide +kernel
theorem dX11_raise_11 : decode cX11_raise 11 = .ok (.iload_n 2, 1) := by decide +kernel
theorem dX11_raise_12 : decode cX11_raise 12 = .ok (.invokestatic 188, 3) := by decide +kernel
theorem dX11_raise_15 : decode cX11_raise 15 = .ok (.ifCond .ne 6, 3) := by decide +kernel
theorem dX11_raise_18 : decode cX11_raise 18 = .ok (.bipush (-102), 2) := by decide +kernel
theorem dX11_raise_20 : decode cX11_raise 20 = .ok (.ireturn, 1) := by decide +kernel
theorem dX11_raise_21 : decode cX11_raise 21 = .ok (.aload_n 0, 1) := by decide +kernel
theorem dX11_raise_22 : decode cX11_raise 22 = .ok (.getfield 16, 3) := by decide +kernel
theorem dX11_raise_25 : decode cX11_raise 25 = .ok (.iload_n 1, 1) := by decide +kernel
theorem dX11_raise_26 : decode cX11_raise 26 = .ok (.iaload, 1) := by decide +kernel
theorem dX11_raise_27 : decode cX11_raise 27 = .ok (.istore_n 3, 1) := by decide +kernel
theorem dX11_raise_28 : decode cX11_raise 28 = .ok (.aload_n 0, 1) := by decide +kernel
theorem dX11_raise_29 : decode cX11_raise 29 = .ok (.getfield 16, 3) := by decide +kernel
theorem dX11_raise_32 : decode cX11_raise 32 = .ok (.iload_n 1, 1) := by decide +kernel
theorem dX11_raise_33 : decode cX11_raise 33 = .ok (.iload_n 2, 1) := by decide +kernel
theorem dX11_raise_34 : decode cX11_raise 34 = .ok (.iastore, 1) := by decide +kernel
theorem dX11_raise_35 : decode cX11_raise 35 = .ok (.iload_n 3, 1) := by decide +kernel
theorem dX11_raise_36 : decode cX11_raise 36 = .ok (.ireturn, 1) := by decide +kernel
theorem dX11_beginWalk_0 : decode cX11_beginWalk 0 = .ok (.iconst 0, 1) := by decide +kernel
theorem dX11_beginWalk_1 : decode cX11_beginWalk 1 = .ok (.istore_n 1, 1) := by decide +kernel
theorem dX11_beginWalk_2 : decode cX11_beginWalk 2 = .ok (.iload_n 1, 1) := by decide +kernel
theorem dX11_beginWalk_3 : decode cX11_beginWalk 3 = .ok (.bipush 8, 2) := by decide +kernel
theorem dX11_beginWalk_5 : decode cX11_beginWalk 5 = .ok (.if_icmp .ge 21, 3) := by decide +kernel
theorem dX11_beginWalk_8 : decode cX11_beginWalk 8 = .ok (.aload_n 0, 1) := by decide +kernel
theorem dX11_beginWalk_9 : decode cX11_beginWalk 9 = .ok (.getfield 34, 3) := by decide +kernel
theorem dX11_beginWalk_12 : decode cX11_beginWalk 12 = .ok (.iload_n 1, 1) := by decide +kernel
theorem dX11_beginWalk_13 : decode cX11_beginWalk 13 = .ok (.aload_n 0, 1) := by decide +kernel
theorem dX11_beginWalk_14 : decode cX11_beginWalk 14 = .ok (.getfield 22, 3) := by decide +kernel
theorem dX11_beginWalk_17 : decode cX11_beginWalk 17 = .ok (.iload_n 1, 1) := by decide +kernel
theorem dX11_beginWalk_18 : decode cX11_beginWalk 18 = .ok (.iaload, 1) := by decide +kernel
theorem dX11_beginWalk_19 : decode cX11_beginWalk 19 = .ok (.iastore, 1) := by decide +kernel
theorem dX11_beginWalk_20 : decode cX11_beginWalk 20 = .ok (.iinc 1 1, 3) := by decide +kernel
theorem dX11_beginWalk_23 : decode cX11_beginWalk 23 = .ok (.goto (-21), 3) := by decide +kernel
theorem dX11_beginWalk_26 : decode cX11_beginWalk 26 = .ok (.aload_n 0, 1) := by decide +kernel
theorem dX11_beginWalk_27 : decode cX11_beginWalk 27 = .ok (.getfield 37, 3) := by decide +kernel
theorem dX11_beginWalk_30 : decode cX11_beginWalk 30 = .ok (.iconst 0, 1) := by decide +kernel
theorem dX11_beginWalk_31 : decode cX11_beginWalk 31 = .ok (.aload_n 0, 1) := by decide +kernel
theorem dX11_beginWalk_32 : decode cX11_beginWalk 32 = .ok (.getfield 111, 3) := by decide +kernel
theorem dX11_beginWalk_35 : decode cX11_beginWalk 35 = .ok (.iastore, 1) := by decide +kernel
theorem dX11_beginWalk_36 : decode cX11_beginWalk 36 = .ok (.return_, 1) := by decide +kernel
theorem dX11_goOn_0 : decode cX11_goOn 0 = .ok (.iconst 0, 1) := by decide +kernel
theorem dX11_goOn_1 : decode cX11_goOn 1 = .ok (.istore_n 3, 1) := by decide +kernel
theorem dX11_goOn_2 : decode cX11_goOn 2 = .ok (.iload_n 3, 1) := by decide +kernel
theorem dX11_goOn_3 : decode cX11_goOn 3 = .ok (.bipush 8, 2) := by decide +kernel
theorem dX11_goOn_5 : decode cX11_goOn 5 = .ok (.if_icmp .ge 26, 3) := by decide +kernel
theorem dX11_goOn_8 : decode cX11_goOn 8 = .ok (.aload_n 0, 1) := by decide +kernel
theorem dX11_goOn_9 : decode cX11_goOn 9 = .ok (.getfield 31, 3) := by decide +kernel
theorem dX11_goOn_12 : decode cX11_goOn 12 = .ok (.iload_n 3, 1) := by decide +kernel
theorem dX11_goOn_13 : decode cX11_goOn 13 = .ok (.aload_n 0, 1) := by decide +kernel
theorem dX11_goOn_14 : decode cX11_goOn 14 = .ok (.getfield 34, 3) := by decide +kernel
theorem dX11_goOn_17 : decode cX11_goOn 17 = .ok (.bipush 8, 2) := by decide +kernel
theorem dX11_goOn_19 : decode cX11_goOn 19 = .ok (.iload_n 1, 1) := by decide +kernel
theorem dX11_goOn_20 : decode cX11_goOn 20 = .ok (.imul, 1) := by decide +kernel
theorem dX11_goOn_21 : decode cX11_goOn 21 = .ok (.iload_n 3, 1) := by decide +kernel
theorem dX11_goOn_22 : decode cX11_goOn 22 = .ok (.iadd, 1) := by decide +kernel
theorem dX11_goOn_23 : decode cX11_goOn 23 = .ok (.iaload, 1) := by decide +kernel
theorem dX11_goOn_24 : decode cX11_goOn 24 = .ok (.iastore, 1) := by decide +kernel
theorem dX11_goOn_25 : decode cX11_goOn 25 = .ok (.iinc 3 1, 3) := by decide +kernel
theorem dX11_goOn_28 : decode cX11_goOn 28 = .ok (.goto (-26), 3) := by decide +kernel
theorem dX11_goOn_31 : decode cX11_goOn 31 = .ok (.aload_n 0, 1) := by decide +kernel
theorem dX11_goOn_32 : decode cX11_goOn 32 = .ok (.iload_n 2, 1) := by decide +kernel
theorem dX11_goOn_33 : decode cX11_goOn 33 = .ok (.aload_n 0, 1) := by decide +kernel
theorem dX11_goOn_34 : decode cX11_goOn 34 = .ok (.getfield 37, 3) := by decide +kernel
theorem dX11_goOn_37 : decode cX11_goOn 37 = .ok (.iload_n 1, 1) := by decide +kernel
theorem dX11_goOn_38 : decode cX11_goOn 38 = .ok (.iaload, 1) := by decide +kernel
theorem dX11_goOn_39 : decode cX11_goOn 39 = .ok (.invokevirtual 224, 3) := by decide +kernel
theorem dX11_goOn_42 : decode cX11_goOn 42 = .ok (.ifCond .eq 19, 3) := by decide +kernel
theorem dX11_goOn_45 : decode cX11_goOn 45 = .ok (.aload_n 0, 1) := by decide +kernel
theorem dX11_goOn_46 : decode cX11_goOn 46 = .ok (.iload_n 2, 1) := by decide +kernel
theorem dX11_goOn_47 : decode cX11_goOn 47 = .ok (.aload_n 0, 1) := by decide +kernel
theorem dX11_goOn_48 : decode cX11_goOn 48 = .ok (.getfield 31, 3) := by decide +kernel
theorem dX11_goOn_51 : decode cX11_goOn 51 = .ok (.aload_n 0, 1) := by decide +kernel
theorem dX11_goOn_52 : decode cX11_goOn 52 = .ok (.getfield 135, 3) := by decide +kernel
theorem dX11_goOn_55 : decode cX11_goOn 55 = .ok (.invokevirtual 227, 3) := by decide +kernel
theorem dX11_goOn_58 : decode cX11_goOn 58 = .ok (.ifCond .ne 5, 3) := by decide +kernel
theorem dX11_goOn_61 : decode cX11_goOn 61 = .ok (.iconst 0, 1) := by decide +kernel
theorem dX11_goOn_62 : decode cX11_goOn 62 = .ok (.ireturn, 1) := by decide +kernel
theorem dX11_goOn_63 : decode cX11_goOn 63 = .ok (.aload_n 0, 1) := by decide +kernel
theorem dX11_goOn_64 : decode cX11_goOn 64 = .ok (.iload_n 2, 1) := by decide +kernel
theorem dX11_goOn_65 : decode cX11_goOn 65 = .ok (.aload_n 0, 1) := by decide +kernel
theorem dX11_goOn_66 : decode cX11_goOn 66 = .ok (.getfield 31, 3) := by decide +kernel
theorem dX11_goOn_69 : decode cX11_goOn 69 = .ok (.aload_n 0, 1) := by decide +kernel
theorem dX11_goOn_70 : decode cX11_goOn 70 = .ok (.getfield 135, 3) := by decide +kernel
theorem dX11_goOn_73 : decode cX11_goOn 73 = .ok (.invokevirtual 199, 3) := by decide +kernel
theorem dX11_goOn_76 : decode cX11_goOn 76 = .ok (.iconst 0, 1) := by decide +kernel
theorem dX11_goOn_77 : decode cX11_goOn 77 = .ok (.istore_n 3, 1) := by decide +kernel
theorem dX11_goOn_78 : decode cX11_goOn 78 = .ok (.iload_n 3, 1) := by decide +kernel
theorem dX11_goOn_79 : decode cX11_goOn 79 = .ok (.bipush 8, 2) := by decide +kernel
theorem dX11_goOn_81 : decode cX11_goOn 81 = .ok (.if_icmp .ge 29, 3) := by decide +kernel
theorem dX11_goOn_84 : decode cX11_goOn 84 = .ok (.aload_n 0, 1) := by decide +kernel
theorem dX11_goOn_85 : decode cX11_goOn 85 = .ok (.getfield 34, 3) := by decide +kernel
theorem dX11_goOn_88 : decode cX11_goOn 88 = .ok (.bipush 8, 2) := by decide +kernel
theorem dX11_goOn_90 : decode cX11_goOn 90 = .ok (.iload_n 1, 1) := by decide +kernel
theorem dX11_goOn_91 : decode cX11_goOn 91 = .ok (.imul, 1) := by decide +kernel
theorem dX11_goOn_92 : decode cX11_goOn 92 = .ok (.bipush 8, 2) := by decide +kernel
theorem dX11_goOn_94 : decode cX11_goOn 94 = .ok (.iadd, 1) := by decide +kernel
theorem dX11_goOn_95 : decode cX11_goOn 95 = .ok (.iload_n 3, 1) := by decide +kernel
theorem dX11_goOn_96 : decode cX11_goOn 96 = .ok (.iadd, 1) := by decide +kernel
theorem dX11_goOn_97 : decode cX11_goOn 97 = .ok (.aload_n 0, 1) := by decide +kernel
theorem dX11_goOn_98 : decode cX11_goOn 98 = .ok (.getfield 31, 3) := by decide +kernel
theorem dX11_goOn_101 : decode cX11_goOn 101 = .ok (.iload_n 3, 1) := by decide +kernel
theorem dX11_goOn_102 : decode cX11_goOn 102 = .ok (.iaload, 1) := by decide +kernel
theorem dX11_goOn_103 : decode cX11_goOn 103 = .ok (.iastore, 1) := by decide +kernel
theorem dX11_goOn_104 : decode cX11_goOn 104 = .ok (.iinc 3 1, 3) := by decide +kernel
theorem dX11_goOn_107 : decode cX11_goOn 107 = .ok (.goto (-29), 3) := by decide +kernel
theorem dX11_goOn_110 : decode cX11_goOn 110 = .ok (.aload_n 0, 1) := by decide +kernel
theorem dX11_goOn_111 : decode cX11_goOn 111 = .ok (.getfield 37, 3) := by decide +kernel
theorem dX11_goOn_114 : decode cX11_goOn 114 = .ok (.iload_n 1, 1) := by decide +kernel
theorem dX11_goOn_115 : decode cX11_goOn 115 = .ok (.iconst 1, 1) := by decide +kernel
theorem dX11_goOn_116 : decode cX11_goOn 116 = .ok (.iadd, 1) := by decide +kernel
theorem dX11_goOn_117 : decode cX11_goOn 117 = .ok (.aload_n 0, 1) := by decide +kernel
theorem dX11_goOn_118 : decode cX11_goOn 118 = .ok (.iload_n 2, 1) := by decide +kernel
theorem dX11_goOn_119 : decode cX11_goOn 119 = .ok (.aload_n 0, 1) := by decide +kernel
theorem dX11_goOn_120 : decode cX11_goOn 120 = .ok (.getfield 37, 3) := by decide +kernel
theorem dX11_goOn_123 : decode cX11_goOn 123 = .ok (.iload_n 1, 1) := by decide +kernel
theorem dX11_goOn_124 : decode cX11_goOn 124 = .ok (.iaload, 1) := by decide +kernel
theorem dX11_goOn_125 : decode cX11_goOn 125 = .ok (.invokevirtual 231, 3) := by decide +kernel
theorem dX11_goOn_128 : decode cX11_goOn 128 = .ok (.iastore, 1) := by decide +kernel
theorem dX11_goOn_129 : decode cX11_goOn 129 = .ok (.iconst 1, 1) := by decide +kernel
theorem dX11_goOn_130 : decode cX11_goOn 130 = .ok (.ireturn, 1) := by decide +kernel
theorem dX11_isThere_0 : decode cX11_isThere 0 = .ok (.aload_n 0, 1) := by decide +kernel
theorem dX11_isThere_1 : decode cX11_isThere 1 = .ok (.getfield 135, 3) := by decide +kernel
theorem dX11_isThere_4 : decode cX11_isThere 4 = .ok (.aload_n 0, 1) := by decide +kernel
theorem dX11_isThere_5 : decode cX11_isThere 5 = .ok (.getfield 138, 3) := by decide +kernel
theorem dX11_isThere_8 : decode cX11_isThere 8 = .ok (.if_icmp .ne 7, 3) := by decide +kernel
theorem dX11_isThere_11 : decode cX11_isThere 11 = .ok (.iconst 1, 1) := by decide +kernel
theorem dX11_isThere_12 : decode cX11_isThere 12 = .ok (.goto 4, 3) := by decide +kernel
theorem dX11_isThere_15 : decode cX11_isThere 15 = .ok (.iconst 0, 1) := by decide +kernel
theorem dX11_isThere_16 : decode cX11_isThere 16 = .ok (.istore_n 2, 1) := by decide +kernel
theorem dX11_isThere_17 : decode cX11_isThere 17 = .ok (.iconst 0, 1) := by decide +kernel
theorem dX11_isThere_18 : decode cX11_isThere 18 = .ok (.istore_n 3, 1) := by decide +kernel
theorem dX11_isThere_19 : decode cX11_isThere 19 = .ok (.iload_n 3, 1) := by decide +kernel
theorem dX11_isThere_20 : decode cX11_isThere 20 = .ok (.aload_n 0, 1) := by decide +kernel
theorem dX11_isThere_21 : decode cX11_isThere 21 = .ok (.getfield 135, 3) := by decide +kernel
theorem dX11_isThere_24 : decode cX11_isThere 24 = .ok (.if_icmp .ge 39, 3) := by decide +kernel
theorem dX11_isThere_27 : decode cX11_isThere 27 = .ok (.iload_n 2, 1) := by decide +kernel
theorem dX11_isThere_28 : decode cX11_isThere 28 = .ok (.ifCond .eq 35, 3) := by decide +kernel
theorem dX11_isThere_31 : decode cX11_isThere 31 = .ok (.aload_n 0, 1) := by decide +kernel
theorem dX11_isThere_32 : decode cX11_isThere 32 = .ok (.getfield 34, 3) := by decide +kernel
theorem dX11_isThere_35 : decode cX11_isThere 35 = .ok (.bipush 8, 2) := by decide +kernel
theorem dX11_isThere_37 : decode cX11_isThere 37 = .ok (.iload_n 1, 1) := by decide +kernel
theorem dX11_isThere_38 : decode cX11_isThere 38 = .ok (.imul, 1) := by decide +kernel
theorem dX11_isThere_39 : decode cX11_isThere 39 = .ok (.iload_n 3, 1) := by decide +kernel
theorem dX11_isThere_40 : decode cX11_isThere 40 = .ok (.iadd, 1) := by decide +kernel
theorem dX11_isThere_41 : decode cX11_isThere 41 = .ok (.iaload, 1) := by decide +kernel
theorem dX11_isThere_42 : decode cX11_isThere 42 = .ok (.aload_n 0, 1) := by decide +kernel
theorem dX11_isThere_43 : decode cX11_isThere 43 = .ok (.getfield 25, 3) := by decide +kernel
theorem dX11_isThere_46 : decode cX11_isThere 46 = .ok (.iload_n 3, 1) := by decide +kernel
theorem dX11_isThere_47 : decode cX11_isThere 47 = .ok (.iaload, 1) := by decide +kernel
theorem dX11_isThere_48 : decode cX11_isThere 48 = .ok (.if_icmp .ne 7, 3) := by decide +kernel
theorem dX11_isThere_51 : decode cX11_isThere 51 = .ok (.iconst 1, 1) := by decide +kernel
theorem dX11_isThere_52 : decode cX11_isThere 52 = .ok (.goto 4, 3) := by decide +kernel
theorem dX11_isThere_55 : decode cX11_isThere 55 = .ok (.iconst 0, 1) := by decide +kernel
theorem dX11_isThere_56 : decode cX11_isThere 56 = .ok (.istore_n 2, 1) := by decide +kernel
theorem dX11_isThere_57 : decode cX11_isThere 57 = .ok (.iinc 3 1, 3) := by decide +kernel
theorem dX11_isThere_60 : decode cX11_isThere 60 = .ok (.goto (-41), 3) := by decide +kernel
theorem dX11_isThere_63 : decode cX11_isThere 63 = .ok (.iload_n 2, 1) := by decide +kernel
theorem dX11_isThere_64 : decode cX11_isThere 64 = .ok (.ireturn, 1) := by decide +kernel
theorem dX11_layWay_0 : decode cX11_layWay 0 = .ok (.aload_n 0, 1) := by decide +kernel
theorem dX11_layWay_1 : decode cX11_layWay 1 = .ok (.invokevirtual 237, 3) := by decide +kernel
theorem dX11_layWay_4 : decode cX11_layWay 4 = .ok (.iconst 0, 1) := by decide +kernel
theorem dX11_layWay_5 : decode cX11_layWay 5 = .ok (.istore_n 2, 1) := by decide +kernel
theorem dX11_layWay_6 : decode cX11_layWay 6 = .ok (.aload_n 0, 1) := by decide +kernel
theorem dX11_layWay_7 : decode cX11_layWay 7 = .ok (.getfield 40, 3) := by decide +kernel
theorem dX11_layWay_10 : decode cX11_layWay 10 = .ok (.iconst 0, 1) := by decide +kernel
theorem dX11_layWay_11 : decode cX11_layWay 11 = .ok (.iconst (-1), 1) := by decide +kernel
theorem dX11_layWay_12 : decode cX11_layWay 12 = .ok (.iastore, 1) := by decide +kernel
theorem dX11_layWay_13 : decode cX11_layWay 13 = .ok (.iload_n 2, 1) := by decide +kernel
theorem dX11_layWay_14 : decode cX11_layWay 14 = .ok (.ifCond .lt 80, 3) := by decide +kernel
theorem dX11_layWay_17 : decode cX11_layWay 17 = .ok (.iload_n 2, 1) := by decide +kernel
theorem dX11_layWay_18 : decode cX11_layWay 18 = .ok (.iload_n 1, 1) := by decide +kernel
theorem dX11_layWay_19 : decode cX11_layWay 19 = .ok (.if_icmp .ne 19, 3) := by decide +kernel
theorem dX11_layWay_22 : decode cX11_layWay 22 = .ok (.aload_n 0, 1) := by decide +kernel
theorem dX11_layWay_23 : decode cX11_layWay 23 = .ok (.iload_n 2, 1) := by decide +kernel
theorem dX11_layWay_24 : decode cX11_layWay 24 = .ok (.invokevirtual 240, 3) := by decide +kernel
theorem dX11_layWay_27 : decode cX11_layWay 27 = .ok (.ifCond .eq 5, 3) := by decide +kernel
theorem dX11_layWay_30 : decode cX11_layWay 30 = .ok (.iconst 1, 1) := by decide +kernel
theorem dX11_layWay_31 : decode cX11_layWay 31 = .ok (.ireturn, 1) := by decide +kernel
theorem dX11_layWay_32 : decode cX11_layWay 32 = .ok (.iinc 2 (-1), 3) := by decide +kernel
theorem dX11_layWay_35 : decode cX11_layWay 35 = .ok (.goto (-22), 3) := by decide +kernel
theorem dX11_layWay_38 : decode cX11_layWay 38 = .ok (.aload_n 0, 1) := by decide +kernel
theorem dX11_layWay_39 : decode cX11_layWay 39 = .ok (.getfield 40, 3) := by decide +kernel
theorem dX11_layWay_42 : decode cX11_layWay 42 = .ok (.iload_n 2, 1) := by decide +kernel
theorem dX11_layWay_43 : decode cX11_layWay 43 = .ok (.dup2, 1) := by decide +kernel
theorem dX11_layWay_44 : decode cX11_layWay 44 = .ok (.iaload, 1) := by decide +kernel
theorem dX11_layWay_45 : decode cX11_layWay 45 = .ok (.iconst 1, 1) := by decide +kernel
theorem dX11_layWay_46 : decode cX11_layWay 46 = .ok (.iadd, 1) := by decide +kernel
theorem dX11_layWay_47 : decode cX11_layWay 47 = .ok (.iastore, 1) := by decide +kernel
theorem dX11_layWay_48 : decode cX11_layWay 48 = .ok (.aload_n 0, 1) := by decide +kernel
theorem dX11_layWay_49 : decode cX11_layWay 49 = .ok (.getfield 40, 3) := by decide +kernel
theorem dX11_layWay_52 : decode cX11_layWay 52 = .ok (.iload_n 2, 1) := by decide +kernel
theorem dX11_layWay_53 : decode cX11_layWay 53 = .ok (.iaload, 1) := by decide +kernel
theorem dX11_layWay_54 : decode cX11_layWay 54 = .ok (.aload_n 0, 1) := by decide +kernel
theorem dX11_layWay_55 : decode cX11_layWay 55 = .ok (.getfield 108, 3) := by decide +kernel
theorem dX11_layWay_58 : decode cX11_layWay 58 = .ok (.if_icmp .ne 9, 3) := by decide +kernel
theorem dX11_layWay_61 : decode cX11_layWay 61 = .ok (.iinc 2 (-1), 3) := by decide +kernel
theorem dX11_layWay_64 : decode cX11_layWay 64 = .ok (.goto (-51), 3) := by decide +kernel
theorem dX11_layWay_67 : decode cX11_layWay 67 = .ok (.aload_n 0, 1) := by decide +kernel
theorem dX11_layWay_68 : decode cX11_layWay 68 = .ok (.iload_n 2, 1) := by decide +kernel
theorem dX11_layWay_69 : decode cX11_layWay 69 = .ok (.aload_n 0, 1) := by decide +kernel
theorem dX11_layWay_70 : decode cX11_layWay 70 = .ok (.getfield 40, 3) := by decide +kernel
theorem dX11_layWay_73 : decode cX11_layWay 73 = .ok (.iload_n 2, 1) := by decide +kernel
theorem dX11_layWay_74 : decode cX11_layWay 74 = .ok (.iaload, 1) := by decide +kernel
theorem dX11_layWay_75 : decode cX11_layWay 75 = .ok (.invokevirtual 243, 3) := by decide +kernel
theorem dX11_layWay_78 : decode cX11_layWay 78 = .ok (.ifCond .eq (-65), 3) := by decide +kernel
theorem dX11_layWay_81 : decode cX11_layWay 81 = .ok (.iinc 2 1, 3) := by decide +kernel
theorem dX11_layWay_84 : decode cX11_layWay 84 = .ok (.aload_n 0, 1) := by decide +kernel
theorem dX11_layWay_85 : decode cX11_layWay 85 = .ok (.getfield 40, 3) := by decide +kernel
theorem dX11_layWay_88 : decode cX11_layWay 88 = .ok (.iload_n 2, 1) := by decide +kernel
theorem dX11_layWay_89 : decode cX11_layWay 89 = .ok (.iconst (-1), 1) := by decide +kernel
theorem dX11_layWay_90 : decode cX11_layWay 90 = .ok (.iastore, 1) := by decide +kernel
theorem dX11_layWay_91 : decode cX11_layWay 91 = .ok (.goto (-78), 3) := by decide +kernel
theorem dX11_layWay_94 : decode cX11_layWay 94 = .ok (.iconst 0, 1) := by decide +kernel
theorem dX11_layWay_95 : decode cX11_layWay 95 = .ok (.ireturn, 1) := by decide +kernel
theorem dX11_wayOf_0 : decode cX11_wayOf 0 = .ok (.iconst 0, 1) := by decide +kernel
theorem dX11_wayOf_1 : decode cX11_wayOf 1 = .ok (.istore_n 2, 1) := by decide +kernel
theorem dX11_wayOf_2 : decode cX11_wayOf 2 = .ok (.iload_n 2, 1) := by decide +kernel
theorem dX11_wayOf_3 : decode cX11_wayOf 3 = .ok (.bipush 6, 2) := by decide +kernel
theorem dX11_wayOf_5 : decode cX11_wayOf 5 = .ok (.if_icmp .ge 61, 3) := by decide +kernel
theorem dX11_wayOf_8 : decode cX11_wayOf 8 = .ok (.aload_n 0, 1) := by decide +kernel
theorem dX11_wayOf_9 : decode cX11_wayOf 9 = .ok (.iload_n 2, 1) := by decide +kernel
theorem dX11_wayOf_10 : decode cX11_wayOf 10 = .ok (.invokevirtual 246, 3) := by decide +kernel
theorem dX11_wayOf_13 : decode cX11_wayOf 13 = .ok (.ifCond .eq 47, 3) := by decide +kernel
theorem dX11_wayOf_16 : decode cX11_wayOf 16 = .ok (.iload_n 1, 1) := by decide +kernel
theorem dX11_wayOf_17 : decode cX11_wayOf 17 = .ok (.ifCond .ne 7, 3) := by decide +kernel
theorem dX11_wayOf_20 : decode cX11_wayOf 20 = .ok (.iload_n 2, 1) := by decide +kernel
theorem dX11_wayOf_21 : decode cX11_wayOf 21 = .ok (.goto 38, 3) := by decide +kernel
theorem dX11_wayOf_24 : decode cX11_wayOf 24 = .ok (.iload_n 1, 1) := by decide +kernel
theorem dX11_wayOf_25 : decode cX11_wayOf 25 = .ok (.iconst 1, 1) := by decide +kernel
theorem dX11_wayOf_26 : decode cX11_wayOf 26 = .ok (.if_icmp .ne 12, 3) := by decide +kernel
theorem dX11_wayOf_29 : decode cX11_wayOf 29 = .ok (.aload_n 0, 1) := by decide +kernel
theorem dX11_wayOf_30 : decode cX11_wayOf 30 = .ok (.getfield 37, 3) := by decide +kernel
theorem dX11_wayOf_33 : decode cX11_wayOf 33 = .ok (.iload_n 2, 1) := by decide +kernel
theorem dX11_wayOf_34 : decode cX11_wayOf 34 = .ok (.iaload, 1) := by decide +kernel
theorem dX11_wayOf_35 : decode cX11_wayOf 35 = .ok (.goto 24, 3) := by decide +kernel
theorem dX11_wayOf_38 : decode cX11_wayOf 38 = .ok (.iload_n 1, 1) := by decide +kernel
theorem dX11_wayOf_39 : decode cX11_wayOf 39 = .ok (.bipush 10, 2) := by decide +kernel
theorem dX11_wayOf_41 : decode cX11_wayOf 41 = .ok (.isub, 1) := by decide +kernel
theorem dX11_wayOf_42 : decode cX11_wayOf 42 = .ok (.iload_n 2, 1) := by decide +kernel
theorem dX11_wayOf_43 : decode cX11_wayOf 43 = .ok (.if_icmp .ge 15, 3) := by decide +kernel
theorem dX11_wayOf_46 : decode cX11_wayOf 46 = .ok (.aload_n 0, 1) := by decide +kernel
theorem dX11_wayOf_47 : decode cX11_wayOf 47 = .ok (.getfield 40, 3) := by decide +kernel
theorem dX11_wayOf_50 : decode cX11_wayOf 50 = .ok (.iload_n 1, 1) := by decide +kernel
theorem dX11_wayOf_51 : decode cX11_wayOf 51 = .ok (.bipush 10, 2) := by decide +kernel
theorem dX11_wayOf_53 : decode cX11_wayOf 53 = .ok (.isub, 1) := by decide +kernel
theorem dX11_wayOf_54 : decode cX11_wayOf 54 = .ok (.iaload, 1) := by decide +kernel
theorem dX11_wayOf_55 : decode cX11_wayOf 55 = .ok (.goto 4, 3) := by decide +kernel
theorem dX11_wayOf_58 : decode cX11_wayOf 58 = .ok (.iconst (-1), 1) := by decide +kernel
theorem dX11_wayOf_59 : decode cX11_wayOf 59 = .ok (.ireturn, 1) := by decide +kernel
theorem dX11_wayOf_60 : decode cX11_wayOf 60 = .ok (.iinc 2 1, 3) := by decide +kernel
theorem dX11_wayOf_63 : decode cX11_wayOf 63 = .ok (.goto (-61), 3) := by decide +kernel
theorem dX11_wayOf_66 : decode cX11_wayOf 66 = .ok (.iconst (-1), 1) := by decide +kernel
theorem dX11_wayOf_67 : decode cX11_wayOf 67 = .ok (.ireturn, 1) := by decide +kernel
theorem dX11_way_0 : decode cX11_way 0 = .ok (.iload_n 1, 1) := by decide +kernel
theorem dX11_way_1 : decode cX11_way 1 = .ok (.i2l, 1) := by decide +kernel
theorem dX11_way_2 : decode cX11_way 2 = .ok (.lconst 0, 1) := by decide +kernel
theorem dX11_way_3 : decode cX11_way 3 = .ok (.lconst 1, 1) := by decide +kernel
theorem dX11_way_4 : decode cX11_way 4 = .ok (.invokestatic 73, 3) := by decide +kernel
theorem dX11_way_7 : decode cX11_way 7 = .ok (.ifCond .ne 20, 3) := by decide +kernel
theorem dX11_way_10 : decode cX11_way 10 = .ok (.iload_n 1, 1) := by decide +kernel
theorem dX11_way_11 : decode cX11_way 11 = .ok (.i2l, 1) := by decide +kernel
theorem dX11_way_12 : decode cX11_way 12 = .ok (.ldc2_w 158, 3) := by decide +kernel
theorem dX11_way_15 : decode cX11_way 15 = .ok (.ldc2_w 249, 3) := by decide +kernel
theorem dX11_way_18 : decode cX11_way 18 = .ok (.invokestatic 73, 3) := by decide +kernel
theorem dX11_way_21 : decode cX11_way 21 = .ok (.ifCond .ne 6, 3) := by decide +kernel
theorem dX11_way_24 : decode cX11_way 24 = .ok (.bipush (-102), 2) := by decide +kernel
theorem dX11_way_26 : decode cX11_way 26 = .ok (.ireturn, 1) := by decide +kernel
theorem dX11_way_27 : decode cX11_way 27 = .ok (.aload_n 0, 1) := by decide +kernel
theorem dX11_way_28 : decode cX11_way 28 = .ok (.invokevirtual 234, 3) := by decide +kernel
theorem dX11_way_31 : decode cX11_way 31 = .ok (.ifCond .ne 19, 3) := by decide +kernel
theorem dX11_way_34 : decode cX11_way 34 = .ok (.aload_n 0, 1) := by decide +kernel
theorem dX11_way_35 : decode cX11_way 35 = .ok (.invokevirtual 251, 3) := by decide +kernel
theorem dX11_way_38 : decode cX11_way 38 = .ok (.ifCond .eq 12, 3) := by decide +kernel
theorem dX11_way_41 : decode cX11_way 41 = .ok (.aload_n 0, 1) := by decide +kernel
theorem dX11_way_42 : decode cX11_way 42 = .ok (.getfield 254, 3) := by decide +kernel
theorem dX11_way_45 : decode cX11_way 45 = .ok (.bipush 16, 2) := by decide +kernel
theorem dX11_way_47 : decode cX11_way 47 = .ok (.if_icmp .ne 6, 3) := by decide +kernel
theorem dX11_way_50 : decode cX11_way 50 = .ok (.bipush (-103), 2) := by decide +kernel
theorem dX11_way_52 : decode cX11_way 52 = .ok (.ireturn, 1) := by decide +kernel
theorem dX11_way_53 : decode cX11_way 53 = .ok (.aload_n 0, 1) := by decide +kernel
theorem dX11_way_54 : decode cX11_way 54 = .ok (.dup, 1) := by decide +kernel
theorem dX11_way_55 : decode cX11_way 55 = .ok (.getfield 254, 3) := by decide +kernel
theorem dX11_way_58 : decode cX11_way 58 = .ok (.iconst 1, 1) := by decide +kernel
theorem dX11_way_59 : decode cX11_way 59 = .ok (.iadd, 1) := by decide +kernel
theorem dX11_way_60 : decode cX11_way 60 = .ok (.putfield 254, 3) := by decide +kernel
theorem dX11_way_63 : decode cX11_way 63 = .ok (.aload_n 0, 1) := by decide +kernel
theorem dX11_way_64 : decode cX11_way 64 = .ok (.iload_n 1, 1) := by decide +kernel
theorem dX11_way_65 : decode cX11_way 65 = .ok (.invokevirtual 257, 3) := by decide +kernel
theorem dX11_way_68 : decode cX11_way 68 = .ok (.ireturn, 1) := by decide +kernel
theorem dX11_meet_0 : decode cX11_meet 0 = .ok (.iconst 0, 1) := by decide +kernel
theorem dX11_meet_1 : decode cX11_meet 1 = .ok (.istore_n 2, 1) := by decide +kernel
theorem dX11_meet_2 : decode cX11_meet 2 = .ok (.iconst 0, 1) := by decide +kernel
theorem dX11_meet_3 : decode cX11_meet 3 = .ok (.istore_n 3, 1) := by decide +kernel
theorem dX11_meet_4 : decode cX11_meet 4 = .ok (.iload_n 3, 1) := by decide +kernel
theorem dX11_meet_5 : decode cX11_meet 5 = .ok (.aload_n 0, 1) := by decide +kernel
theorem dX11_meet_6 : decode cX11_meet 6 = .ok (.getfield 135, 3) := by decide +kernel
theorem dX11_meet_9 : decode cX11_meet 9 = .ok (.if_icmp .ge 26, 3) := by decide +kernel
theorem dX11_meet_12 : decode cX11_meet 12 = .ok (.bipush 12, 2) := by decide +kernel
theorem dX11_meet_14 : decode cX11_meet 14 = .ok (.iload_n 2, 1) := by decide +kernel
theorem dX11_meet_15 : decode cX11_meet 15 = .ok (.imul, 1) := by decide +kernel
theorem dX11_meet_16 : decode cX11_meet 16 = .ok (.aload_n 0, 1) := by decide +kernel
theorem dX11_meet_17 : decode cX11_meet 17 = .ok (.getfield 34, 3) := by decide +kernel
theorem dX11_meet_20 : decode cX11_meet 20 = .ok (.bipush 8, 2) := by decide +kernel
theorem dX11_meet_22 : decode cX11_meet 22 = .ok (.iload_n 1, 1) := by decide +kernel
theorem dX11_meet_23 : decode cX11_meet 23 = .ok (.imul, 1) := by decide +kernel
theorem dX11_meet_24 : decode cX11_meet 24 = .ok (.iload_n 3, 1) := by decide +kernel
theorem dX11_meet_25 : decode cX11_meet 25 = .ok (.iadd, 1) := by decide +kernel
theorem dX11_meet_26 : decode cX11_meet 26 = .ok (.iaload, 1) := by decide +kernel
theorem dX11_meet_27 : decode cX11_meet 27 = .ok (.iadd, 1) := by decide +kernel
theorem dX11_meet_28 : decode cX11_meet 28 = .ok (.istore_n 2, 1) := by decide +kernel
theorem dX11_meet_29 : decode cX11_meet 29 = .ok (.iinc 3 1, 3) := by decide +kernel
theorem dX11_meet_32 : decode cX11_meet 32 = .ok (.goto (-28), 3) := by decide +kernel
theorem dX11_meet_35 : decode cX11_meet 35 = .ok (.iconst 0, 1) := by decide +kernel
theorem dX11_meet_36 : decode cX11_meet 36 = .ok (.istore_n 3, 1) := by decide +kernel
theorem dX11_meet_37 : decode cX11_meet 37 = .ok (.iload_n 3, 1) := by decide +kernel
theorem dX11_meet_38 : decode cX11_meet 38 = .ok (.aload_n 0, 1) := by decide +kernel
theorem dX11_meet_39 : decode cX11_meet 39 = .ok (.getfield 260, 3) := by decide +kernel
theorem dX11_meet_42 : decode cX11_meet 42 = .ok (.if_icmp .ge 19, 3) := by decide +kernel
theorem dX11_meet_45 : decode cX11_meet 45 = .ok (.aload_n 0, 1) := by decide +kernel
theorem dX11_meet_46 : decode cX11_meet 46 = .ok (.getfield 43, 3) := by decide +kernel
theorem dX11_meet_49 : decode cX11_meet 49 = .ok (.iload_n 3, 1) := by decide +kernel
theorem dX11_meet_50 : decode cX11_meet 50 = .ok (.iaload, 1) := by decide +kernel
theorem dX11_meet_51 : decode cX11_meet 51 = .ok (.iload_n 2, 1) := by decide +kernel
theorem dX11_meet_52 : decode cX11_meet 52 = .ok (.if_icmp .eq 9, 3) := by decide +kernel
theorem dX11_meet_55 : decode cX11_meet 55 = .ok (.iinc 3 1, 3) := by decide +kernel
theorem dX11_meet_58 : decode cX11_meet 58 = .ok (.goto (-21), 3) := by decide +kernel
theorem dX11_meet_61 : decode cX11_meet 61 = .ok (.aload_n 0, 1) := by decide +kernel
theorem dX11_meet_62 : decode cX11_meet 62 = .ok (.getfield 43, 3) := by decide +kernel
theorem dX11_meet_65 : decode cX11_meet 65 = .ok (.iload_n 3, 1) := by decide +kernel
theorem dX11_meet_66 : decode cX11_meet 66 = .ok (.iload_n 2, 1) := by decide +kernel
theorem dX11_meet_67 : decode cX11_meet 67 = .ok (.iastore, 1) := by decide +kernel
theorem dX11_meet_68 : decode cX11_meet 68 = .ok (.aload_n 0, 1) := by decide +kernel
theorem dX11_meet_69 : decode cX11_meet 69 = .ok (.iload_n 3, 1) := by decide +kernel
theorem dX11_meet_70 : decode cX11_meet 70 = .ok (.aload_n 0, 1) := by decide +kernel
theorem dX11_meet_71 : decode cX11_meet 71 = .ok (.getfield 260, 3) := by decide +kernel
theorem dX11_meet_74 : decode cX11_meet 74 = .ok (.if_icmp .ne 9, 3) := by decide +kernel
theorem dX11_meet_77 : decode cX11_meet 77 = .ok (.iload_n 3, 1) := by decide +kernel
theorem dX11_meet_78 : decode cX11_meet 78 = .ok (.iconst 1, 1) := by decide +kernel
theorem dX11_meet_79 : decode cX11_meet 79 = .ok (.iadd, 1) := by decide +kernel
theorem dX11_meet_80 : decode cX11_meet 80 = .ok (.goto 7, 3) := by decide +kernel
theorem dX11_meet_83 : decode cX11_meet 83 = .ok (.aload_n 0, 1) := by decide +kernel
theorem dX11_meet_84 : decode cX11_meet 84 = .ok (.getfield 260, 3) := by decide +kernel
theorem dX11_meet_87 : decode cX11_meet 87 = .ok (.putfield 260, 3) := by decide +kernel
theorem dX11_meet_90 : decode cX11_meet 90 = .ok (.return_, 1) := by decide +kernel
theorem dX11_becomeOf_0 : decode cX11_becomeOf 0 = .ok (.aload_n 0, 1) := by decide +kernel
theorem dX11_becomeOf_1 : decode cX11_becomeOf 1 = .ok (.invokevirtual 237, 3) := by decide +kernel
theorem dX11_becomeOf_4 : decode cX11_becomeOf 4 = .ok (.aload_n 0, 1) := by decide +kernel
theorem dX11_becomeOf_5 : decode cX11_becomeOf 5 = .ok (.iconst 0, 1) := by decide +kernel
theorem dX11_becomeOf_6 : decode cX11_becomeOf 6 = .ok (.putfield 260, 3) := by decide +kernel
theorem dX11_becomeOf_9 : decode cX11_becomeOf 9 = .ok (.iconst 0, 1) := by decide +kernel
theorem dX11_becomeOf_10 : decode cX11_becomeOf 10 = .ok (.istore_n 2, 1) := by decide +kernel
theorem dX11_becomeOf_11 : decode cX11_becomeOf 11 = .ok (.aload_n 0, 1) := by decide +kernel
theorem dX11_becomeOf_12 : decode cX11_becomeOf 12 = .ok (.getfield 40, 3) := by decide +kernel
theorem dX11_becomeOf_15 : decode cX11_becomeOf 15 = .ok (.iconst 0, 1) := by decide +kernel
theorem dX11_becomeOf_16 : decode cX11_becomeOf 16 = .ok (.iconst (-1), 1) := by decide +kernel
theorem dX11_becomeOf_17 : decode cX11_becomeOf 17 = .ok (.iastore, 1) := by decide +kernel
theorem dX11_becomeOf_18 : decode cX11_becomeOf 18 = .ok (.iload_n 2, 1) := by decide +kernel
theorem dX11_becomeOf_19 : decode cX11_becomeOf 19 = .ok (.ifCond .lt 75, 3) := by decide +kernel
theorem dX11_becomeOf_22 : decode cX11_becomeOf 22 = .ok (.iload_n 2, 1) := by decide +kernel
theorem dX11_becomeOf_23 : decode cX11_becomeOf 23 = .ok (.iload_n 1, 1) := by decide +kernel
theorem dX11_becomeOf_24 : decode cX11_becomeOf 24 = .ok (.if_icmp .ne 14, 3) := by decide +kernel
theorem dX11_becomeOf_27 : decode cX11_becomeOf 27 = .ok (.aload_n 0, 1) := by decide +kernel
theorem dX11_becomeOf_28 : decode cX11_becomeOf 28 = .ok (.iload_n 2, 1) := by decide +kernel
theorem dX11_becomeOf_29 : decode cX11_becomeOf 29 = .ok (.invokevirtual 263, 3) := by decide +kernel
theorem dX11_becomeOf_32 : decode cX11_becomeOf 32 = .ok (.iinc 2 (-1), 3) := by decide +kernel
theorem dX11_becomeOf_35 : decode cX11_becomeOf 35 = .ok (.goto (-17), 3) := by decide +kernel
theorem dX11_becomeOf_38 : decode cX11_becomeOf 38 = .ok (.aload_n 0, 1) := by decide +kernel
theorem dX11_becomeOf_39 : decode cX11_becomeOf 39 = .ok (.getfield 40, 3) := by decide +kernel
theorem dX11_becomeOf_42 : decode cX11_becomeOf 42 = .ok (.iload_n 2, 1) := by decide +kernel
theorem dX11_becomeOf_43 : decode cX11_becomeOf 43 = .ok (.dup2, 1) := by decide +kernel
theorem dX11_becomeOf_44 : decode cX11_becomeOf 44 = .ok (.iaload, 1) := by decide +kernel
theorem dX11_becomeOf_45 : decode cX11_becomeOf 45 = .ok (.iconst 1, 1) := by decide +kernel
theorem dX11_becomeOf_46 : decode cX11_becomeOf 46 = .ok (.iadd, 1) := by decide +kernel
theorem dX11_becomeOf_47 : decode cX11_becomeOf 47 = .ok (.iastore, 1) := by decide +kernel
theorem dX11_becomeOf_48 : decode cX11_becomeOf 48 = .ok (.aload_n 0, 1) := by decide +kernel
theorem dX11_becomeOf_49 : decode cX11_becomeOf 49 = .ok (.getfield 40, 3) := by decide +kernel
theorem dX11_becomeOf_52 : decode cX11_becomeOf 52 = .ok (.iload_n 2, 1) := by decide +kernel
theorem dX11_becomeOf_53 : decode cX11_becomeOf 53 = .ok (.iaload, 1) := by decide +kernel
theorem dX11_becomeOf_54 : decode cX11_becomeOf 54 = .ok (.aload_n 0, 1) := by decide +kernel
theorem dX11_becomeOf_55 : decode cX11_becomeOf 55 = .ok (.getfield 108, 3) := by decide +kernel
theorem dX11_becomeOf_58 : decode cX11_becomeOf 58 = .ok (.if_icmp .ne 9, 3) := by decide +kernel
theorem dX11_becomeOf_61 : decode cX11_becomeOf 61 = .ok (.iinc 2 (-1), 3) := by decide +kernel
theorem dX11_becomeOf_64 : decode cX11_becomeOf 64 = .ok (.goto (-46), 3) := by decide +kernel
theorem dX11_becomeOf_67 : decode cX11_becomeOf 67 = .ok (.aload_n 0, 1) := by decide +kernel
theorem dX11_becomeOf_68 : decode cX11_becomeOf 68 = .ok (.iload_n 2, 1) := by decide +kernel
theorem dX11_becomeOf_69 : decode cX11_becomeOf 69 = .ok (.aload_n 0, 1) := by decide +kernel
theorem dX11_becomeOf_70 : decode cX11_becomeOf 70 = .ok (.getfield 40, 3) := by decide +kernel
theorem dX11_becomeOf_73 : decode cX11_becomeOf 73 = .ok (.iload_n 2, 1) := by decide +kernel
theorem dX11_becomeOf_74 : decode cX11_becomeOf 74 = .ok (.iaload, 1) := by decide +kernel
theorem dX11_becomeOf_75 : decode cX11_becomeOf 75 = .ok (.invokevirtual 243, 3) := by decide +kernel
theorem dX11_becomeOf_78 : decode cX11_becomeOf 78 = .ok (.ifCond .eq (-60), 3) := by decide +kernel
theorem dX11_becomeOf_81 : decode cX11_becomeOf 81 = .ok (.iinc 2 1, 3) := by decide +kernel
theorem dX11_becomeOf_84 : decode cX11_becomeOf 84 = .ok (.aload_n 0, 1) := by decide +kernel
theorem dX11_becomeOf_85 : decode cX11_becomeOf 85 = .ok (.getfield 40, 3) := by decide +kernel
theorem dX11_becomeOf_88 : decode cX11_becomeOf 88 = .ok (.iload_n 2, 1) := by decide +kernel
theorem dX11_becomeOf_89 : decode cX11_becomeOf 89 = .ok (.iconst (-1), 1) := by decide +kernel
theorem dX11_becomeOf_90 : decode cX11_becomeOf 90 = .ok (.iastore, 1) := by decide +kernel
theorem dX11_becomeOf_91 : decode cX11_becomeOf 91 = .ok (.goto (-73), 3) := by decide +kernel
theorem dX11_becomeOf_94 : decode cX11_becomeOf 94 = .ok (.aload_n 0, 1) := by decide +kernel
theorem dX11_becomeOf_95 : decode cX11_becomeOf 95 = .ok (.getfield 260, 3) := by decide +kernel
theorem dX11_becomeOf_98 : decode cX11_becomeOf 98 = .ok (.ireturn, 1) := by decide +kernel
theorem dX11_become_0 : decode cX11_become 0 = .ok (.iload_n 1, 1) := by decide +kernel
theorem dX11_become_1 : decode cX11_become 1 = .ok (.i2l, 1) := by decide +kernel
theorem dX11_become_2 : decode cX11_become 2 = .ok (.lconst 0, 1) := by decide +kernel
theorem dX11_become_3 : decode cX11_become 3 = .ok (.ldc2_w 267, 3) := by decide +kernel
theorem dX11_become_6 : decode cX11_become 6 = .ok (.invokestatic 73, 3) := by decide +kernel
theorem dX11_become_9 : decode cX11_become 9 = .ok (.ifCond .ne 6, 3) := by decide +kernel
theorem dX11_become_12 : decode cX11_become 12 = .ok (.bipush (-102), 2) := by decide +kernel
theorem dX11_become_14 : decode cX11_become 14 = .ok (.ireturn, 1) := by decide +kernel
theorem dX11_become_15 : decode cX11_become 15 = .ok (.aload_n 0, 1) := by decide +kernel
theorem dX11_become_16 : decode cX11_become 16 = .ok (.invokevirtual 234, 3) := by decide +kernel
theorem dX11_become_19 : decode cX11_become 19 = .ok (.ifCond .ne 10, 3) := by decide +kernel
theorem dX11_become_22 : decode cX11_become 22 = .ok (.aload_n 0, 1) := by decide +kernel
theorem dX11_become_23 : decode cX11_become 23 = .ok (.getfield 135, 3) := by decide +kernel
theorem dX11_become_26 : decode cX11_become 26 = .ok (.ifCond .ne 8, 3) := by decide +kernel
theorem dX11_become_29 : decode cX11_become 29 = .ok (.bipush (-103), 2) := by decide +kernel
theorem dX11_become_31 : decode cX11_become 31 = .ok (.goto 8, 3) := by decide +kernel
theorem dX11_become_34 : decode cX11_become 34 = .ok (.aload_n 0, 1) := by decide +kernel
theorem dX11_become_35 : decode cX11_become 35 = .ok (.iload_n 1, 1) := by decide +kernel
theorem dX11_become_36 : decode cX11_become 36 = .ok (.invokevirtual 269, 3) := by decide +kernel
theorem dX11_become_39 : decode cX11_become 39 = .ok (.ireturn, 1) := by decide +kernel
theorem dX11_apartOf_0 : decode cX11_apartOf 0 = .ok (.iload_n 1, 1) := by decide +kernel
theorem dX11_apartOf_1 : decode cX11_apartOf 1 = .ok (.iload_n 3, 1) := by decide +kernel
theorem dX11_apartOf_2 : decode cX11_apartOf 2 = .ok (.if_icmp .ge 7, 3) := by decide +kernel
theorem dX11_apartOf_5 : decode cX11_apartOf 5 = .ok (.iload_n 1, 1) := by decide +kernel
theorem dX11_apartOf_6 : decode cX11_apartOf 6 = .ok (.goto 4, 3) := by decide +kernel
theorem dX11_apartOf_9 : decode cX11_apartOf 9 = .ok (.iload_n 3, 1) := by decide +kernel
theorem dX11_apartOf_10 : decode cX11_apartOf 10 = .ok (.istore 4, 2) := by decide +kernel
theorem dX11_apartOf_12 : decode cX11_apartOf 12 = .ok (.iload_n 1, 1) := by decide +kernel
theorem dX11_apartOf_13 : decode cX11_apartOf 13 = .ok (.iload_n 3, 1) := by decide +kernel
theorem dX11_apartOf_14 : decode cX11_apartOf 14 = .ok (.iadd, 1) := by decide +kernel
theorem dX11_apartOf_15 : decode cX11_apartOf 15 = .ok (.iconst 2, 1) := by decide +kernel
theorem dX11_apartOf_16 : decode cX11_apartOf 16 = .ok (.iload 4, 2) := by decide +kernel
theorem dX11_apartOf_18 : decode cX11_apartOf 18 = .ok (.imul, 1) := by decide +kernel
theorem dX11_apartOf_19 : decode cX11_apartOf 19 = .ok (.isub, 1) := by decide +kernel
theorem dX11_apartOf_20 : decode cX11_apartOf 20 = .ok (.istore 5, 2) := by decide +kernel
theorem dX11_apartOf_22 : decode cX11_apartOf 22 = .ok (.iconst 0, 1) := by decide +kernel
theorem dX11_apartOf_23 : decode cX11_apartOf 23 = .ok (.istore 6, 2) := by decide +kernel
theorem dX11_apartOf_25 : decode cX11_apartOf 25 = .ok (.iload 6, 2) := by decide +kernel
theorem dX11_apartOf_27 : decode cX11_apartOf 27 = .ok (.iload 4, 2) := by decide +kernel
theorem dX11_apartOf_29 : decode cX11_apartOf 29 = .ok (.if_icmp .ge 30, 3) := by decide +kernel
theorem dX11_apartOf_32 : decode cX11_apartOf 32 = .ok (.iload 5, 2) := by decide +kernel
theorem dX11_apartOf_34 : decode cX11_apartOf 34 = .ok (.aload_n 0, 1) := by decide +kernel
theorem dX11_apartOf_35 : decode cX11_apartOf 35 = .ok (.iload 6, 2) := by decide +kernel
theorem dX11_apartOf_37 : decode cX11_apartOf 37 = .ok (.iaload, 1) := by decide +kernel
theorem dX11_apartOf_38 : decode cX11_apartOf 38 = .ok (.aload_n 2, 1) := by decide +kernel
theorem dX11_apartOf_39 : decode cX11_apartOf 39 = .ok (.iload 6, 2) := by decide +kernel
theorem dX11_apartOf_41 : decode cX11_apartOf 41 = .ok (.iaload, 1) := by decide +kernel
theorem dX11_apartOf_42 : decode cX11_apartOf 42 = .ok (.if_icmp .ne 7, 3) := by decide +kernel
theorem dX11_apartOf_45 : decode cX11_apartOf 45 = .ok (.iconst 0, 1) := by decide +kernel
theorem dX11_apartOf_46 : decode cX11_apartOf 46 = .ok (.goto 4, 3) := by decide +kernel
theorem dX11_apartOf_49 : decode cX11_apartOf 49 = .ok (.iconst 1, 1) := by decide +kernel
theorem dX11_apartOf_50 : decode cX11_apartOf 50 = .ok (.iadd, 1) := by decide +kernel
theorem dX11_apartOf_51 : decode cX11_apartOf 51 = .ok (.istore 5, 2) := by decide +kernel
theorem dX11_apartOf_53 : decode cX11_apartOf 53 = .ok (.iinc 6 1, 3) := by decide +kernel
theorem dX11_apartOf_56 : decode cX11_apartOf 56 = .ok (.goto (-31), 3) := by decide +kernel
theorem dX11_apartOf_59 : decode cX11_apartOf 59 = .ok (.iload 5, 2) := by decide +kernel
end
section
theorem dX11_apartOf_61 : decode cX11_apartOf 61 = .ok (.ireturn, 1) := by decide +kernel
theorem dX11_apart_0 : decode cX11_apart 0 = .ok (.aload_n 0, 1) := by decide +kernel
theorem dX11_apart_1 : decode cX11_apart 1 = .ok (.invokevirtual 251, 3) := by decide +kernel
theorem dX11_apart_4 : decode cX11_apart 4 = .ok (.ifCond .eq 25, 3) := by decide +kernel
theorem dX11_apart_7 : decode cX11_apart 7 = .ok (.aload_n 0, 1) := by decide +kernel
theorem dX11_apart_8 : decode cX11_apart 8 = .ok (.getfield 22, 3) := by decide +kernel
theorem dX11_apart_11 : decode cX11_apart 11 = .ok (.aload_n 0, 1) := by decide +kernel
theorem dX11_apart_12 : decode cX11_apart 12 = .ok (.getfield 135, 3) := by decide +kernel
theorem dX11_apart_15 : decode cX11_apart 15 = .ok (.aload_n 0, 1) := by decide +kernel
theorem dX11_apart_16 : decode cX11_apart 16 = .ok (.getfield 25, 3) := by decide +kernel
theorem dX11_apart_19 : decode cX11_apart 19 = .ok (.aload_n 0, 1) := by decide +kernel
theorem dX11_apart_20 : decode cX11_apart 20 = .ok (.getfield 138, 3) := by decide +kernel
theorem dX11_apart_23 : decode cX11_apart 23 = .ok (.invokestatic 272, 3) := by decide +kernel
theorem dX11_apart_26 : decode cX11_apart 26 = .ok (.goto 5, 3) := by decide +kernel
theorem dX11_apart_29 : decode cX11_apart 29 = .ok (.bipush (-103), 2) := by decide +kernel
theorem dX11_apart_31 : decode cX11_apart 31 = .ok (.ireturn, 1) := by decide +kernel
theorem dX11_nearOf_0 : decode cX11_nearOf 0 = .ok (.iconst (-1), 1) := by decide +kernel
theorem dX11_nearOf_1 : decode cX11_nearOf 1 = .ok (.istore_n 1, 1) := by decide +kernel
theorem dX11_nearOf_2 : decode cX11_nearOf 2 = .ok (.bipush 9, 2) := by decide +kernel
theorem dX11_nearOf_4 : decode cX11_nearOf 4 = .ok (.istore_n 2, 1) := by decide +kernel
theorem dX11_nearOf_5 : decode cX11_nearOf 5 = .ok (.iconst 0, 1) := by decide +kernel
theorem dX11_nearOf_6 : decode cX11_nearOf 6 = .ok (.istore_n 3, 1) := by decide +kernel
theorem dX11_nearOf_7 : decode cX11_nearOf 7 = .ok (.iload_n 3, 1) := by decide +kernel
theorem dX11_nearOf_8 : decode cX11_nearOf 8 = .ok (.aload_n 0, 1) := by decide +kernel
theorem dX11_nearOf_9 : decode cX11_nearOf 9 = .ok (.getfield 108, 3) := by decide +kernel
theorem dX11_nearOf_12 : decode cX11_nearOf 12 = .ok (.if_icmp .ge 107, 3) := by decide +kernel
theorem dX11_nearOf_15 : decode cX11_nearOf 15 = .ok (.aload_n 0, 1) := by decide +kernel
theorem dX11_nearOf_16 : decode cX11_nearOf 16 = .ok (.iload_n 3, 1) := by decide +kernel
theorem dX11_nearOf_17 : decode cX11_nearOf 17 = .ok (.aload_n 0, 1) := by decide +kernel
theorem dX11_nearOf_18 : decode cX11_nearOf 18 = .ok (.getfield 111, 3) := by decide +kernel
theorem dX11_nearOf_21 : decode cX11_nearOf 21 = .ok (.invokevirtual 224, 3) := by decide +kernel
theorem dX11_nearOf_24 : decode cX11_nearOf 24 = .ok (.ifCond .eq 89, 3) := by decide +kernel
theorem dX11_nearOf_27 : decode cX11_nearOf 27 = .ok (.aload_n 0, 1) := by decide +kernel
theorem dX11_nearOf_28 : decode cX11_nearOf 28 = .ok (.iload_n 3, 1) := by decide +kernel
theorem dX11_nearOf_29 : decode cX11_nearOf 29 = .ok (.aload_n 0, 1) := by decide +kernel
theorem dX11_nearOf_30 : decode cX11_nearOf 30 = .ok (.getfield 22, 3) := by decide +kernel
theorem dX11_nearOf_33 : decode cX11_nearOf 33 = .ok (.aload_n 0, 1) := by decide +kernel
theorem dX11_nearOf_34 : decode cX11_nearOf 34 = .ok (.getfield 135, 3) := by decide +kernel
theorem dX11_nearOf_37 : decode cX11_nearOf 37 = .ok (.invokevirtual 227, 3) := by decide +kernel
theorem dX11_nearOf_40 : decode cX11_nearOf 40 = .ok (.ifCond .eq 73, 3) := by decide +kernel
theorem dX11_nearOf_43 : decode cX11_nearOf 43 = .ok (.aload_n 0, 1) := by decide +kernel
theorem dX11_nearOf_44 : decode cX11_nearOf 44 = .ok (.getfield 22, 3) := by decide +kernel
theorem dX11_nearOf_47 : decode cX11_nearOf 47 = .ok (.aload_n 0, 1) := by decide +kernel
theorem dX11_nearOf_48 : decode cX11_nearOf 48 = .ok (.getfield 31, 3) := by decide +kernel
theorem dX11_nearOf_51 : decode cX11_nearOf 51 = .ok (.invokestatic 195, 3) := by decide +kernel
theorem dX11_nearOf_54 : decode cX11_nearOf 54 = .ok (.aload_n 0, 1) := by decide +kernel
theorem dX11_nearOf_55 : decode cX11_nearOf 55 = .ok (.iload_n 3, 1) := by decide +kernel
theorem dX11_nearOf_56 : decode cX11_nearOf 56 = .ok (.aload_n 0, 1) := by decide +kernel
theorem dX11_nearOf_57 : decode cX11_nearOf 57 = .ok (.getfield 31, 3) := by decide +kernel
theorem dX11_nearOf_60 : decode cX11_nearOf 60 = .ok (.aload_n 0, 1) := by decide +kernel
theorem dX11_nearOf_61 : decode cX11_nearOf 61 = .ok (.getfield 135, 3) := by decide +kernel
theorem dX11_nearOf_64 : decode cX11_nearOf 64 = .ok (.invokevirtual 199, 3) := by decide +kernel
theorem dX11_nearOf_67 : decode cX11_nearOf 67 = .ok (.aload_n 0, 1) := by decide +kernel
theorem dX11_nearOf_68 : decode cX11_nearOf 68 = .ok (.getfield 31, 3) := by decide +kernel
theorem dX11_nearOf_71 : decode cX11_nearOf 71 = .ok (.aload_n 0, 1) := by decide +kernel
theorem dX11_nearOf_72 : decode cX11_nearOf 72 = .ok (.getfield 135, 3) := by decide +kernel
theorem dX11_nearOf_75 : decode cX11_nearOf 75 = .ok (.aload_n 0, 1) := by decide +kernel
theorem dX11_nearOf_76 : decode cX11_nearOf 76 = .ok (.getfield 25, 3) := by decide +kernel
theorem dX11_nearOf_79 : decode cX11_nearOf 79 = .ok (.aload_n 0, 1) := by decide +kernel
theorem dX11_nearOf_80 : decode cX11_nearOf 80 = .ok (.getfield 138, 3) := by decide +kernel
theorem dX11_nearOf_83 : decode cX11_nearOf 83 = .ok (.invokestatic 272, 3) := by decide +kernel
theorem dX11_nearOf_86 : decode cX11_nearOf 86 = .ok (.istore 4, 2) := by decide +kernel
theorem dX11_nearOf_88 : decode cX11_nearOf 88 = .ok (.iload 4, 2) := by decide +kernel
theorem dX11_nearOf_90 : decode cX11_nearOf 90 = .ok (.iload_n 2, 1) := by decide +kernel
theorem dX11_nearOf_91 : decode cX11_nearOf 91 = .ok (.if_icmp .ge 7, 3) := by decide +kernel
theorem dX11_nearOf_94 : decode cX11_nearOf 94 = .ok (.iload_n 3, 1) := by decide +kernel
theorem dX11_nearOf_95 : decode cX11_nearOf 95 = .ok (.goto 4, 3) := by decide +kernel
theorem dX11_nearOf_98 : decode cX11_nearOf 98 = .ok (.iload_n 1, 1) := by decide +kernel
theorem dX11_nearOf_99 : decode cX11_nearOf 99 = .ok (.istore_n 1, 1) := by decide +kernel
theorem dX11_nearOf_100 : decode cX11_nearOf 100 = .ok (.iload 4, 2) := by decide +kernel
theorem dX11_nearOf_102 : decode cX11_nearOf 102 = .ok (.iload_n 2, 1) := by decide +kernel
theorem dX11_nearOf_103 : decode cX11_nearOf 103 = .ok (.if_icmp .ge 8, 3) := by decide +kernel
theorem dX11_nearOf_106 : decode cX11_nearOf 106 = .ok (.iload 4, 2) := by decide +kernel
theorem dX11_nearOf_108 : decode cX11_nearOf 108 = .ok (.goto 4, 3) := by decide +kernel
theorem dX11_nearOf_111 : decode cX11_nearOf 111 = .ok (.iload_n 2, 1) := by decide +kernel
theorem dX11_nearOf_112 : decode cX11_nearOf 112 = .ok (.istore_n 2, 1) := by decide +kernel
theorem dX11_nearOf_113 : decode cX11_nearOf 113 = .ok (.iinc 3 1, 3) := by decide +kernel
theorem dX11_nearOf_116 : decode cX11_nearOf 116 = .ok (.goto (-109), 3) := by decide +kernel
theorem dX11_nearOf_119 : decode cX11_nearOf 119 = .ok (.iload_n 1, 1) := by decide +kernel
theorem dX11_nearOf_120 : decode cX11_nearOf 120 = .ok (.ireturn, 1) := by decide +kernel
theorem dX11_near_0 : decode cX11_near 0 = .ok (.aload_n 0, 1) := by decide +kernel
theorem dX11_near_1 : decode cX11_near 1 = .ok (.invokevirtual 234, 3) := by decide +kernel
theorem dX11_near_4 : decode cX11_near 4 = .ok (.ifCond .ne 10, 3) := by decide +kernel
theorem dX11_near_7 : decode cX11_near 7 = .ok (.aload_n 0, 1) := by decide +kernel
theorem dX11_near_8 : decode cX11_near 8 = .ok (.invokevirtual 251, 3) := by decide +kernel
theorem dX11_near_11 : decode cX11_near 11 = .ok (.ifCond .ne 8, 3) := by decide +kernel
theorem dX11_near_14 : decode cX11_near 14 = .ok (.bipush (-103), 2) := by decide +kernel
theorem dX11_near_16 : decode cX11_near 16 = .ok (.goto 7, 3) := by decide +kernel
theorem dX11_near_19 : decode cX11_near 19 = .ok (.aload_n 0, 1) := by decide +kernel
theorem dX11_near_20 : decode cX11_near 20 = .ok (.invokevirtual 276, 3) := by decide +kernel
theorem dX11_near_23 : decode cX11_near 23 = .ok (.ireturn, 1) := by decide +kernel
theorem dX11_see_0 : decode cX11_see 0 = .ok (.aload_n 0, 1) := by decide +kernel
theorem dX11_see_1 : decode cX11_see 1 = .ok (.iload_n 1, 1) := by decide +kernel
theorem dX11_see_2 : decode cX11_see 2 = .ok (.invokevirtual 185, 3) := by decide +kernel
theorem dX11_see_5 : decode cX11_see 5 = .ok (.ifCond .ne 6, 3) := by decide +kernel
theorem dX11_see_8 : decode cX11_see 8 = .ok (.bipush (-101), 2) := by decide +kernel
theorem dX11_see_10 : decode cX11_see 10 = .ok (.ireturn, 1) := by decide +kernel
theorem dX11_see_11 : decode cX11_see 11 = .ok (.iload_n 2, 1) := by decide +kernel
theorem dX11_see_12 : decode cX11_see 12 = .ok (.invokestatic 188, 3) := by decide +kernel
theorem dX11_see_15 : decode cX11_see 15 = .ok (.ifCond .eq 10, 3) := by decide +kernel
theorem dX11_see_18 : decode cX11_see 18 = .ok (.iload_n 3, 1) := by decide +kernel
theorem dX11_see_19 : decode cX11_see 19 = .ok (.invokestatic 188, 3) := by decide +kernel
theorem dX11_see_22 : decode cX11_see 22 = .ok (.ifCond .ne 6, 3) := by decide +kernel
theorem dX11_see_25 : decode cX11_see 25 = .ok (.bipush (-102), 2) := by decide +kernel
theorem dX11_see_27 : decode cX11_see 27 = .ok (.ireturn, 1) := by decide +kernel
theorem dX11_see_28 : decode cX11_see 28 = .ok (.aload_n 0, 1) := by decide +kernel
theorem dX11_see_29 : decode cX11_see 29 = .ok (.getfield 121, 3) := by decide +kernel
theorem dX11_see_32 : decode cX11_see 32 = .ok (.bipush 6, 2) := by decide +kernel
theorem dX11_see_34 : decode cX11_see 34 = .ok (.if_icmp .ne 6, 3) := by decide +kernel
theorem dX11_see_37 : decode cX11_see 37 = .ok (.bipush (-104), 2) := by decide +kernel
theorem dX11_see_39 : decode cX11_see 39 = .ok (.ireturn, 1) := by decide +kernel
theorem dX11_see_40 : decode cX11_see 40 = .ok (.aload_n 0, 1) := by decide +kernel
theorem dX11_see_41 : decode cX11_see 41 = .ok (.getfield 46, 3) := by decide +kernel
theorem dX11_see_44 : decode cX11_see 44 = .ok (.iconst 3, 1) := by decide +kernel
theorem dX11_see_45 : decode cX11_see 45 = .ok (.aload_n 0, 1) := by decide +kernel
theorem dX11_see_46 : decode cX11_see 46 = .ok (.getfield 121, 3) := by decide +kernel
theorem dX11_see_49 : decode cX11_see 49 = .ok (.imul, 1) := by decide +kernel
theorem dX11_see_50 : decode cX11_see 50 = .ok (.iload_n 1, 1) := by decide +kernel
theorem dX11_see_51 : decode cX11_see 51 = .ok (.iastore, 1) := by decide +kernel
theorem dX11_see_52 : decode cX11_see 52 = .ok (.aload_n 0, 1) := by decide +kernel
theorem dX11_see_53 : decode cX11_see 53 = .ok (.getfield 46, 3) := by decide +kernel
theorem dX11_see_56 : decode cX11_see 56 = .ok (.iconst 3, 1) := by decide +kernel
theorem dX11_see_57 : decode cX11_see 57 = .ok (.aload_n 0, 1) := by decide +kernel
theorem dX11_see_58 : decode cX11_see 58 = .ok (.getfield 121, 3) := by decide +kernel
theorem dX11_see_61 : decode cX11_see 61 = .ok (.imul, 1) := by decide +kernel
theorem dX11_see_62 : decode cX11_see 62 = .ok (.iconst 1, 1) := by decide +kernel
theorem dX11_see_63 : decode cX11_see 63 = .ok (.iadd, 1) := by decide +kernel
theorem dX11_see_64 : decode cX11_see 64 = .ok (.iload_n 2, 1) := by decide +kernel
theorem dX11_see_65 : decode cX11_see 65 = .ok (.iastore, 1) := by decide +kernel
theorem dX11_see_66 : decode cX11_see 66 = .ok (.aload_n 0, 1) := by decide +kernel
theorem dX11_see_67 : decode cX11_see 67 = .ok (.getfield 46, 3) := by decide +kernel
theorem dX11_see_70 : decode cX11_see 70 = .ok (.iconst 3, 1) := by decide +kernel
theorem dX11_see_71 : decode cX11_see 71 = .ok (.aload_n 0, 1) := by decide +kernel
theorem dX11_see_72 : decode cX11_see 72 = .ok (.getfield 121, 3) := by decide +kernel
theorem dX11_see_75 : decode cX11_see 75 = .ok (.imul, 1) := by decide +kernel
theorem dX11_see_76 : decode cX11_see 76 = .ok (.iconst 2, 1) := by decide +kernel
theorem dX11_see_77 : decode cX11_see 77 = .ok (.iadd, 1) := by decide +kernel
theorem dX11_see_78 : decode cX11_see 78 = .ok (.iload_n 3, 1) := by decide +kernel
theorem dX11_see_79 : decode cX11_see 79 = .ok (.iastore, 1) := by decide +kernel
theorem dX11_see_80 : decode cX11_see 80 = .ok (.aload_n 0, 1) := by decide +kernel
theorem dX11_see_81 : decode cX11_see 81 = .ok (.dup, 1) := by decide +kernel
theorem dX11_see_82 : decode cX11_see 82 = .ok (.getfield 121, 3) := by decide +kernel
theorem dX11_see_85 : decode cX11_see 85 = .ok (.iconst 1, 1) := by decide +kernel
theorem dX11_see_86 : decode cX11_see 86 = .ok (.iadd, 1) := by decide +kernel
theorem dX11_see_87 : decode cX11_see 87 = .ok (.putfield 121, 3) := by decide +kernel
theorem dX11_see_90 : decode cX11_see 90 = .ok (.aload_n 0, 1) := by decide +kernel
theorem dX11_see_91 : decode cX11_see 91 = .ok (.getfield 121, 3) := by decide +kernel
theorem dX11_see_94 : decode cX11_see 94 = .ok (.ireturn, 1) := by decide +kernel
theorem dX11_forget_0 : decode cX11_forget 0 = .ok (.aload_n 0, 1) := by decide +kernel
theorem dX11_forget_1 : decode cX11_forget 1 = .ok (.getfield 121, 3) := by decide +kernel
theorem dX11_forget_4 : decode cX11_forget 4 = .ok (.istore_n 1, 1) := by decide +kernel
theorem dX11_forget_5 : decode cX11_forget 5 = .ok (.aload_n 0, 1) := by decide +kernel
theorem dX11_forget_6 : decode cX11_forget 6 = .ok (.iconst 0, 1) := by decide +kernel
theorem dX11_forget_7 : decode cX11_forget 7 = .ok (.putfield 121, 3) := by decide +kernel
theorem dX11_forget_10 : decode cX11_forget 10 = .ok (.iload_n 1, 1) := by decide +kernel
theorem dX11_forget_11 : decode cX11_forget 11 = .ok (.ireturn, 1) := by decide +kernel
theorem dX11_tonicsOf_0 : decode cX11_tonicsOf 0 = .ok (.iconst 0, 1) := by decide +kernel
theorem dX11_tonicsOf_1 : decode cX11_tonicsOf 1 = .ok (.istore_n 2, 1) := by decide +kernel
theorem dX11_tonicsOf_2 : decode cX11_tonicsOf 2 = .ok (.iconst 0, 1) := by decide +kernel
theorem dX11_tonicsOf_3 : decode cX11_tonicsOf 3 = .ok (.istore_n 3, 1) := by decide +kernel
theorem dX11_tonicsOf_4 : decode cX11_tonicsOf 4 = .ok (.iload_n 3, 1) := by decide +kernel
theorem dX11_tonicsOf_5 : decode cX11_tonicsOf 5 = .ok (.bipush 12, 2) := by decide +kernel
theorem dX11_tonicsOf_7 : decode cX11_tonicsOf 7 = .ok (.if_icmp .ge 104, 3) := by decide +kernel
theorem dX11_tonicsOf_10 : decode cX11_tonicsOf 10 = .ok (.iconst 1, 1) := by decide +kernel
theorem dX11_tonicsOf_11 : decode cX11_tonicsOf 11 = .ok (.istore 4, 2) := by decide +kernel
theorem dX11_tonicsOf_13 : decode cX11_tonicsOf 13 = .ok (.iconst 0, 1) := by decide +kernel
theorem dX11_tonicsOf_14 : decode cX11_tonicsOf 14 = .ok (.istore 5, 2) := by decide +kernel
theorem dX11_tonicsOf_16 : decode cX11_tonicsOf 16 = .ok (.iload 5, 2) := by decide +kernel
theorem dX11_tonicsOf_18 : decode cX11_tonicsOf 18 = .ok (.iconst 3, 1) := by decide +kernel
theorem dX11_tonicsOf_19 : decode cX11_tonicsOf 19 = .ok (.aload_n 0, 1) := by decide +kernel
theorem dX11_tonicsOf_20 : decode cX11_tonicsOf 20 = .ok (.getfield 121, 3) := by decide +kernel
theorem dX11_tonicsOf_23 : decode cX11_tonicsOf 23 = .ok (.imul, 1) := by decide +kernel
theorem dX11_tonicsOf_24 : decode cX11_tonicsOf 24 = .ok (.if_icmp .ge 66, 3) := by decide +kernel
theorem dX11_tonicsOf_27 : decode cX11_tonicsOf 27 = .ok (.aload_n 0, 1) := by decide +kernel
theorem dX11_tonicsOf_28 : decode cX11_tonicsOf 28 = .ok (.getfield 46, 3) := by decide +kernel
theorem dX11_tonicsOf_31 : decode cX11_tonicsOf 31 = .ok (.iload 5, 2) := by decide +kernel
theorem dX11_tonicsOf_33 : decode cX11_tonicsOf 33 = .ok (.iaload, 1) := by decide +kernel
theorem dX11_tonicsOf_34 : decode cX11_tonicsOf 34 = .ok (.iload_n 1, 1) := by decide +kernel
theorem dX11_tonicsOf_35 : decode cX11_tonicsOf 35 = .ok (.if_icmp .ne 49, 3) := by decide +kernel
theorem dX11_tonicsOf_38 : decode cX11_tonicsOf 38 = .ok (.iload 4, 2) := by decide +kernel
theorem dX11_tonicsOf_40 : decode cX11_tonicsOf 40 = .ok (.ifCond .eq 41, 3) := by decide +kernel
theorem dX11_tonicsOf_43 : decode cX11_tonicsOf 43 = .ok (.aload_n 0, 1) := by decide +kernel
theorem dX11_tonicsOf_44 : decode cX11_tonicsOf 44 = .ok (.aload_n 0, 1) := by decide +kernel
theorem dX11_tonicsOf_45 : decode cX11_tonicsOf 45 = .ok (.getfield 13, 3) := by decide +kernel
theorem dX11_tonicsOf_48 : decode cX11_tonicsOf 48 = .ok (.iconst 3, 1) := by decide +kernel
theorem dX11_tonicsOf_49 : decode cX11_tonicsOf 49 = .ok (.iload_n 1, 1) := by decide +kernel
theorem dX11_tonicsOf_50 : decode cX11_tonicsOf 50 = .ok (.imul, 1) := by decide +kernel
theorem dX11_tonicsOf_51 : decode cX11_tonicsOf 51 = .ok (.iaload, 1) := by decide +kernel
theorem dX11_tonicsOf_52 : decode cX11_tonicsOf 52 = .ok (.iload_n 3, 1) := by decide +kernel
theorem dX11_tonicsOf_53 : decode cX11_tonicsOf 53 = .ok (.aload_n 0, 1) := by decide +kernel
theorem dX11_tonicsOf_54 : decode cX11_tonicsOf 54 = .ok (.getfield 46, 3) := by decide +kernel
theorem dX11_tonicsOf_57 : decode cX11_tonicsOf 57 = .ok (.iload 5, 2) := by decide +kernel
theorem dX11_tonicsOf_59 : decode cX11_tonicsOf 59 = .ok (.iconst 1, 1) := by decide +kernel
theorem dX11_tonicsOf_60 : decode cX11_tonicsOf 60 = .ok (.iadd, 1) := by decide +kernel
theorem dX11_tonicsOf_61 : decode cX11_tonicsOf 61 = .ok (.iaload, 1) := by decide +kernel
theorem dX11_tonicsOf_62 : decode cX11_tonicsOf 62 = .ok (.invokevirtual 191, 3) := by decide +kernel
theorem dX11_tonicsOf_65 : decode cX11_tonicsOf 65 = .ok (.aload_n 0, 1) := by decide +kernel
theorem dX11_tonicsOf_66 : decode cX11_tonicsOf 66 = .ok (.getfield 46, 3) := by decide +kernel
theorem dX11_tonicsOf_69 : decode cX11_tonicsOf 69 = .ok (.iload 5, 2) := by decide +kernel
theorem dX11_tonicsOf_71 : decode cX11_tonicsOf 71 = .ok (.iconst 2, 1) := by decide +kernel
theorem dX11_tonicsOf_72 : decode cX11_tonicsOf 72 = .ok (.iadd, 1) := by decide +kernel
theorem dX11_tonicsOf_73 : decode cX11_tonicsOf 73 = .ok (.iaload, 1) := by decide +kernel
theorem dX11_tonicsOf_74 : decode cX11_tonicsOf 74 = .ok (.if_icmp .ne 7, 3) := by decide +kernel
theorem dX11_tonicsOf_77 : decode cX11_tonicsOf 77 = .ok (.iconst 1, 1) := by decide +kernel
theorem dX11_tonicsOf_78 : decode cX11_tonicsOf 78 = .ok (.goto 4, 3) := by decide +kernel
theorem dX11_tonicsOf_81 : decode cX11_tonicsOf 81 = .ok (.iconst 0, 1) := by decide +kernel
theorem dX11_tonicsOf_82 : decode cX11_tonicsOf 82 = .ok (.istore 4, 2) := by decide +kernel
theorem dX11_tonicsOf_84 : decode cX11_tonicsOf 84 = .ok (.iinc 5 3, 3) := by decide +kernel
theorem dX11_tonicsOf_87 : decode cX11_tonicsOf 87 = .ok (.goto (-71), 3) := by decide +kernel
theorem dX11_tonicsOf_90 : decode cX11_tonicsOf 90 = .ok (.iload_n 2, 1) := by decide +kernel
theorem dX11_tonicsOf_91 : decode cX11_tonicsOf 91 = .ok (.iload 4, 2) := by decide +kernel
theorem dX11_tonicsOf_93 : decode cX11_tonicsOf 93 = .ok (.ifCond .eq 9, 3) := by decide +kernel
theorem dX11_tonicsOf_96 : decode cX11_tonicsOf 96 = .ok (.iconst 1, 1) := by decide +kernel
theorem dX11_tonicsOf_97 : decode cX11_tonicsOf 97 = .ok (.iload_n 3, 1) := by decide +kernel
theorem dX11_tonicsOf_98 : decode cX11_tonicsOf 98 = .ok (.ishl, 1) := by decide +kernel
theorem dX11_tonicsOf_99 : decode cX11_tonicsOf 99 = .ok (.goto 4, 3) := by decide +kernel
theorem dX11_tonicsOf_102 : decode cX11_tonicsOf 102 = .ok (.iconst 0, 1) := by decide +kernel
theorem dX11_tonicsOf_103 : decode cX11_tonicsOf 103 = .ok (.ior, 1) := by decide +kernel
theorem dX11_tonicsOf_104 : decode cX11_tonicsOf 104 = .ok (.istore_n 2, 1) := by decide +kernel
theorem dX11_tonicsOf_105 : decode cX11_tonicsOf 105 = .ok (.iinc 3 1, 3) := by decide +kernel
theorem dX11_tonicsOf_108 : decode cX11_tonicsOf 108 = .ok (.goto (-104), 3) := by decide +kernel
theorem dX11_tonicsOf_111 : decode cX11_tonicsOf 111 = .ok (.iload_n 2, 1) := by decide +kernel
theorem dX11_tonicsOf_112 : decode cX11_tonicsOf 112 = .ok (.ireturn, 1) := by decide +kernel
theorem dX11_askOf_0 : decode cX11_askOf 0 = .ok (.aload_n 0, 1) := by decide +kernel
theorem dX11_askOf_1 : decode cX11_askOf 1 = .ok (.iload_n 1, 1) := by decide +kernel
theorem dX11_askOf_2 : decode cX11_askOf 2 = .ok (.invokevirtual 213, 3) := by decide +kernel
theorem dX11_askOf_5 : decode cX11_askOf 5 = .ok (.istore_n 2, 1) := by decide +kernel
theorem dX11_askOf_6 : decode cX11_askOf 6 = .ok (.iconst (-1), 1) := by decide +kernel
theorem dX11_askOf_7 : decode cX11_askOf 7 = .ok (.istore_n 3, 1) := by decide +kernel
theorem dX11_askOf_8 : decode cX11_askOf 8 = .ok (.bipush 13, 2) := by decide +kernel
theorem dX11_askOf_10 : decode cX11_askOf 10 = .ok (.istore 4, 2) := by decide +kernel
theorem dX11_askOf_12 : decode cX11_askOf 12 = .ok (.iconst 0, 1) := by decide +kernel
theorem dX11_askOf_13 : decode cX11_askOf 13 = .ok (.istore 5, 2) := by decide +kernel
theorem dX11_askOf_15 : decode cX11_askOf 15 = .ok (.iload 5, 2) := by decide +kernel
theorem dX11_askOf_17 : decode cX11_askOf 17 = .ok (.bipush 12, 2) := by decide +kernel
theorem dX11_askOf_19 : decode cX11_askOf 19 = .ok (.if_icmp .ge 146, 3) := by decide +kernel
theorem dX11_askOf_22 : decode cX11_askOf 22 = .ok (.iload_n 2, 1) := by decide +kernel
theorem dX11_askOf_23 : decode cX11_askOf 23 = .ok (.ifCond .eq 142, 3) := by decide +kernel
theorem dX11_askOf_26 : decode cX11_askOf 26 = .ok (.iconst 0, 1) := by decide +kernel
theorem dX11_askOf_27 : decode cX11_askOf 27 = .ok (.istore 6, 2) := by decide +kernel
theorem dX11_askOf_29 : decode cX11_askOf 29 = .ok (.iload 6, 2) := by decide +kernel
theorem dX11_askOf_31 : decode cX11_askOf 31 = .ok (.bipush 12, 2) := by decide +kernel
theorem dX11_askOf_33 : decode cX11_askOf 33 = .ok (.if_icmp .ge 17, 3) := by decide +kernel
theorem dX11_askOf_36 : decode cX11_askOf 36 = .ok (.aload_n 0, 1) := by decide +kernel
theorem dX11_askOf_37 : decode cX11_askOf 37 = .ok (.getfield 49, 3) := by decide +kernel
theorem dX11_askOf_40 : decode cX11_askOf 40 = .ok (.iload 6, 2) := by decide +kernel
theorem dX11_askOf_42 : decode cX11_askOf 42 = .ok (.iconst 0, 1) := by decide +kernel
theorem dX11_askOf_43 : decode cX11_askOf 43 = .ok (.iastore, 1) := by decide +kernel
theorem dX11_askOf_44 : decode cX11_askOf 44 = .ok (.iinc 6 1, 3) := by decide +kernel
theorem dX11_askOf_47 : decode cX11_askOf 47 = .ok (.goto (-18), 3) := by decide +kernel
theorem dX11_askOf_50 : decode cX11_askOf 50 = .ok (.iconst 0, 1) := by decide +kernel
theorem dX11_askOf_51 : decode cX11_askOf 51 = .ok (.istore 6, 2) := by decide +kernel
theorem dX11_askOf_53 : decode cX11_askOf 53 = .ok (.iconst 0, 1) := by decide +kernel
theorem dX11_askOf_54 : decode cX11_askOf 54 = .ok (.istore 7, 2) := by decide +kernel
theorem dX11_askOf_56 : decode cX11_askOf 56 = .ok (.iload 7, 2) := by decide +kernel
theorem dX11_askOf_58 : decode cX11_askOf 58 = .ok (.bipush 12, 2) := by decide +kernel
theorem dX11_askOf_60 : decode cX11_askOf 60 = .ok (.if_icmp .ge 69, 3) := by decide +kernel
theorem dX11_askOf_63 : decode cX11_askOf 63 = .ok (.aload_n 0, 1) := by decide +kernel
theorem dX11_askOf_64 : decode cX11_askOf 64 = .ok (.aload_n 0, 1) := by decide +kernel
theorem dX11_askOf_65 : decode cX11_askOf 65 = .ok (.getfield 13, 3) := by decide +kernel
theorem dX11_askOf_68 : decode cX11_askOf 68 = .ok (.iconst 3, 1) := by decide +kernel
theorem dX11_askOf_69 : decode cX11_askOf 69 = .ok (.iload_n 1, 1) := by decide +kernel
theorem dX11_askOf_70 : decode cX11_askOf 70 = .ok (.imul, 1) := by decide +kernel
theorem dX11_askOf_71 : decode cX11_askOf 71 = .ok (.iaload, 1) := by decide +kernel
theorem dX11_askOf_72 : decode cX11_askOf 72 = .ok (.iload 7, 2) := by decide +kernel
theorem dX11_askOf_74 : decode cX11_askOf 74 = .ok (.iload 5, 2) := by decide +kernel
theorem dX11_askOf_76 : decode cX11_askOf 76 = .ok (.invokevirtual 191, 3) := by decide +kernel
theorem dX11_askOf_79 : decode cX11_askOf 79 = .ok (.istore 8, 2) := by decide +kernel
theorem dX11_askOf_81 : decode cX11_askOf 81 = .ok (.aload_n 0, 1) := by decide +kernel
theorem dX11_askOf_82 : decode cX11_askOf 82 = .ok (.getfield 49, 3) := by decide +kernel
theorem dX11_askOf_85 : decode cX11_askOf 85 = .ok (.iload 8, 2) := by decide +kernel
theorem dX11_askOf_87 : decode cX11_askOf 87 = .ok (.dup2, 1) := by decide +kernel
theorem dX11_askOf_88 : decode cX11_askOf 88 = .ok (.iaload, 1) := by decide +kernel
theorem dX11_askOf_89 : decode cX11_askOf 89 = .ok (.iload_n 2, 1) := by decide +kernel
theorem dX11_askOf_90 : decode cX11_askOf 90 = .ok (.iload 7, 2) := by decide +kernel
theorem dX11_askOf_92 : decode cX11_askOf 92 = .ok (.ishr, 1) := by decide +kernel
theorem dX11_askOf_93 : decode cX11_askOf 93 = .ok (.iconst 1, 1) := by decide +kernel
theorem dX11_askOf_94 : decode cX11_askOf 94 = .ok (.iand, 1) := by decide +kernel
theorem dX11_askOf_95 : decode cX11_askOf 95 = .ok (.iadd, 1) := by decide +kernel
theorem dX11_askOf_96 : decode cX11_askOf 96 = .ok (.iastore, 1) := by decide +kernel
theorem dX11_askOf_97 : decode cX11_askOf 97 = .ok (.aload_n 0, 1) := by decide +kernel
theorem dX11_askOf_98 : decode cX11_askOf 98 = .ok (.getfield 49, 3) := by decide +kernel
theorem dX11_askOf_101 : decode cX11_askOf 101 = .ok (.iload 8, 2) := by decide +kernel
theorem dX11_askOf_103 : decode cX11_askOf 103 = .ok (.iaload, 1) := by decide +kernel
theorem dX11_askOf_104 : decode cX11_askOf 104 = .ok (.iload 6, 2) := by decide +kernel
theorem dX11_askOf_106 : decode cX11_askOf 106 = .ok (.if_icmp .le 13, 3) := by decide +kernel
theorem dX11_askOf_109 : decode cX11_askOf 109 = .ok (.aload_n 0, 1) := by decide +kernel
theorem dX11_askOf_110 : decode cX11_askOf 110 = .ok (.getfield 49, 3) := by decide +kernel
theorem dX11_askOf_113 : decode cX11_askOf 113 = .ok (.iload 8, 2) := by decide +kernel
theorem dX11_askOf_115 : decode cX11_askOf 115 = .ok (.iaload, 1) := by decide +kernel
theorem dX11_askOf_116 : decode cX11_askOf 116 = .ok (.goto 5, 3) := by decide +kernel
theorem dX11_askOf_119 : decode cX11_askOf 119 = .ok (.iload 6, 2) := by decide +kernel
theorem dX11_askOf_121 : decode cX11_askOf 121 = .ok (.istore 6, 2) := by decide +kernel
theorem dX11_askOf_123 : decode cX11_askOf 123 = .ok (.iinc 7 1, 3) := by decide +kernel
theorem dX11_askOf_126 : decode cX11_askOf 126 = .ok (.goto (-70), 3) := by decide +kernel
theorem dX11_askOf_129 : decode cX11_askOf 129 = .ok (.iload 6, 2) := by decide +kernel
theorem dX11_askOf_131 : decode cX11_askOf 131 = .ok (.iload 4, 2) := by decide +kernel
theorem dX11_askOf_133 : decode cX11_askOf 133 = .ok (.if_icmp .ge 8, 3) := by decide +kernel
theorem dX11_askOf_136 : decode cX11_askOf 136 = .ok (.iload 5, 2) := by decide +kernel
theorem dX11_askOf_138 : decode cX11_askOf 138 = .ok (.goto 4, 3) := by decide +kernel
theorem dX11_askOf_141 : decode cX11_askOf 141 = .ok (.iload_n 3, 1) := by decide +kernel
theorem dX11_askOf_142 : decode cX11_askOf 142 = .ok (.istore_n 3, 1) := by decide +kernel
theorem dX11_askOf_143 : decode cX11_askOf 143 = .ok (.iload 6, 2) := by decide +kernel
theorem dX11_askOf_145 : decode cX11_askOf 145 = .ok (.iload 4, 2) := by decide +kernel
theorem dX11_askOf_147 : decode cX11_askOf 147 = .ok (.if_icmp .ge 8, 3) := by decide +kernel
theorem dX11_askOf_150 : decode cX11_askOf 150 = .ok (.iload 6, 2) := by decide +kernel
theorem dX11_askOf_152 : decode cX11_askOf 152 = .ok (.goto 5, 3) := by decide +kernel
theorem dX11_askOf_155 : decode cX11_askOf 155 = .ok (.iload 4, 2) := by decide +kernel
theorem dX11_askOf_157 : decode cX11_askOf 157 = .ok (.istore 4, 2) := by decide +kernel
theorem dX11_askOf_159 : decode cX11_askOf 159 = .ok (.iinc 5 1, 3) := by decide +kernel
theorem dX11_askOf_162 : decode cX11_askOf 162 = .ok (.goto (-147), 3) := by decide +kernel
theorem dX11_askOf_165 : decode cX11_askOf 165 = .ok (.iload_n 3, 1) := by decide +kernel
theorem dX11_askOf_166 : decode cX11_askOf 166 = .ok (.ireturn, 1) := by decide +kernel
theorem dX11_draw_0 : decode cX11_draw 0 = .ok (.aload_n 0, 1) := by decide +kernel
theorem dX11_draw_1 : decode cX11_draw 1 = .ok (.ldc2_w 279, 3) := by decide +kernel
theorem dX11_draw_4 : decode cX11_draw 4 = .ok (.aload_n 0, 1) := by decide +kernel
theorem dX11_draw_5 : decode cX11_draw 5 = .ok (.getfield 281, 3) := by decide +kernel
theorem dX11_draw_8 : decode cX11_draw 8 = .ok (.i2l, 1) := by decide +kernel
theorem dX11_draw_9 : decode cX11_draw 9 = .ok (.lmul, 1) := by decide +kernel
theorem dX11_draw_10 : decode cX11_draw 10 = .ok (.ldc2_w 284, 3) := by decide +kernel
theorem dX11_draw_13 : decode cX11_draw 13 = .ok (.ladd, 1) := by decide +kernel
theorem dX11_draw_14 : decode cX11_draw 14 = .ok (.ldc2_w 286, 3) := by decide +kernel
theorem dX11_draw_17 : decode cX11_draw 17 = .ok (.land, 1) := by decide +kernel
theorem dX11_draw_18 : decode cX11_draw 18 = .ok (.l2i, 1) := by decide +kernel
theorem dX11_draw_19 : decode cX11_draw 19 = .ok (.putfield 281, 3) := by decide +kernel
theorem dX11_draw_22 : decode cX11_draw 22 = .ok (.aload_n 0, 1) := by decide +kernel
theorem dX11_draw_23 : decode cX11_draw 23 = .ok (.getfield 281, 3) := by decide +kernel
theorem dX11_draw_26 : decode cX11_draw 26 = .ok (.ldc_w 288, 3) := by decide +kernel
theorem dX11_draw_29 : decode cX11_draw 29 = .ok (.idiv, 1) := by decide +kernel
theorem dX11_draw_30 : decode cX11_draw 30 = .ok (.iload_n 1, 1) := by decide +kernel
theorem dX11_draw_31 : decode cX11_draw 31 = .ok (.irem, 1) := by decide +kernel
theorem dX11_draw_32 : decode cX11_draw 32 = .ok (.ireturn, 1) := by decide +kernel
theorem dX11_endsMany_0 : decode cX11_endsMany 0 = .ok (.iconst 0, 1) := by decide +kernel
theorem dX11_endsMany_1 : decode cX11_endsMany 1 = .ok (.istore_n 2, 1) := by decide +kernel
theorem dX11_endsMany_2 : decode cX11_endsMany 2 = .ok (.iconst 0, 1) := by decide +kernel
theorem dX11_endsMany_3 : decode cX11_endsMany 3 = .ok (.istore_n 3, 1) := by decide +kernel
theorem dX11_endsMany_4 : decode cX11_endsMany 4 = .ok (.iload_n 3, 1) := by decide +kernel
theorem dX11_endsMany_5 : decode cX11_endsMany 5 = .ok (.aload_n 0, 1) := by decide +kernel
theorem dX11_endsMany_6 : decode cX11_endsMany 6 = .ok (.getfield 108, 3) := by decide +kernel
theorem dX11_endsMany_9 : decode cX11_endsMany 9 = .ok (.if_icmp .ge 26, 3) := by decide +kernel
theorem dX11_endsMany_12 : decode cX11_endsMany 12 = .ok (.iload_n 2, 1) := by decide +kernel
theorem dX11_endsMany_13 : decode cX11_endsMany 13 = .ok (.aload_n 0, 1) := by decide +kernel
theorem dX11_endsMany_14 : decode cX11_endsMany 14 = .ok (.iload_n 3, 1) := by decide +kernel
theorem dX11_endsMany_15 : decode cX11_endsMany 15 = .ok (.iload_n 1, 1) := by decide +kernel
theorem dX11_endsMany_16 : decode cX11_endsMany 16 = .ok (.invokevirtual 224, 3) := by decide +kernel
theorem dX11_endsMany_19 : decode cX11_endsMany 19 = .ok (.ifCond .eq 7, 3) := by decide +kernel
theorem dX11_endsMany_22 : decode cX11_endsMany 22 = .ok (.iconst 1, 1) := by decide +kernel
theorem dX11_endsMany_23 : decode cX11_endsMany 23 = .ok (.goto 4, 3) := by decide +kernel
theorem dX11_endsMany_26 : decode cX11_endsMany 26 = .ok (.iconst 0, 1) := by decide +kernel
theorem dX11_endsMany_27 : decode cX11_endsMany 27 = .ok (.iadd, 1) := by decide +kernel
theorem dX11_endsMany_28 : decode cX11_endsMany 28 = .ok (.istore_n 2, 1) := by decide +kernel
theorem dX11_endsMany_29 : decode cX11_endsMany 29 = .ok (.iinc 3 1, 3) := by decide +kernel
theorem dX11_endsMany_32 : decode cX11_endsMany 32 = .ok (.goto (-28), 3) := by decide +kernel
theorem dX11_endsMany_35 : decode cX11_endsMany 35 = .ok (.iload_n 2, 1) := by decide +kernel
theorem dX11_endsMany_36 : decode cX11_endsMany 36 = .ok (.ireturn, 1) := by decide +kernel
theorem dX11_endsNo_0 : decode cX11_endsNo 0 = .ok (.iconst 0, 1) := by decide +kernel
theorem dX11_endsNo_1 : decode cX11_endsNo 1 = .ok (.istore_n 3, 1) := by decide +kernel
theorem dX11_endsNo_2 : decode cX11_endsNo 2 = .ok (.iload_n 2, 1) := by decide +kernel
theorem dX11_endsNo_3 : decode cX11_endsNo 3 = .ok (.istore 4, 2) := by decide +kernel
theorem dX11_endsNo_5 : decode cX11_endsNo 5 = .ok (.aload_n 0, 1) := by decide +kernel
theorem dX11_endsNo_6 : decode cX11_endsNo 6 = .ok (.iload_n 3, 1) := by decide +kernel
theorem dX11_endsNo_7 : decode cX11_endsNo 7 = .ok (.iload_n 1, 1) := by decide +kernel
theorem dX11_endsNo_8 : decode cX11_endsNo 8 = .ok (.invokevirtual 224, 3) := by decide +kernel
theorem dX11_endsNo_11 : decode cX11_endsNo 11 = .ok (.ifCond .eq 8, 3) := by decide +kernel
theorem dX11_endsNo_14 : decode cX11_endsNo 14 = .ok (.iload 4, 2) := by decide +kernel
theorem dX11_endsNo_16 : decode cX11_endsNo 16 = .ok (.ifCond .le 28, 3) := by decide +kernel
theorem dX11_endsNo_19 : decode cX11_endsNo 19 = .ok (.iload 4, 2) := by decide +kernel
theorem dX11_endsNo_21 : decode cX11_endsNo 21 = .ok (.aload_n 0, 1) := by decide +kernel
theorem dX11_endsNo_22 : decode cX11_endsNo 22 = .ok (.iload_n 3, 1) := by decide +kernel
theorem dX11_endsNo_23 : decode cX11_endsNo 23 = .ok (.iload_n 1, 1) := by decide +kernel
theorem dX11_endsNo_24 : decode cX11_endsNo 24 = .ok (.invokevirtual 224, 3) := by decide +kernel
theorem dX11_endsNo_27 : decode cX11_endsNo 27 = .ok (.ifCond .eq 7, 3) := by decide +kernel
theorem dX11_endsNo_30 : decode cX11_endsNo 30 = .ok (.iconst 1, 1) := by decide +kernel
theorem dX11_endsNo_31 : decode cX11_endsNo 31 = .ok (.goto 4, 3) := by decide +kernel
theorem dX11_endsNo_34 : decode cX11_endsNo 34 = .ok (.iconst 0, 1) := by decide +kernel
theorem dX11_endsNo_35 : decode cX11_endsNo 35 = .ok (.isub, 1) := by decide +kernel
theorem dX11_endsNo_36 : decode cX11_endsNo 36 = .ok (.istore 4, 2) := by decide +kernel
theorem dX11_endsNo_38 : decode cX11_endsNo 38 = .ok (.iinc 3 1, 3) := by decide +kernel
theorem dX11_endsNo_41 : decode cX11_endsNo 41 = .ok (.goto (-36), 3) := by decide +kernel
theorem dX11_endsNo_44 : decode cX11_endsNo 44 = .ok (.iload_n 3, 1) := by decide +kernel
theorem dX11_endsNo_45 : decode cX11_endsNo 45 = .ok (.ireturn, 1) := by decide +kernel
theorem dX11_wander_0 : decode cX11_wander 0 = .ok (.iload_n 1, 1) := by decide +kernel
theorem dX11_wander_1 : decode cX11_wander 1 = .ok (.i2l, 1) := by decide +kernel
theorem dX11_wander_2 : decode cX11_wander 2 = .ok (.lconst 1, 1) := by decide +kernel
theorem dX11_wander_3 : decode cX11_wander 3 = .ok (.ldc2_w 289, 3) := by decide +kernel
theorem dX11_wander_6 : decode cX11_wander 6 = .ok (.invokestatic 73, 3) := by decide +kernel
theorem dX11_wander_9 : decode cX11_wander 9 = .ok (.ifCond .eq 19, 3) := by decide +kernel
theorem dX11_wander_12 : decode cX11_wander 12 = .ok (.iload_n 2, 1) := by decide +kernel
theorem dX11_wander_13 : decode cX11_wander 13 = .ok (.ifCond .lt 15, 3) := by decide +kernel
theorem dX11_wander_16 : decode cX11_wander 16 = .ok (.iload_n 3, 1) := by decide +kernel
theorem dX11_wander_17 : decode cX11_wander 17 = .ok (.i2l, 1) := by decide +kernel
theorem dX11_wander_18 : decode cX11_wander 18 = .ok (.lconst 0, 1) := by decide +kernel
theorem dX11_wander_19 : decode cX11_wander 19 = .ok (.ldc2_w 291, 3) := by decide +kernel
theorem dX11_wander_22 : decode cX11_wander 22 = .ok (.invokestatic 73, 3) := by decide +kernel
theorem dX11_wander_25 : decode cX11_wander 25 = .ok (.ifCond .ne 6, 3) := by decide +kernel
theorem dX11_wander_28 : decode cX11_wander 28 = .ok (.bipush (-102), 2) := by decide +kernel
theorem dX11_wander_30 : decode cX11_wander 30 = .ok (.ireturn, 1) := by decide +kernel
theorem dX11_wander_31 : decode cX11_wander 31 = .ok (.aload_n 0, 1) := by decide +kernel
theorem dX11_wander_32 : decode cX11_wander 32 = .ok (.invokevirtual 234, 3) := by decide +kernel
theorem dX11_wander_35 : decode cX11_wander 35 = .ok (.ifCond .ne 10, 3) := by decide +kernel
theorem dX11_wander_38 : decode cX11_wander 38 = .ok (.aload_n 0, 1) := by decide +kernel
theorem dX11_wander_39 : decode cX11_wander 39 = .ok (.invokevirtual 251, 3) := by decide +kernel
theorem dX11_wander_42 : decode cX11_wander 42 = .ok (.ifCond .ne 6, 3) := by decide +kernel
theorem dX11_wander_45 : decode cX11_wander 45 = .ok (.bipush (-103), 2) := by decide +kernel
theorem dX11_wander_47 : decode cX11_wander 47 = .ok (.ireturn, 1) := by decide +kernel
theorem dX11_wander_48 : decode cX11_wander 48 = .ok (.aload_n 0, 1) := by decide +kernel
theorem dX11_wander_49 : decode cX11_wander 49 = .ok (.iload_n 2, 1) := by decide +kernel
theorem dX11_wander_50 : decode cX11_wander 50 = .ok (.putfield 281, 3) := by decide +kernel
theorem dX11_wander_53 : decode cX11_wander 53 = .ok (.aload_n 0, 1) := by decide +kernel
theorem dX11_wander_54 : decode cX11_wander 54 = .ok (.getfield 111, 3) := by decide +kernel
theorem dX11_wander_57 : decode cX11_wander 57 = .ok (.istore 4, 2) := by decide +kernel
theorem dX11_wander_59 : decode cX11_wander 59 = .ok (.iconst 0, 1) := by decide +kernel
theorem dX11_wander_60 : decode cX11_wander 60 = .ok (.istore 5, 2) := by decide +kernel
theorem dX11_wander_62 : decode cX11_wander 62 = .ok (.aload_n 0, 1) := by decide +kernel
theorem dX11_wander_63 : decode cX11_wander 63 = .ok (.getfield 22, 3) := by decide +kernel
theorem dX11_wander_66 : decode cX11_wander 66 = .ok (.aload_n 0, 1) := by decide +kernel
theorem dX11_wander_67 : decode cX11_wander 67 = .ok (.getfield 31, 3) := by decide +kernel
theorem dX11_wander_70 : decode cX11_wander 70 = .ok (.invokestatic 195, 3) := by decide +kernel
theorem dX11_wander_73 : decode cX11_wander 73 = .ok (.iconst 0, 1) := by decide +kernel
theorem dX11_wander_74 : decode cX11_wander 74 = .ok (.istore 6, 2) := by decide +kernel
theorem dX11_wander_76 : decode cX11_wander 76 = .ok (.iload 6, 2) := by decide +kernel
theorem dX11_wander_78 : decode cX11_wander 78 = .ok (.iload_n 1, 1) := by decide +kernel
theorem dX11_wander_79 : decode cX11_wander 79 = .ok (.if_icmp .ge 109, 3) := by decide +kernel
theorem dX11_wander_82 : decode cX11_wander 82 = .ok (.aload_n 0, 1) := by decide +kernel
theorem dX11_wander_83 : decode cX11_wander 83 = .ok (.iload 4, 2) := by decide +kernel
theorem dX11_wander_85 : decode cX11_wander 85 = .ok (.invokevirtual 293, 3) := by decide +kernel
theorem dX11_wander_88 : decode cX11_wander 88 = .ok (.istore 7, 2) := by decide +kernel
theorem dX11_wander_90 : decode cX11_wander 90 = .ok (.iload 7, 2) := by decide +kernel
theorem dX11_wander_92 : decode cX11_wander 92 = .ok (.ifCond .le 58, 3) := by decide +kernel
theorem dX11_wander_95 : decode cX11_wander 95 = .ok (.aload_n 0, 1) := by decide +kernel
theorem dX11_wander_96 : decode cX11_wander 96 = .ok (.iload 4, 2) := by decide +kernel
theorem dX11_wander_98 : decode cX11_wander 98 = .ok (.aload_n 0, 1) := by decide +kernel
theorem dX11_wander_99 : decode cX11_wander 99 = .ok (.iload 7, 2) := by decide +kernel
theorem dX11_wander_101 : decode cX11_wander 101 = .ok (.invokevirtual 296, 3) := by decide +kernel
theorem dX11_wander_104 : decode cX11_wander 104 = .ok (.invokevirtual 299, 3) := by decide +kernel
theorem dX11_wander_107 : decode cX11_wander 107 = .ok (.istore 8, 2) := by decide +kernel
theorem dX11_wander_109 : decode cX11_wander 109 = .ok (.aload_n 0, 1) := by decide +kernel
theorem dX11_wander_110 : decode cX11_wander 110 = .ok (.iload 8, 2) := by decide +kernel
theorem dX11_wander_112 : decode cX11_wander 112 = .ok (.aload_n 0, 1) := by decide +kernel
theorem dX11_wander_113 : decode cX11_wander 113 = .ok (.getfield 31, 3) := by decide +kernel
theorem dX11_wander_116 : decode cX11_wander 116 = .ok (.aload_n 0, 1) := by decide +kernel
theorem dX11_wander_117 : decode cX11_wander 117 = .ok (.getfield 135, 3) := by decide +kernel
theorem dX11_wander_120 : decode cX11_wander 120 = .ok (.invokevirtual 227, 3) := by decide +kernel
theorem dX11_wander_123 : decode cX11_wander 123 = .ok (.ifCond .eq 27, 3) := by decide +kernel
theorem dX11_wander_126 : decode cX11_wander 126 = .ok (.aload_n 0, 1) := by decide +kernel
theorem dX11_wander_127 : decode cX11_wander 127 = .ok (.iload 8, 2) := by decide +kernel
theorem dX11_wander_129 : decode cX11_wander 129 = .ok (.aload_n 0, 1) := by decide +kernel
theorem dX11_wander_130 : decode cX11_wander 130 = .ok (.getfield 31, 3) := by decide +kernel
theorem dX11_wander_133 : decode cX11_wander 133 = .ok (.aload_n 0, 1) := by decide +kernel
theorem dX11_wander_134 : decode cX11_wander 134 = .ok (.getfield 135, 3) := by decide +kernel
theorem dX11_wander_137 : decode cX11_wander 137 = .ok (.invokevirtual 199, 3) := by decide +kernel
theorem dX11_wander_140 : decode cX11_wander 140 = .ok (.aload_n 0, 1) := by decide +kernel
theorem dX11_wander_141 : decode cX11_wander 141 = .ok (.iload 8, 2) := by decide +kernel
theorem dX11_wander_143 : decode cX11_wander 143 = .ok (.iload 4, 2) := by decide +kernel
theorem dX11_wander_145 : decode cX11_wander 145 = .ok (.invokevirtual 231, 3) := by decide +kernel
theorem dX11_wander_148 : decode cX11_wander 148 = .ok (.istore 4, 2) := by decide +kernel
theorem dX11_wander_150 : decode cX11_wander 150 = .ok (.iload 5, 2) := by decide +kernel
theorem dX11_wander_152 : decode cX11_wander 152 = .ok (.aload_n 0, 1) := by decide +kernel
theorem dX11_wander_153 : decode cX11_wander 153 = .ok (.getfield 31, 3) := by decide +kernel
theorem dX11_wander_156 : decode cX11_wander 156 = .ok (.aload_n 0, 1) := by decide +kernel
theorem dX11_wander_157 : decode cX11_wander 157 = .ok (.getfield 135, 3) := by decide +kernel
theorem dX11_wander_160 : decode cX11_wander 160 = .ok (.aload_n 0, 1) := by decide +kernel
theorem dX11_wander_161 : decode cX11_wander 161 = .ok (.getfield 25, 3) := by decide +kernel
theorem dX11_wander_164 : decode cX11_wander 164 = .ok (.aload_n 0, 1) := by decide +kernel
theorem dX11_wander_165 : decode cX11_wander 165 = .ok (.getfield 138, 3) := by decide +kernel
theorem dX11_wander_168 : decode cX11_wander 168 = .ok (.invokestatic 203, 3) := by decide +kernel
theorem dX11_wander_171 : decode cX11_wander 171 = .ok (.ifCond .eq 7, 3) := by decide +kernel
theorem dX11_wander_174 : decode cX11_wander 174 = .ok (.iconst 1, 1) := by decide +kernel
theorem dX11_wander_175 : decode cX11_wander 175 = .ok (.goto 4, 3) := by decide +kernel
theorem dX11_wander_178 : decode cX11_wander 178 = .ok (.iconst 0, 1) := by decide +kernel
theorem dX11_wander_179 : decode cX11_wander 179 = .ok (.iadd, 1) := by decide +kernel
theorem dX11_wander_180 : decode cX11_wander 180 = .ok (.istore 5, 2) := by decide +kernel
theorem dX11_wander_182 : decode cX11_wander 182 = .ok (.iinc 6 1, 3) := by decide +kernel
theorem dX11_wander_185 : decode cX11_wander 185 = .ok (.goto (-109), 3) := by decide +kernel
theorem dX11_wander_188 : decode cX11_wander 188 = .ok (.iload_n 3, 1) := by decide +kernel
theorem dX11_wander_189 : decode cX11_wander 189 = .ok (.ifCond .ne 8, 3) := by decide +kernel
theorem dX11_wander_192 : decode cX11_wander 192 = .ok (.iload 5, 2) := by decide +kernel
theorem dX11_wander_194 : decode cX11_wander 194 = .ok (.goto 17, 3) := by decide +kernel
theorem dX11_wander_197 : decode cX11_wander 197 = .ok (.iload_n 3, 1) := by decide +kernel
theorem dX11_wander_198 : decode cX11_wander 198 = .ok (.iconst 1, 1) := by decide +kernel
theorem dX11_wander_199 : decode cX11_wander 199 = .ok (.if_icmp .ne 8, 3) := by decide +kernel
theorem dX11_wander_202 : decode cX11_wander 202 = .ok (.iload 4, 2) := by decide +kernel
theorem dX11_wander_204 : decode cX11_wander 204 = .ok (.goto 7, 3) := by decide +kernel
theorem dX11_wander_207 : decode cX11_wander 207 = .ok (.aload_n 0, 1) := by decide +kernel
theorem dX11_wander_208 : decode cX11_wander 208 = .ok (.getfield 281, 3) := by decide +kernel
theorem dX11_wander_211 : decode cX11_wander 211 = .ok (.ireturn, 1) := by decide +kernel
theorem dX11_image_0 : decode cX11_image 0 = .ok (.aload_n 0, 1) := by decide +kernel
theorem dX11_image_1 : decode cX11_image 1 = .ok (.invokevirtual 234, 3) := by decide +kernel
theorem dX11_image_4 : decode cX11_image 4 = .ok (.ifCond .eq 6, 3) := by decide +kernel
theorem dX11_image_7 : decode cX11_image 7 = .ok (.bipush (-103), 2) := by decide +kernel
theorem dX11_image_9 : decode cX11_image 9 = .ok (.ireturn, 1) := by decide +kernel
theorem dX11_image_10 : decode cX11_image 10 = .ok (.aload_n 0, 1) := by decide +kernel
theorem dX11_image_11 : decode cX11_image 11 = .ok (.getfield 16, 3) := by decide +kernel
theorem dX11_image_14 : decode cX11_image 14 = .ok (.aload_n 0, 1) := by decide +kernel
theorem dX11_image_15 : decode cX11_image 15 = .ok (.getfield 52, 3) := by decide +kernel
theorem dX11_image_18 : decode cX11_image 18 = .ok (.invokestatic 195, 3) := by decide +kernel
theorem dX11_image_21 : decode cX11_image 21 = .ok (.aload_n 0, 1) := by decide +kernel
theorem dX11_image_22 : decode cX11_image 22 = .ok (.getfield 19, 3) := by decide +kernel
theorem dX11_image_25 : decode cX11_image 25 = .ok (.aload_n 0, 1) := by decide +kernel
theorem dX11_image_26 : decode cX11_image 26 = .ok (.getfield 55, 3) := by decide +kernel
theorem dX11_image_29 : decode cX11_image 29 = .ok (.invokestatic 195, 3) := by decide +kernel
theorem dX11_image_32 : decode cX11_image 32 = .ok (.aload_n 0, 1) := by decide +kernel
theorem dX11_image_33 : decode cX11_image 33 = .ok (.getfield 22, 3) := by decide +kernel
theorem dX11_image_36 : decode cX11_image 36 = .ok (.aload_n 0, 1) := by decide +kernel
theorem dX11_image_37 : decode cX11_image 37 = .ok (.getfield 58, 3) := by decide +kernel
theorem dX11_image_40 : decode cX11_image 40 = .ok (.invokestatic 195, 3) := by decide +kernel
theorem dX11_image_43 : decode cX11_image 43 = .ok (.aload_n 0, 1) := by decide +kernel
theorem dX11_image_44 : decode cX11_image 44 = .ok (.getfield 25, 3) := by decide +kernel
theorem dX11_image_47 : decode cX11_image 47 = .ok (.aload_n 0, 1) := by decide +kernel
theorem dX11_image_48 : decode cX11_image 48 = .ok (.getfield 61, 3) := by decide +kernel
theorem dX11_image_51 : decode cX11_image 51 = .ok (.invokestatic 195, 3) := by decide +kernel
theorem dX11_image_54 : decode cX11_image 54 = .ok (.aload_n 0, 1) := by decide +kernel
theorem dX11_image_55 : decode cX11_image 55 = .ok (.getfield 46, 3) := by decide +kernel
theorem dX11_image_58 : decode cX11_image 58 = .ok (.aload_n 0, 1) := by decide +kernel
theorem dX11_image_59 : decode cX11_image 59 = .ok (.getfield 64, 3) := by decide +kernel
theorem dX11_image_62 : decode cX11_image 62 = .ok (.invokestatic 195, 3) := by decide +kernel
theorem dX11_image_65 : decode cX11_image 65 = .ok (.aload_n 0, 1) := by decide +kernel
theorem dX11_image_66 : decode cX11_image 66 = .ok (.aload_n 0, 1) := by decide +kernel
theorem dX11_image_67 : decode cX11_image 67 = .ok (.getfield 111, 3) := by decide +kernel
theorem dX11_image_70 : decode cX11_image 70 = .ok (.putfield 302, 3) := by decide +kernel
theorem dX11_image_73 : decode cX11_image 73 = .ok (.aload_n 0, 1) := by decide +kernel
theorem dX11_image_74 : decode cX11_image 74 = .ok (.aload_n 0, 1) := by decide +kernel
theorem dX11_image_75 : decode cX11_image 75 = .ok (.getfield 114, 3) := by decide +kernel
theorem dX11_image_78 : decode cX11_image 78 = .ok (.putfield 305, 3) := by decide +kernel
theorem dX11_image_81 : decode cX11_image 81 = .ok (.aload_n 0, 1) := by decide +kernel
theorem dX11_image_82 : decode cX11_image 82 = .ok (.aload_n 0, 1) := by decide +kernel
theorem dX11_image_83 : decode cX11_image 83 = .ok (.getfield 118, 3) := by decide +kernel
theorem dX11_image_86 : decode cX11_image 86 = .ok (.putfield 308, 3) := by decide +kernel
theorem dX11_image_89 : decode cX11_image 89 = .ok (.aload_n 0, 1) := by decide +kernel
theorem dX11_image_90 : decode cX11_image 90 = .ok (.aload_n 0, 1) := by decide +kernel
theorem dX11_image_91 : decode cX11_image 91 = .ok (.getfield 135, 3) := by decide +kernel
theorem dX11_image_94 : decode cX11_image 94 = .ok (.putfield 311, 3) := by decide +kernel
theorem dX11_image_97 : decode cX11_image 97 = .ok (.aload_n 0, 1) := by decide +kernel
theorem dX11_image_98 : decode cX11_image 98 = .ok (.aload_n 0, 1) := by decide +kernel
theorem dX11_image_99 : decode cX11_image 99 = .ok (.getfield 138, 3) := by decide +kernel
theorem dX11_image_102 : decode cX11_image 102 = .ok (.putfield 314, 3) := by decide +kernel
theorem dX11_image_105 : decode cX11_image 105 = .ok (.aload_n 0, 1) := by decide +kernel
theorem dX11_image_106 : decode cX11_image 106 = .ok (.aload_n 0, 1) := by decide +kernel
theorem dX11_image_107 : decode cX11_image 107 = .ok (.getfield 121, 3) := by decide +kernel
theorem dX11_image_110 : decode cX11_image 110 = .ok (.putfield 317, 3) := by decide +kernel
theorem dX11_image_113 : decode cX11_image 113 = .ok (.aload_n 0, 1) := by decide +kernel
theorem dX11_image_114 : decode cX11_image 114 = .ok (.aload_n 0, 1) := by decide +kernel
theorem dX11_image_115 : decode cX11_image 115 = .ok (.getfield 124, 3) := by decide +kernel
theorem dX11_image_118 : decode cX11_image 118 = .ok (.putfield 67, 3) := by decide +kernel
theorem dX11_image_121 : decode cX11_image 121 = .ok (.aload_n 0, 1) := by decide +kernel
theorem dX11_image_122 : decode cX11_image 122 = .ok (.getfield 118, 3) := by decide +kernel
theorem dX11_image_125 : decode cX11_image 125 = .ok (.ireturn, 1) := by decide +kernel
theorem dX11_restore_0 : decode cX11_restore 0 = .ok (.aload_n 0, 1) := by decide +kernel
theorem dX11_restore_1 : decode cX11_restore 1 = .ok (.getfield 67, 3) := by decide +kernel
theorem dX11_restore_4 : decode cX11_restore 4 = .ok (.aload_n 0, 1) := by decide +kernel
theorem dX11_restore_5 : decode cX11_restore 5 = .ok (.getfield 124, 3) := by decide +kernel
theorem dX11_restore_8 : decode cX11_restore 8 = .ok (.if_icmp .eq 6, 3) := by decide +kernel
theorem dX11_restore_11 : decode cX11_restore 11 = .ok (.bipush (-103), 2) := by decide +kernel
theorem dX11_restore_13 : decode cX11_restore 13 = .ok (.ireturn, 1) := by decide +kernel
theorem dX11_restore_14 : decode cX11_restore 14 = .ok (.aload_n 0, 1) := by decide +kernel
theorem dX11_restore_15 : decode cX11_restore 15 = .ok (.getfield 52, 3) := by decide +kernel
theorem dX11_restore_18 : decode cX11_restore 18 = .ok (.aload_n 0, 1) := by decide +kernel
theorem dX11_restore_19 : decode cX11_restore 19 = .ok (.getfield 16, 3) := by decide +kernel
theorem dX11_restore_22 : decode cX11_restore 22 = .ok (.invokestatic 195, 3) := by decide +kernel
theorem dX11_restore_25 : decode cX11_restore 25 = .ok (.aload_n 0, 1) := by decide +kernel
theorem dX11_restore_26 : decode cX11_restore 26 = .ok (.getfield 55, 3) := by decide +kernel
theorem dX11_restore_29 : decode cX11_restore 29 = .ok (.aload_n 0, 1) := by decide +kernel
theorem dX11_restore_30 : decode cX11_restore 30 = .ok (.getfield 19, 3) := by decide +kernel
theorem dX11_restore_33 : decode cX11_restore 33 = .ok (.invokestatic 195, 3) := by decide +kernel
theorem dX11_restore_36 : decode cX11_restore 36 = .ok (.aload_n 0, 1) := by decide +kernel
theorem dX11_restore_37 : decode cX11_restore 37 = .ok (.getfield 58, 3) := by decide +kernel
theorem dX11_restore_40 : decode cX11_restore 40 = .ok (.aload_n 0, 1) := by decide +kernel
theorem dX11_restore_41 : decode cX11_restore 41 = .ok (.getfield 22, 3) := by decide +kernel
theorem dX11_restore_44 : decode cX11_restore 44 = .ok (.invokestatic 195, 3) := by decide +kernel
theorem dX11_restore_47 : decode cX11_restore 47 = .ok (.aload_n 0, 1) := by decide +kernel
theorem dX11_restore_48 : decode cX11_restore 48 = .ok (.getfield 61, 3) := by decide +kernel
theorem dX11_restore_51 : decode cX11_restore 51 = .ok (.aload_n 0, 1) := by decide +kernel
theorem dX11_restore_52 : decode cX11_restore 52 = .ok (.getfield 25, 3) := by decide +kernel
theorem dX11_restore_55 : decode cX11_restore 55 = .ok (.invokestatic 195, 3) := by decide +kernel
theorem dX11_restore_58 : decode cX11_restore 58 = .ok (.aload_n 0, 1) := by decide +kernel
theorem dX11_restore_59 : decode cX11_restore 59 = .ok (.getfield 64, 3) := by decide +kernel
theorem dX11_restore_62 : decode cX11_restore 62 = .ok (.aload_n 0, 1) := by decide +kernel
theorem dX11_restore_63 : decode cX11_restore 63 = .ok (.getfield 46, 3) := by decide +kernel
theorem dX11_restore_66 : decode cX11_restore 66 = .ok (.invokestatic 195, 3) := by decide +kernel
theorem dX11_restore_69 : decode cX11_restore 69 = .ok (.aload_n 0, 1) := by decide +kernel
theorem dX11_restore_70 : decode cX11_restore 70 = .ok (.aload_n 0, 1) := by decide +kernel
theorem dX11_restore_71 : decode cX11_restore 71 = .ok (.getfield 302, 3) := by decide +kernel
theorem dX11_restore_74 : decode cX11_restore 74 = .ok (.putfield 111, 3) := by decide +kernel
theorem dX11_restore_77 : decode cX11_restore 77 = .ok (.aload_n 0, 1) := by decide +kernel
theorem dX11_restore_78 : decode cX11_restore 78 = .ok (.aload_n 0, 1) := by decide +kernel
theorem dX11_restore_79 : decode cX11_restore 79 = .ok (.getfield 305, 3) := by decide +kernel
theorem dX11_restore_82 : decode cX11_restore 82 = .ok (.putfield 114, 3) := by decide +kernel
theorem dX11_restore_85 : decode cX11_restore 85 = .ok (.aload_n 0, 1) := by decide +kernel
theorem dX11_restore_86 : decode cX11_restore 86 = .ok (.aload_n 0, 1) := by decide +kernel
theorem dX11_restore_87 : decode cX11_restore 87 = .ok (.getfield 308, 3) := by decide +kernel
theorem dX11_restore_90 : decode cX11_restore 90 = .ok (.putfield 118, 3) := by decide +kernel
theorem dX11_restore_93 : decode cX11_restore 93 = .ok (.aload_n 0, 1) := by decide +kernel
theorem dX11_restore_94 : decode cX11_restore 94 = .ok (.aload_n 0, 1) := by decide +kernel
theorem dX11_restore_95 : decode cX11_restore 95 = .ok (.getfield 311, 3) := by decide +kernel
theorem dX11_restore_98 : decode cX11_restore 98 = .ok (.putfield 135, 3) := by decide +kernel
theorem dX11_restore_101 : decode cX11_restore 101 = .ok (.aload_n 0, 1) := by decide +kernel
theorem dX11_restore_102 : decode cX11_restore 102 = .ok (.aload_n 0, 1) := by decide +kernel
theorem dX11_restore_103 : decode cX11_restore 103 = .ok (.getfield 314, 3) := by decide +kernel
theorem dX11_restore_106 : decode cX11_restore 106 = .ok (.putfield 138, 3) := by decide +kernel
theorem dX11_restore_109 : decode cX11_restore 109 = .ok (.aload_n 0, 1) := by decide +kernel
theorem dX11_restore_110 : decode cX11_restore 110 = .ok (.aload_n 0, 1) := by decide +kernel
theorem dX11_restore_111 : decode cX11_restore 111 = .ok (.getfield 317, 3) := by decide +kernel
theorem dX11_restore_114 : decode cX11_restore 114 = .ok (.putfield 121, 3) := by decide +kernel
theorem dX11_restore_117 : decode cX11_restore 117 = .ok (.aload_n 0, 1) := by decide +kernel
theorem dX11_restore_118 : decode cX11_restore 118 = .ok (.getfield 118, 3) := by decide +kernel
theorem dX11_restore_121 : decode cX11_restore 121 = .ok (.ireturn, 1) := by decide +kernel
theorem dX11_openMany_0 : decode cX11_openMany 0 = .ok (.iconst 0, 1) := by decide +kernel
theorem dX11_openMany_1 : decode cX11_openMany 1 = .ok (.istore_n 1, 1) := by decide +kernel
theorem dX11_openMany_2 : decode cX11_openMany 2 = .ok (.iconst 0, 1) := by decide +kernel
theorem dX11_openMany_3 : decode cX11_openMany 3 = .ok (.istore_n 2, 1) := by decide +kernel
theorem dX11_openMany_4 : decode cX11_openMany 4 = .ok (.iload_n 2, 1) := by decide +kernel
theorem dX11_openMany_5 : decode cX11_openMany 5 = .ok (.aload_n 0, 1) := by decide +kernel
theorem dX11_openMany_6 : decode cX11_openMany 6 = .ok (.getfield 108, 3) := by decide +kernel
theorem dX11_openMany_9 : decode cX11_openMany 9 = .ok (.if_icmp .ge 52, 3) := by decide +kernel
theorem dX11_openMany_12 : decode cX11_openMany 12 = .ok (.aload_n 0, 1) := by decide +kernel
theorem dX11_openMany_13 : decode cX11_openMany 13 = .ok (.getfield 135, 3) := by decide +kernel
theorem dX11_openMany_16 : decode cX11_openMany 16 = .ok (.ifCond .le 45, 3) := by decide +kernel
theorem dX11_openMany_19 : decode cX11_openMany 19 = .ok (.iload_n 1, 1) := by decide +kernel
theorem dX11_openMany_20 : decode cX11_openMany 20 = .ok (.aload_n 0, 1) := by decide +kernel
theorem dX11_openMany_21 : decode cX11_openMany 21 = .ok (.iload_n 2, 1) := by decide +kernel
theorem dX11_openMany_22 : decode cX11_openMany 22 = .ok (.aload_n 0, 1) := by decide +kernel
theorem dX11_openMany_23 : decode cX11_openMany 23 = .ok (.getfield 111, 3) := by decide +kernel
theorem dX11_openMany_26 : decode cX11_openMany 26 = .ok (.invokevirtual 224, 3) := by decide +kernel
theorem dX11_openMany_29 : decode cX11_openMany 29 = .ok (.ifCond .eq 23, 3) := by decide +kernel
theorem dX11_openMany_32 : decode cX11_openMany 32 = .ok (.aload_n 0, 1) := by decide +kernel
theorem dX11_openMany_33 : decode cX11_openMany 33 = .ok (.iload_n 2, 1) := by decide +kernel
theorem dX11_openMany_34 : decode cX11_openMany 34 = .ok (.aload_n 0, 1) := by decide +kernel
theorem dX11_openMany_35 : decode cX11_openMany 35 = .ok (.getfield 22, 3) := by decide +kernel
theorem dX11_openMany_38 : decode cX11_openMany 38 = .ok (.aload_n 0, 1) := by decide +kernel
theorem dX11_openMany_39 : decode cX11_openMany 39 = .ok (.getfield 135, 3) := by decide +kernel
theorem dX11_openMany_42 : decode cX11_openMany 42 = .ok (.invokevirtual 227, 3) := by decide +kernel
theorem dX11_openMany_45 : decode cX11_openMany 45 = .ok (.ifCond .eq 7, 3) := by decide +kernel
theorem dX11_openMany_48 : decode cX11_openMany 48 = .ok (.iconst 1, 1) := by decide +kernel
theorem dX11_openMany_49 : decode cX11_openMany 49 = .ok (.goto 4, 3) := by decide +kernel
theorem dX11_openMany_52 : decode cX11_openMany 52 = .ok (.iconst 0, 1) := by decide +kernel
theorem dX11_openMany_53 : decode cX11_openMany 53 = .ok (.iadd, 1) := by decide +kernel
theorem dX11_openMany_54 : decode cX11_openMany 54 = .ok (.istore_n 1, 1) := by decide +kernel
theorem dX11_openMany_55 : decode cX11_openMany 55 = .ok (.iinc 2 1, 3) := by decide +kernel
theorem dX11_openMany_58 : decode cX11_openMany 58 = .ok (.goto (-54), 3) := by decide +kernel
theorem dX11_openMany_61 : decode cX11_openMany 61 = .ok (.iload_n 1, 1) := by decide +kernel
theorem dX11_openMany_62 : decode cX11_openMany 62 = .ok (.ireturn, 1) := by decide +kernel
theorem dX11_countOf_0 : decode cX11_countOf 0 = .ok (.iload_n 1, 1) := by decide +kernel
theorem dX11_countOf_1 : decode cX11_countOf 1 = .ok (.tableswitch 143 0 12 #[67, 72, 77, 82, 95, 104, 109, 114, 114, 123, 128, 133, 138], 67) := by decide +kernel
theorem dX11_countOf_68 : decode cX11_countOf 68 = .ok (.aload_n 0, 1) := by decide +kernel
theorem dX11_countOf_69 : decode cX11_countOf 69 = .ok (.getfield 105, 3) := by decide +kernel
theorem dX11_countOf_72 : decode cX11_countOf 72 = .ok (.ireturn, 1) := by decide +kernel
theorem dX11_countOf_73 : decode cX11_countOf 73 = .ok (.aload_n 0, 1) := by decide +kernel
theorem dX11_countOf_74 : decode cX11_countOf 74 = .ok (.getfield 108, 3) := by decide +kernel
theorem dX11_countOf_77 : decode cX11_countOf 77 = .ok (.ireturn, 1) := by decide +kernel
theorem dX11_countOf_78 : decode cX11_countOf 78 = .ok (.aload_n 0, 1) := by decide +kernel
theorem dX11_countOf_79 : decode cX11_countOf 79 = .ok (.getfield 111, 3) := by decide +kernel
theorem dX11_countOf_82 : decode cX11_countOf 82 = .ok (.ireturn, 1) := by decide +kernel
theorem dX11_countOf_83 : decode cX11_countOf 83 = .ok (.aload_n 0, 1) := by decide +kernel
theorem dX11_countOf_84 : decode cX11_countOf 84 = .ok (.getfield 114, 3) := by decide +kernel
theorem dX11_countOf_87 : decode cX11_countOf 87 = .ok (.ifCond .eq 7, 3) := by decide +kernel
theorem dX11_countOf_90 : decode cX11_countOf 90 = .ok (.iconst 1, 1) := by decide +kernel
theorem dX11_countOf_91 : decode cX11_countOf 91 = .ok (.goto 4, 3) := by decide +kernel
theorem dX11_countOf_94 : decode cX11_countOf 94 = .ok (.iconst 0, 1) := by decide +kernel
theorem dX11_countOf_95 : decode cX11_countOf 95 = .ok (.ireturn, 1) := by decide +kernel
theorem dX11_countOf_96 : decode cX11_countOf 96 = .ok (.aload_n 0, 1) := by decide +kernel
theorem dX11_countOf_97 : decode cX11_countOf 97 = .ok (.aload_n 0, 1) := by decide +kernel
theorem dX11_countOf_98 : decode cX11_countOf 98 = .ok (.getfield 111, 3) := by decide +kernel
theorem dX11_countOf_101 : decode cX11_countOf 101 = .ok (.invokevirtual 293, 3) := by decide +kernel
theorem dX11_countOf_104 : decode cX11_countOf 104 = .ok (.ireturn, 1) := by decide +kernel
theorem dX11_countOf_105 : decode cX11_countOf 105 = .ok (.aload_n 0, 1) := by decide +kernel
theorem dX11_countOf_106 : decode cX11_countOf 106 = .ok (.invokevirtual 320, 3) := by decide +kernel
theorem dX11_countOf_109 : decode cX11_countOf 109 = .ok (.ireturn, 1) := by decide +kernel
theorem dX11_countOf_110 : decode cX11_countOf 110 = .ok (.aload_n 0, 1) := by decide +kernel
theorem dX11_countOf_111 : decode cX11_countOf 111 = .ok (.getfield 118, 3) := by decide +kernel
theorem dX11_countOf_114 : decode cX11_countOf 114 = .ok (.ireturn, 1) := by decide +kernel
theorem dX11_countOf_115 : decode cX11_countOf 115 = .ok (.aload_n 0, 1) := by decide +kernel
theorem dX11_countOf_116 : decode cX11_countOf 116 = .ok (.iload_n 1, 1) := by decide +kernel
theorem dX11_countOf_117 : decode cX11_countOf 117 = .ok (.bipush 7, 2) := by decide +kernel
theorem dX11_countOf_119 : decode cX11_countOf 119 = .ok (.isub, 1) := by decide +kernel
theorem dX11_countOf_120 : decode cX11_countOf 120 = .ok (.invokevirtual 141, 3) := by decide +kernel
theorem dX11_countOf_123 : decode cX11_countOf 123 = .ok (.ireturn, 1) := by decide +kernel
theorem dX11_countOf_124 : decode cX11_countOf 124 = .ok (.aload_n 0, 1) := by decide +kernel
theorem dX11_countOf_125 : decode cX11_countOf 125 = .ok (.getfield 121, 3) := by decide +kernel
theorem dX11_countOf_128 : decode cX11_countOf 128 = .ok (.ireturn, 1) := by decide +kernel
theorem dX11_countOf_129 : decode cX11_countOf 129 = .ok (.aload_n 0, 1) := by decide +kernel
theorem dX11_countOf_130 : decode cX11_countOf 130 = .ok (.getfield 77, 3) := by decide +kernel
theorem dX11_countOf_133 : decode cX11_countOf 133 = .ok (.ireturn, 1) := by decide +kernel
theorem dX11_countOf_134 : decode cX11_countOf 134 = .ok (.aload_n 0, 1) := by decide +kernel
theorem dX11_countOf_135 : decode cX11_countOf 135 = .ok (.getfield 124, 3) := by decide +kernel
theorem dX11_countOf_138 : decode cX11_countOf 138 = .ok (.ireturn, 1) := by decide +kernel
theorem dX11_countOf_139 : decode cX11_countOf 139 = .ok (.aload_n 0, 1) := by decide +kernel
theorem dX11_countOf_140 : decode cX11_countOf 140 = .ok (.getfield 254, 3) := by decide +kernel
theorem dX11_countOf_143 : decode cX11_countOf 143 = .ok (.ireturn, 1) := by decide +kernel
theorem dX11_countOf_144 : decode cX11_countOf 144 = .ok (.bipush (-102), 2) := by decide +kernel
theorem dX11_countOf_146 : decode cX11_countOf 146 = .ok (.ireturn, 1) := by decide +kernel
theorem dX11_count_0 : decode cX11_count 0 = .ok (.aload_n 0, 1) := by decide +kernel
theorem dX11_count_1 : decode cX11_count 1 = .ok (.iload_n 1, 1) := by decide +kernel
theorem dX11_count_2 : decode cX11_count 2 = .ok (.invokevirtual 323, 3) := by decide +kernel
theorem dX11_count_5 : decode cX11_count 5 = .ok (.ireturn, 1) := by decide +kernel
theorem dX11_say_0 : decode cX11_say 0 = .ok (.aload_n 0, 1) := by decide +kernel
theorem dX11_say_1 : decode cX11_say 1 = .ok (.ldc2_w 326, 3) := by decide +kernel
theorem dX11_say_4 : decode cX11_say 4 = .ok (.aload_n 0, 1) := by decide +kernel
theorem dX11_say_5 : decode cX11_say 5 = .ok (.getfield 328, 3) := by decide +kernel
theorem dX11_say_8 : decode cX11_say 8 = .ok (.lmul, 1) := by decide +kernel
theorem dX11_say_9 : decode cX11_say 9 = .ok (.lload_n 1, 1) := by decide +kernel
theorem dX11_say_10 : decode cX11_say 10 = .ok (.ladd, 1) := by decide +kernel
theorem dX11_say_11 : decode cX11_say 11 = .ok (.putfield 328, 3) := by decide +kernel
theorem dX11_say_14 : decode cX11_say 14 = .ok (.return_, 1) := by decide +kernel
theorem dX11_sayTune_0 : decode cX11_sayTune 0 = .ok (.iconst 0, 1) := by decide +kernel
theorem dX11_sayTune_1 : decode cX11_sayTune 1 = .ok (.istore_n 2, 1) := by decide +kernel
theorem dX11_sayTune_2 : decode cX11_sayTune 2 = .ok (.iload_n 2, 1) := by decide +kernel
theorem dX11_sayTune_3 : decode cX11_sayTune 3 = .ok (.bipush 18, 2) := by decide +kernel
theorem dX11_sayTune_5 : decode cX11_sayTune 5 = .ok (.if_icmp .ge 31, 3) := by decide +kernel
theorem dX11_sayTune_8 : decode cX11_sayTune 8 = .ok (.iload_n 2, 1) := by decide +kernel
theorem dX11_sayTune_9 : decode cX11_sayTune 9 = .ok (.iconst 5, 1) := by decide +kernel
theorem dX11_sayTune_10 : decode cX11_sayTune 10 = .ok (.if_icmp .lt 9, 3) := by decide +kernel
theorem dX11_sayTune_13 : decode cX11_sayTune 13 = .ok (.iload_n 2, 1) := by decide +kernel
theorem dX11_sayTune_14 : decode cX11_sayTune 14 = .ok (.bipush 9, 2) := by decide +kernel
theorem dX11_sayTune_16 : decode cX11_sayTune 16 = .ok (.if_icmp .le 14, 3) := by decide +kernel
theorem dX11_sayTune_19 : decode cX11_sayTune 19 = .ok (.aload_n 0, 1) := by decide +kernel
theorem dX11_sayTune_20 : decode cX11_sayTune 20 = .ok (.aload_n 0, 1) := by decide +kernel
theorem dX11_sayTune_21 : decode cX11_sayTune 21 = .ok (.iload_n 1, 1) := by decide +kernel
theorem dX11_sayTune_22 : decode cX11_sayTune 22 = .ok (.iload_n 2, 1) := by decide +kernel
theorem dX11_sayTune_23 : decode cX11_sayTune 23 = .ok (.invokevirtual 175, 3) := by decide +kernel
theorem dX11_sayTune_26 : decode cX11_sayTune 26 = .ok (.i2l, 1) := by decide +kernel
theorem dX11_sayTune_27 : decode cX11_sayTune 27 = .ok (.invokevirtual 332, 3) := by decide +kernel
theorem dX11_sayTune_30 : decode cX11_sayTune 30 = .ok (.iinc 2 1, 3) := by decide +kernel
theorem dX11_sayTune_33 : decode cX11_sayTune 33 = .ok (.goto (-31), 3) := by decide +kernel
theorem dX11_sayTune_36 : decode cX11_sayTune 36 = .ok (.return_, 1) := by decide +kernel
theorem dX11_digest_0 : decode cX11_digest 0 = .ok (.aload_n 0, 1) := by decide +kernel
theorem dX11_digest_1 : decode cX11_digest 1 = .ok (.ldc2_w 336, 3) := by decide +kernel
theorem dX11_digest_4 : decode cX11_digest 4 = .ok (.putfield 328, 3) := by decide +kernel
theorem dX11_digest_7 : decode cX11_digest 7 = .ok (.iconst 0, 1) := by decide +kernel
theorem dX11_digest_8 : decode cX11_digest 8 = .ok (.istore_n 1, 1) := by decide +kernel
theorem dX11_digest_9 : decode cX11_digest 9 = .ok (.iload_n 1, 1) := by decide +kernel
theorem dX11_digest_10 : decode cX11_digest 10 = .ok (.aload_n 0, 1) := by decide +kernel
theorem dX11_digest_11 : decode cX11_digest 11 = .ok (.getfield 108, 3) := by decide +kernel
theorem dX11_digest_14 : decode cX11_digest 14 = .ok (.if_icmp .ge 72, 3) := by decide +kernel
theorem dX11_digest_17 : decode cX11_digest 17 = .ok (.iconst 0, 1) := by decide +kernel
theorem dX11_digest_18 : decode cX11_digest 18 = .ok (.istore_n 2, 1) := by decide +kernel
theorem dX11_digest_19 : decode cX11_digest 19 = .ok (.iload_n 2, 1) := by decide +kernel
theorem dX11_digest_20 : decode cX11_digest 20 = .ok (.bipush 9, 2) := by decide +kernel
theorem dX11_digest_22 : decode cX11_digest 22 = .ok (.if_icmp .ge 20, 3) := by decide +kernel
theorem dX11_digest_25 : decode cX11_digest 25 = .ok (.aload_n 0, 1) := by decide +kernel
theorem dX11_digest_26 : decode cX11_digest 26 = .ok (.aload_n 0, 1) := by decide +kernel
theorem dX11_digest_27 : decode cX11_digest 27 = .ok (.iload_n 1, 1) := by decide +kernel
theorem dX11_digest_28 : decode cX11_digest 28 = .ok (.iload_n 2, 1) := by decide +kernel
theorem dX11_digest_29 : decode cX11_digest 29 = .ok (.invokevirtual 219, 3) := by decide +kernel
theorem dX11_digest_32 : decode cX11_digest 32 = .ok (.i2l, 1) := by decide +kernel
theorem dX11_digest_33 : decode cX11_digest 33 = .ok (.invokevirtual 332, 3) := by decide +kernel
theorem dX11_digest_36 : decode cX11_digest 36 = .ok (.iinc 2 1, 3) := by decide +kernel
theorem dX11_digest_39 : decode cX11_digest 39 = .ok (.goto (-20), 3) := by decide +kernel
theorem dX11_digest_42 : decode cX11_digest 42 = .ok (.iconst 0, 1) := by decide +kernel
theorem dX11_digest_43 : decode cX11_digest 43 = .ok (.istore_n 2, 1) := by decide +kernel
theorem dX11_digest_44 : decode cX11_digest 44 = .ok (.iload_n 2, 1) := by decide +kernel
theorem dX11_digest_45 : decode cX11_digest 45 = .ok (.bipush 12, 2) := by decide +kernel
theorem dX11_digest_47 : decode cX11_digest 47 = .ok (.if_icmp .ge 33, 3) := by decide +kernel
theorem dX11_digest_50 : decode cX11_digest 50 = .ok (.aload_n 0, 1) := by decide +kernel
theorem dX11_digest_51 : decode cX11_digest 51 = .ok (.aload_n 0, 1) := by decide +kernel
theorem dX11_digest_52 : decode cX11_digest 52 = .ok (.aload_n 0, 1) := by decide +kernel
theorem dX11_digest_53 : decode cX11_digest 53 = .ok (.getfield 13, 3) := by decide +kernel
theorem dX11_digest_56 : decode cX11_digest 56 = .ok (.iconst 3, 1) := by decide +kernel
theorem dX11_digest_57 : decode cX11_digest 57 = .ok (.iload_n 1, 1) := by decide +kernel
theorem dX11_digest_58 : decode cX11_digest 58 = .ok (.imul, 1) := by decide +kernel
theorem dX11_digest_59 : decode cX11_digest 59 = .ok (.iaload, 1) := by decide +kernel
theorem dX11_digest_60 : decode cX11_digest 60 = .ok (.aload_n 0, 1) := by decide +kernel
theorem dX11_digest_61 : decode cX11_digest 61 = .ok (.getfield 16, 3) := by decide +kernel
theorem dX11_digest_64 : decode cX11_digest 64 = .ok (.iload_n 1, 1) := by decide +kernel
theorem dX11_digest_65 : decode cX11_digest 65 = .ok (.iaload, 1) := by decide +kernel
theorem dX11_digest_66 : decode cX11_digest 66 = .ok (.iload_n 2, 1) := by decide +kernel
theorem dX11_digest_67 : decode cX11_digest 67 = .ok (.invokevirtual 191, 3) := by decide +kernel
theorem dX11_digest_70 : decode cX11_digest 70 = .ok (.i2l, 1) := by decide +kernel
theorem dX11_digest_71 : decode cX11_digest 71 = .ok (.invokevirtual 332, 3) := by decide +kernel
theorem dX11_digest_74 : decode cX11_digest 74 = .ok (.iinc 2 1, 3) := by decide +kernel
theorem dX11_digest_77 : decode cX11_digest 77 = .ok (.goto (-33), 3) := by decide +kernel
theorem dX11_digest_80 : decode cX11_digest 80 = .ok (.iinc 1 1, 3) := by decide +kernel
theorem dX11_digest_83 : decode cX11_digest 83 = .ok (.goto (-74), 3) := by decide +kernel
theorem dX11_digest_86 : decode cX11_digest 86 = .ok (.iconst 0, 1) := by decide +kernel
theorem dX11_digest_87 : decode cX11_digest 87 = .ok (.istore_n 1, 1) := by decide +kernel
theorem dX11_digest_88 : decode cX11_digest 88 = .ok (.iload_n 1, 1) := by decide +kernel
theorem dX11_digest_89 : decode cX11_digest 89 = .ok (.iconst 2, 1) := by decide +kernel
theorem dX11_digest_90 : decode cX11_digest 90 = .ok (.if_icmp .ge 22, 3) := by decide +kernel
theorem dX11_digest_93 : decode cX11_digest 93 = .ok (.aload_n 0, 1) := by decide +kernel
theorem dX11_digest_94 : decode cX11_digest 94 = .ok (.iload_n 1, 1) := by decide +kernel
theorem dX11_digest_95 : decode cX11_digest 95 = .ok (.invokevirtual 172, 3) := by decide +kernel
theorem dX11_digest_98 : decode cX11_digest 98 = .ok (.ifCond .eq 8, 3) := by decide +kernel
theorem dX11_digest_101 : decode cX11_digest 101 = .ok (.aload_n 0, 1) := by decide +kernel
theorem dX11_digest_102 : decode cX11_digest 102 = .ok (.iload_n 1, 1) := by decide +kernel
theorem dX11_digest_103 : decode cX11_digest 103 = .ok (.invokevirtual 338, 3) := by decide +kernel
theorem dX11_digest_106 : decode cX11_digest 106 = .ok (.iinc 1 1, 3) := by decide +kernel
theorem dX11_digest_109 : decode cX11_digest 109 = .ok (.goto (-21), 3) := by decide +kernel
theorem dX11_digest_112 : decode cX11_digest 112 = .ok (.aload_n 0, 1) := by decide +kernel
theorem dX11_digest_113 : decode cX11_digest 113 = .ok (.invokevirtual 234, 3) := by decide +kernel
theorem dX11_digest_116 : decode cX11_digest 116 = .ok (.ifCond .ne 29, 3) := by decide +kernel
theorem dX11_digest_119 : decode cX11_digest 119 = .ok (.aload_n 0, 1) := by decide +kernel
theorem dX11_digest_120 : decode cX11_digest 120 = .ok (.invokevirtual 251, 3) := by decide +kernel
theorem dX11_digest_123 : decode cX11_digest 123 = .ok (.ifCond .eq 22, 3) := by decide +kernel
theorem dX11_digest_126 : decode cX11_digest 126 = .ok (.aload_n 0, 1) := by decide +kernel
theorem dX11_digest_127 : decode cX11_digest 127 = .ok (.aload_n 0, 1) := by decide +kernel
theorem dX11_digest_128 : decode cX11_digest 128 = .ok (.iconst 2, 1) := by decide +kernel
theorem dX11_digest_129 : decode cX11_digest 129 = .ok (.invokevirtual 269, 3) := by decide +kernel
theorem dX11_digest_132 : decode cX11_digest 132 = .ok (.i2l, 1) := by decide +kernel
theorem dX11_digest_133 : decode cX11_digest 133 = .ok (.invokevirtual 332, 3) := by decide +kernel
theorem dX11_digest_136 : decode cX11_digest 136 = .ok (.aload_n 0, 1) := by decide +kernel
theorem dX11_digest_137 : decode cX11_digest 137 = .ok (.aload_n 0, 1) := by decide +kernel
theorem dX11_digest_138 : decode cX11_digest 138 = .ok (.invokevirtual 276, 3) := by decide +kernel
theorem dX11_digest_141 : decode cX11_digest 141 = .ok (.i2l, 1) := by decide +kernel
theorem dX11_digest_142 : decode cX11_digest 142 = .ok (.invokevirtual 332, 3) := by decide +kernel
theorem dX11_digest_145 : decode cX11_digest 145 = .ok (.iconst 0, 1) := by decide +kernel
theorem dX11_digest_146 : decode cX11_digest 146 = .ok (.istore_n 1, 1) := by decide +kernel
theorem dX11_digest_147 : decode cX11_digest 147 = .ok (.iload_n 1, 1) := by decide +kernel
theorem dX11_digest_148 : decode cX11_digest 148 = .ok (.aload_n 0, 1) := by decide +kernel
theorem dX11_digest_149 : decode cX11_digest 149 = .ok (.getfield 77, 3) := by decide +kernel
theorem dX11_digest_152 : decode cX11_digest 152 = .ok (.if_icmp .ge 20, 3) := by decide +kernel
theorem dX11_digest_155 : decode cX11_digest 155 = .ok (.aload_n 0, 1) := by decide +kernel
theorem dX11_digest_156 : decode cX11_digest 156 = .ok (.aload_n 0, 1) := by decide +kernel
theorem dX11_digest_157 : decode cX11_digest 157 = .ok (.getfield 7, 3) := by decide +kernel
theorem dX11_digest_160 : decode cX11_digest 160 = .ok (.iload_n 1, 1) := by decide +kernel
theorem dX11_digest_161 : decode cX11_digest 161 = .ok (.iaload, 1) := by decide +kernel
theorem dX11_digest_162 : decode cX11_digest 162 = .ok (.i2l, 1) := by decide +kernel
theorem dX11_digest_163 : decode cX11_digest 163 = .ok (.invokevirtual 332, 3) := by decide +kernel
theorem dX11_digest_166 : decode cX11_digest 166 = .ok (.iinc 1 1, 3) := by decide +kernel
theorem dX11_digest_169 : decode cX11_digest 169 = .ok (.goto (-22), 3) := by decide +kernel
theorem dX11_digest_172 : decode cX11_digest 172 = .ok (.iconst 0, 1) := by decide +kernel
theorem dX11_digest_173 : decode cX11_digest 173 = .ok (.istore_n 1, 1) := by decide +kernel
theorem dX11_digest_174 : decode cX11_digest 174 = .ok (.iload_n 1, 1) := by decide +kernel
theorem dX11_digest_175 : decode cX11_digest 175 = .ok (.bipush 13, 2) := by decide +kernel
theorem dX11_digest_177 : decode cX11_digest 177 = .ok (.if_icmp .ge 19, 3) := by decide +kernel
theorem dX11_digest_180 : decode cX11_digest 180 = .ok (.aload_n 0, 1) := by decide +kernel
theorem dX11_digest_181 : decode cX11_digest 181 = .ok (.aload_n 0, 1) := by decide +kernel
theorem dX11_digest_182 : decode cX11_digest 182 = .ok (.iload_n 1, 1) := by decide +kernel
theorem dX11_digest_183 : decode cX11_digest 183 = .ok (.invokevirtual 323, 3) := by decide +kernel
theorem dX11_digest_186 : decode cX11_digest 186 = .ok (.i2l, 1) := by decide +kernel
theorem dX11_digest_187 : decode cX11_digest 187 = .ok (.invokevirtual 332, 3) := by decide +kernel
theorem dX11_digest_190 : decode cX11_digest 190 = .ok (.iinc 1 1, 3) := by decide +kernel
theorem dX11_digest_193 : decode cX11_digest 193 = .ok (.goto (-19), 3) := by decide +kernel
theorem dX11_digest_196 : decode cX11_digest 196 = .ok (.aload_n 0, 1) := by decide +kernel
theorem dX11_digest_197 : decode cX11_digest 197 = .ok (.getfield 328, 3) := by decide +kernel
theorem dX11_digest_200 : decode cX11_digest 200 = .ok (.lreturn, 1) := by decide +kernel
theorem dJ9_abs_0f7a4_0 : decode cJ9_abs_0f7a4 0 = .ok (.iload_n 0, 1) := by decide +kernel
theorem dJ9_abs_0f7a4_1 : decode cJ9_abs_0f7a4 1 = .ok (.ifCond .ge 8, 3) := by decide +kernel
theorem dJ9_abs_0f7a4_4 : decode cJ9_abs_0f7a4 4 = .ok (.iload_n 0, 1) := by decide +kernel
theorem dJ9_abs_0f7a4_5 : decode cJ9_abs_0f7a4 5 = .ok (.ineg, 1) := by decide +kernel
theorem dJ9_abs_0f7a4_6 : decode cJ9_abs_0f7a4 6 = .ok (.goto 4, 3) := by decide +kernel
theorem dJ9_abs_0f7a4_9 : decode cJ9_abs_0f7a4 9 = .ok (.iload_n 0, 1) := by decide +kernel
theorem dJ9_abs_0f7a4_10 : decode cJ9_abs_0f7a4 10 = .ok (.ireturn, 1) := by decide +kernel
theorem dJ9_max_7cf53_0 : decode cJ9_max_7cf53 0 = .ok (.iload_n 0, 1) := by decide +kernel
theorem dJ9_max_7cf53_1 : decode cJ9_max_7cf53 1 = .ok (.iload_n 1, 1) := by decide +kernel
theorem dJ9_max_7cf53_2 : decode cJ9_max_7cf53 2 = .ok (.if_icmp .lt 7, 3) := by decide +kernel
theorem dJ9_max_7cf53_5 : decode cJ9_max_7cf53 5 = .ok (.iload_n 0, 1) := by decide +kernel
theorem dJ9_max_7cf53_6 : decode cJ9_max_7cf53 6 = .ok (.goto 4, 3) := by decide +kernel
theorem dJ9_max_7cf53_9 : decode cJ9_max_7cf53 9 = .ok (.iload_n 1, 1) := by decide +kernel
theorem dJ9_max_7cf53_10 : decode cJ9_max_7cf53 10 = .ok (.ireturn, 1) := by decide +kernel
theorem dJ9_min_7cf53_0 : decode cJ9_min_7cf53 0 = .ok (.iload_n 0, 1) := by decide +kernel
theorem dJ9_min_7cf53_1 : decode cJ9_min_7cf53 1 = .ok (.iload_n 1, 1) := by decide +kernel
theorem dJ9_min_7cf53_2 : decode cJ9_min_7cf53 2 = .ok (.if_icmp .gt 7, 3) := by decide +kernel
theorem dJ9_min_7cf53_5 : decode cJ9_min_7cf53 5 = .ok (.iload_n 0, 1) := by decide +kernel
theorem dJ9_min_7cf53_6 : decode cJ9_min_7cf53 6 = .ok (.goto 4, 3) := by decide +kernel
theorem dJ9_min_7cf53_9 : decode cJ9_min_7cf53 9 = .ok (.iload_n 1, 1) := by decide +kernel
theorem dJ9_min_7cf53_10 : decode cJ9_min_7cf53 10 = .ok (.ireturn, 1) := by decide +kernel
theorem dJ0_length_8abf5_0 : decode cJ0_length_8abf5 0 = .ok (.aload_n 0, 1) := by decide +kernel
theorem dJ0_length_8abf5_1 : decode cJ0_length_8abf5 1 = .ok (.getfield 9, 3) := by decide +kernel
theorem dJ0_length_8abf5_4 : decode cJ0_length_8abf5 4 = .ok (.arraylength, 1) := by decide +kernel
theorem dJ0_length_8abf5_5 : decode cJ0_length_8abf5 5 = .ok (.aload_n 0, 1) := by decide +kernel
theorem dJ0_length_8abf5_6 : decode cJ0_length_8abf5 6 = .ok (.invokevirtual 335, 3) := by decide +kernel
theorem dJ0_length_8abf5_9 : decode cJ0_length_8abf5 9 = .ok (.ishr, 1) := by decide +kernel
theorem dJ0_length_8abf5_10 : decode cJ0_length_8abf5 10 = .ok (.ireturn, 1) := by decide +kernel
theorem dJ0_indexOf_0f7a4_0 : decode cJ0_indexOf_0f7a4 0 = .ok (.aload_n 0, 1) := by decide +kernel
theorem dJ0_indexOf_0f7a4_1 : decode cJ0_indexOf_0f7a4 1 = .ok (.iload_n 1, 1) := by decide +kernel
theorem dJ0_indexOf_0f7a4_2 : decode cJ0_indexOf_0f7a4 2 = .ok (.iconst 0, 1) := by decide +kernel
theorem dJ0_indexOf_0f7a4_3 : decode cJ0_indexOf_0f7a4 3 = .ok (.invokevirtual 633, 3) := by decide +kernel
theorem dJ0_indexOf_0f7a4_6 : decode cJ0_indexOf_0f7a4 6 = .ok (.ireturn, 1) := by decide +kernel
theorem dJ0_indexOf_7cf53_0 : decode cJ0_indexOf_7cf53 0 = .ok (.aload_n 0, 1) := by decide +kernel
theorem dJ0_indexOf_7cf53_1 : decode cJ0_indexOf_7cf53 1 = .ok (.invokevirtual 492, 3) := by decide +kernel
theorem dJ0_indexOf_7cf53_4 : decode cJ0_indexOf_7cf53 4 = .ok (.ifCond .eq 19, 3) := by decide +kernel
theorem dJ0_indexOf_7cf53_7 : decode cJ0_indexOf_7cf53 7 = .ok (.aload_n 0, 1) := by decide +kernel
theorem dJ0_indexOf_7cf53_8 : decode cJ0_indexOf_7cf53 8 = .ok (.getfield 9, 3) := by decide +kernel
theorem dJ0_indexOf_7cf53_11 : decode cJ0_indexOf_7cf53 11 = .ok (.iload_n 1, 1) := by decide +kernel
theorem dJ0_indexOf_7cf53_12 : decode cJ0_indexOf_7cf53 12 = .ok (.iload_n 2, 1) := by decide +kernel
theorem dJ0_indexOf_7cf53_13 : decode cJ0_indexOf_7cf53 13 = .ok (.aload_n 0, 1) := by decide +kernel
theorem dJ0_indexOf_7cf53_14 : decode cJ0_indexOf_7cf53 14 = .ok (.invokevirtual 505, 3) := by decide +kernel
theorem dJ0_indexOf_7cf53_17 : decode cJ0_indexOf_7cf53 17 = .ok (.invokestatic 637, 3) := by decide +kernel
theorem dJ0_indexOf_7cf53_20 : decode cJ0_indexOf_7cf53 20 = .ok (.goto 16, 3) := by decide +kernel
theorem dJ0_indexOf_7cf53_23 : decode cJ0_indexOf_7cf53 23 = .ok (.aload_n 0, 1) := by decide +kernel
theorem dJ0_indexOf_7cf53_24 : decode cJ0_indexOf_7cf53 24 = .ok (.getfield 9, 3) := by decide +kernel
theorem dJ0_indexOf_7cf53_27 : decode cJ0_indexOf_7cf53 27 = .ok (.iload_n 1, 1) := by decide +kernel
theorem dJ0_indexOf_7cf53_28 : decode cJ0_indexOf_7cf53 28 = .ok (.iload_n 2, 1) := by decide +kernel
theorem dJ0_indexOf_7cf53_29 : decode cJ0_indexOf_7cf53 29 = .ok (.aload_n 0, 1) := by decide +kernel
theorem dJ0_indexOf_7cf53_30 : decode cJ0_indexOf_7cf53 30 = .ok (.invokevirtual 505, 3) := by decide +kernel
theorem dJ0_indexOf_7cf53_33 : decode cJ0_indexOf_7cf53 33 = .ok (.invokestatic 640, 3) := by decide +kernel
theorem dJ0_indexOf_7cf53_36 : decode cJ0_indexOf_7cf53 36 = .ok (.ireturn, 1) := by decide +kernel
theorem dJ0_coder_7d493_0 : decode cJ0_coder_7d493 0 = .ok (.getstatic 38, 3) := by decide +kernel
theorem dJ0_coder_7d493_3 : decode cJ0_coder_7d493 3 = .ok (.ifCond .eq 10, 3) := by decide +kernel
theorem dJ0_coder_7d493_6 : decode cJ0_coder_7d493 6 = .ok (.aload_n 0, 1) := by decide +kernel
theorem dJ0_coder_7d493_7 : decode cJ0_coder_7d493 7 = .ok (.getfield 15, 3) := by decide +kernel
theorem dJ0_coder_7d493_10 : decode cJ0_coder_7d493 10 = .ok (.goto 4, 3) := by decide +kernel
theorem dJ0_coder_7d493_13 : decode cJ0_coder_7d493 13 = .ok (.iconst 1, 1) := by decide +kernel
theorem dJ0_coder_7d493_14 : decode cJ0_coder_7d493 14 = .ok (.ireturn, 1) := by decide +kernel
theorem dJ0_isLatin1_aae02_0 : decode cJ0_isLatin1_aae02 0 = .ok (.getstatic 38, 3) := by decide +kernel
theorem dJ0_isLatin1_aae02_3 : decode cJ0_isLatin1_aae02 3 = .ok (.ifCond .eq 14, 3) := by decide +kernel
theorem dJ0_isLatin1_aae02_6 : decode cJ0_isLatin1_aae02 6 = .ok (.aload_n 0, 1) := by decide +kernel
theorem dJ0_isLatin1_aae02_7 : decode cJ0_isLatin1_aae02 7 = .ok (.getfield 15, 3) := by decide +kernel
theorem dJ0_isLatin1_aae02_10 : decode cJ0_isLatin1_aae02 10 = .ok (.ifCond .ne 7, 3) := by decide +kernel
theorem dJ0_isLatin1_aae02_13 : decode cJ0_isLatin1_aae02 13 = .ok (.iconst 1, 1) := by decide +kernel
theorem dJ0_isLatin1_aae02_14 : decode cJ0_isLatin1_aae02 14 = .ok (.goto 4, 3) := by decide +kernel
theorem dJ0_isLatin1_aae02_17 : decode cJ0_isLatin1_aae02 17 = .ok (.iconst 0, 1) := by decide +kernel
theorem dJ0_isLatin1_aae02_18 : decode cJ0_isLatin1_aae02 18 = .ok (.ireturn, 1) := by decide +kernel
theorem dJ0_checkBoundsBeginEnd_23922_0 : decode cJ0_checkBoundsBeginEnd_23922 0 = .ok (.iload_n 0, 1) := by decide +kernel
theorem dJ0_checkBoundsBeginEnd_23922_1 : decode cJ0_checkBoundsBeginEnd_23922 1 = .ok (.iload_n 1, 1) := by decide +kernel
theorem dJ0_checkBoundsBeginEnd_23922_2 : decode cJ0_checkBoundsBeginEnd_23922 2 = .ok (.iload_n 2, 1) := by decide +kernel
theorem dJ0_checkBoundsBeginEnd_23922_3 : decode cJ0_checkBoundsBeginEnd_23922 3 = .ok (.getstatic 1053, 3) := by decide +kernel
theorem dJ0_checkBoundsBeginEnd_23922_6 : decode cJ0_checkBoundsBeginEnd_23922 6 = .ok (.invokestatic 1062, 3) := by decide +kernel
theorem dJ0_checkBoundsBeginEnd_23922_9 : decode cJ0_checkBoundsBeginEnd_23922 9 = .ok (.pop, 1) := by decide +kernel
theorem dJ0_checkBoundsBeginEnd_23922_10 : decode cJ0_checkBoundsBeginEnd_23922 10 = .ok (.return_, 1) := by decide +kernel
theorem dJ1_canEncode_9a6ad_0 : decode cJ1_canEncode_9a6ad 0 = .ok (.iload_n 0, 1) := by decide +kernel
theorem dJ1_canEncode_9a6ad_1 : decode cJ1_canEncode_9a6ad 1 = .ok (.ifCond .lt 14, 3) := by decide +kernel
theorem dJ1_canEncode_9a6ad_4 : decode cJ1_canEncode_9a6ad 4 = .ok (.iload_n 0, 1) := by decide +kernel
theorem dJ1_canEncode_9a6ad_5 : decode cJ1_canEncode_9a6ad 5 = .ok (.sipush 255, 3) := by decide +kernel
theorem dJ1_canEncode_9a6ad_8 : decode cJ1_canEncode_9a6ad 8 = .ok (.if_icmp .gt 7, 3) := by decide +kernel
theorem dJ1_canEncode_9a6ad_11 : decode cJ1_canEncode_9a6ad 11 = .ok (.iconst 1, 1) := by decide +kernel
theorem dJ1_canEncode_9a6ad_12 : decode cJ1_canEncode_9a6ad 12 = .ok (.goto 4, 3) := by decide +kernel
theorem dJ1_canEncode_9a6ad_15 : decode cJ1_canEncode_9a6ad 15 = .ok (.iconst 0, 1) := by decide +kernel
theorem dJ1_canEncode_9a6ad_16 : decode cJ1_canEncode_9a6ad 16 = .ok (.ireturn, 1) := by decide +kernel
theorem dJ1_indexOf_4cfef_0 : decode cJ1_indexOf_4cfef 0 = .ok (.iload_n 1, 1) := by decide +kernel
theorem dJ1_indexOf_4cfef_1 : decode cJ1_indexOf_4cfef 1 = .ok (.invokestatic 88, 3) := by decide +kernel
theorem dJ1_indexOf_4cfef_4 : decode cJ1_indexOf_4cfef 4 = .ok (.ifCond .ne 5, 3) := by decide +kernel
theorem dJ1_indexOf_4cfef_7 : decode cJ1_indexOf_4cfef 7 = .ok (.iconst (-1), 1) := by decide +kernel
theorem dJ1_indexOf_4cfef_8 : decode cJ1_indexOf_4cfef 8 = .ok (.ireturn, 1) := by decide +kernel
theorem dJ1_indexOf_4cfef_9 : decode cJ1_indexOf_4cfef 9 = .ok (.iload_n 2, 1) := by decide +kernel
theorem dJ1_indexOf_4cfef_10 : decode cJ1_indexOf_4cfef 10 = .ok (.iconst 0, 1) := by decide +kernel
theorem dJ1_indexOf_4cfef_11 : decode cJ1_indexOf_4cfef 11 = .ok (.invokestatic 92, 3) := by decide +kernel
theorem dJ1_indexOf_4cfef_14 : decode cJ1_indexOf_4cfef 14 = .ok (.istore_n 2, 1) := by decide +kernel
theorem dJ1_indexOf_4cfef_15 : decode cJ1_indexOf_4cfef 15 = .ok (.iload_n 3, 1) := by decide +kernel
theorem dJ1_indexOf_4cfef_16 : decode cJ1_indexOf_4cfef 16 = .ok (.aload_n 0, 1) := by decide +kernel
theorem dJ1_indexOf_4cfef_17 : decode cJ1_indexOf_4cfef 17 = .ok (.arraylength, 1) := by decide +kernel
theorem dJ1_indexOf_4cfef_18 : decode cJ1_indexOf_4cfef 18 = .ok (.invokestatic 38, 3) := by decide +kernel
theorem dJ1_indexOf_4cfef_21 : decode cJ1_indexOf_4cfef 21 = .ok (.istore_n 3, 1) := by decide +kernel
theorem dJ1_indexOf_4cfef_22 : decode cJ1_indexOf_4cfef 22 = .ok (.iload_n 2, 1) := by decide +kernel
theorem dJ1_indexOf_4cfef_23 : decode cJ1_indexOf_4cfef 23 = .ok (.iload_n 3, 1) := by decide +kernel
theorem dJ1_indexOf_4cfef_24 : decode cJ1_indexOf_4cfef 24 = .ok (.if_icmp .lt 5, 3) := by decide +kernel
theorem dJ1_indexOf_4cfef_27 : decode cJ1_indexOf_4cfef 27 = .ok (.iconst (-1), 1) := by decide +kernel
theorem dJ1_indexOf_4cfef_28 : decode cJ1_indexOf_4cfef 28 = .ok (.ireturn, 1) := by decide +kernel
theorem dJ1_indexOf_4cfef_29 : decode cJ1_indexOf_4cfef 29 = .ok (.aload_n 0, 1) := by decide +kernel
theorem dJ1_indexOf_4cfef_30 : decode cJ1_indexOf_4cfef 30 = .ok (.iload_n 1, 1) := by decide +kernel
theorem dJ1_indexOf_4cfef_31 : decode cJ1_indexOf_4cfef 31 = .ok (.iload_n 2, 1) := by decide +kernel
theorem dJ1_indexOf_4cfef_32 : decode cJ1_indexOf_4cfef 32 = .ok (.iload_n 3, 1) := by decide +kernel
theorem dJ1_indexOf_4cfef_33 : decode cJ1_indexOf_4cfef 33 = .ok (.invokestatic 95, 3) := by decide +kernel
theorem dJ1_indexOf_4cfef_36 : decode cJ1_indexOf_4cfef 36 = .ok (.ireturn, 1) := by decide +kernel
theorem dJ1_indexOfChar_4cfef_0 : decode cJ1_indexOfChar_4cfef 0 = .ok (.iload_n 1, 1) := by decide +kernel
theorem dJ1_indexOfChar_4cfef_1 : decode cJ1_indexOfChar_4cfef 1 = .ok (.i2b, 1) := by decide +kernel
theorem dJ1_indexOfChar_4cfef_2 : decode cJ1_indexOfChar_4cfef 2 = .ok (.istore 4, 2) := by decide +kernel
theorem dJ1_indexOfChar_4cfef_4 : decode cJ1_indexOfChar_4cfef 4 = .ok (.iload_n 2, 1) := by decide +kernel
theorem dJ1_indexOfChar_4cfef_5 : decode cJ1_indexOfChar_4cfef 5 = .ok (.istore 5, 2) := by decide +kernel
theorem dJ1_indexOfChar_4cfef_7 : decode cJ1_indexOfChar_4cfef 7 = .ok (.iload 5, 2) := by decide +kernel
theorem dJ1_indexOfChar_4cfef_9 : decode cJ1_indexOfChar_4cfef 9 = .ok (.iload_n 3, 1) := by decide +kernel
theorem dJ1_indexOfChar_4cfef_10 : decode cJ1_indexOfChar_4cfef 10 = .ok (.if_icmp .ge 21, 3) := by decide +kernel
theorem dJ1_indexOfChar_4cfef_13 : decode cJ1_indexOfChar_4cfef 13 = .ok (.aload_n 0, 1) := by decide +kernel
theorem dJ1_indexOfChar_4cfef_14 : decode cJ1_indexOfChar_4cfef 14 = .ok (.iload 5, 2) := by decide +kernel
theorem dJ1_indexOfChar_4cfef_16 : decode cJ1_indexOfChar_4cfef 16 = .ok (.baload, 1) := by decide +kernel
theorem dJ1_indexOfChar_4cfef_17 : decode cJ1_indexOfChar_4cfef 17 = .ok (.iload 4, 2) := by decide +kernel
theorem dJ1_indexOfChar_4cfef_19 : decode cJ1_indexOfChar_4cfef 19 = .ok (.if_icmp .ne 6, 3) := by decide +kernel
theorem dJ1_indexOfChar_4cfef_22 : decode cJ1_indexOfChar_4cfef 22 = .ok (.iload 5, 2) := by decide +kernel
theorem dJ1_indexOfChar_4cfef_24 : decode cJ1_indexOfChar_4cfef 24 = .ok (.ireturn, 1) := by decide +kernel
theorem dJ1_indexOfChar_4cfef_25 : decode cJ1_indexOfChar_4cfef 25 = .ok (.iinc 5 1, 3) := by decide +kernel
theorem dJ1_indexOfChar_4cfef_28 : decode cJ1_indexOfChar_4cfef 28 = .ok (.goto (-21), 3) := by decide +kernel
theorem dJ1_indexOfChar_4cfef_31 : decode cJ1_indexOfChar_4cfef 31 = .ok (.iconst (-1), 1) := by decide +kernel
theorem dJ1_indexOfChar_4cfef_32 : decode cJ1_indexOfChar_4cfef 32 = .ok (.ireturn, 1) := by decide +kernel
theorem dL_law_0 : decode cL_law 0 = .ok (.new 7, 3) := by decide +kernel
theorem dL_law_3 : decode cL_law 3 = .ok (.dup, 1) := by decide +kernel
theorem dL_law_4 : decode cL_law 4 = .ok (.invokespecial 9, 3) := by decide +kernel
theorem dL_law_7 : decode cL_law 7 = .ok (.astore_n 1, 1) := by decide +kernel
theorem dL_law_8 : decode cL_law 8 = .ok (.new 10, 3) := by decide +kernel
theorem dL_law_11 : decode cL_law 11 = .ok (.dup, 1) := by decide +kernel
theorem dL_law_12 : decode cL_law 12 = .ok (.invokespecial 12, 3) := by decide +kernel
theorem dL_law_15 : decode cL_law 15 = .ok (.astore_n 2, 1) := by decide +kernel
theorem dL_law_16 : decode cL_law 16 = .ok (.iconst 0, 1) := by decide +kernel
theorem dL_law_17 : decode cL_law 17 = .ok (.istore_n 3, 1) := by decide +kernel
theorem dL_law_18 : decode cL_law 18 = .ok (.iload_n 3, 1) := by decide +kernel
theorem dL_law_19 : decode cL_law 19 = .ok (.aload_n 0, 1) := by decide +kernel
theorem dL_law_20 : decode cL_law 20 = .ok (.arraylength, 1) := by decide +kernel
theorem dL_law_21 : decode cL_law 21 = .ok (.iconst 4, 1) := by decide +kernel
theorem dL_law_22 : decode cL_law 22 = .ok (.isub, 1) := by decide +kernel
theorem dL_law_23 : decode cL_law 23 = .ok (.if_icmp .gt 717, 3) := by decide +kernel
theorem dL_law_26 : decode cL_law 26 = .ok (.aload_n 0, 1) := by decide +kernel
theorem dL_law_27 : decode cL_law 27 = .ok (.iload_n 3, 1) := by decide +kernel
theorem dL_law_28 : decode cL_law 28 = .ok (.iaload, 1) := by decide +kernel
theorem dL_law_29 : decode cL_law 29 = .ok (.bipush 31, 2) := by decide +kernel
theorem dL_law_31 : decode cL_law 31 = .ok (.iand, 1) := by decide +kernel
theorem dL_law_32 : decode cL_law 32 = .ok (.tableswitch 702 0 24 #[116, 139, 152, 165, 178, 201, 234, 267, 300, 333, 356, 379, 392, 435, 468, 491, 514, 527, 540, 583, 596, 639, 652, 665, 688], 116) := by decide +kernel
theorem dL_law_148 : decode cL_law 148 = .ok (.aload_n 1, 1) := by decide +kernel
theorem dL_law_149 : decode cL_law 149 = .ok (.aload_n 0, 1) := by decide +kernel
theorem dL_law_150 : decode cL_law 150 = .ok (.iload_n 3, 1) := by decide +kernel
theorem dL_law_151 : decode cL_law 151 = .ok (.iconst 1, 1) := by decide +kernel
theorem dL_law_152 : decode cL_law 152 = .ok (.iadd, 1) := by decide +kernel
theorem dL_law_153 : decode cL_law 153 = .ok (.iaload, 1) := by decide +kernel
theorem dL_law_154 : decode cL_law 154 = .ok (.invokevirtual 13, 3) := by decide +kernel
theorem dL_law_157 : decode cL_law 157 = .ok (.aload_n 2, 1) := by decide +kernel
theorem dL_law_158 : decode cL_law 158 = .ok (.aload_n 0, 1) := by decide +kernel
theorem dL_law_159 : decode cL_law 159 = .ok (.iload_n 3, 1) := by decide +kernel
theorem dL_law_160 : decode cL_law 160 = .ok (.iconst 1, 1) := by decide +kernel
theorem dL_law_161 : decode cL_law 161 = .ok (.iadd, 1) := by decide +kernel
theorem dL_law_162 : decode cL_law 162 = .ok (.iaload, 1) := by decide +kernel
theorem dL_law_163 : decode cL_law 163 = .ok (.invokevirtual 17, 3) := by decide +kernel
theorem dL_law_166 : decode cL_law 166 = .ok (.if_icmp .eq 568, 3) := by decide +kernel
theorem dL_law_169 : decode cL_law 169 = .ok (.iconst 0, 1) := by decide +kernel
theorem dL_law_170 : decode cL_law 170 = .ok (.ireturn, 1) := by decide +kernel
theorem dL_law_171 : decode cL_law 171 = .ok (.aload_n 1, 1) := by decide +kernel
theorem dL_law_172 : decode cL_law 172 = .ok (.invokevirtual 18, 3) := by decide +kernel
theorem dL_law_175 : decode cL_law 175 = .ok (.aload_n 2, 1) := by decide +kernel
theorem dL_law_176 : decode cL_law 176 = .ok (.invokevirtual 22, 3) := by decide +kernel
theorem dL_law_179 : decode cL_law 179 = .ok (.if_icmp .eq 555, 3) := by decide +kernel
theorem dL_law_182 : decode cL_law 182 = .ok (.iconst 0, 1) := by decide +kernel
theorem dL_law_183 : decode cL_law 183 = .ok (.ireturn, 1) := by decide +kernel
theorem dL_law_184 : decode cL_law 184 = .ok (.aload_n 1, 1) := by decide +kernel
theorem dL_law_185 : decode cL_law 185 = .ok (.invokevirtual 23, 3) := by decide +kernel
theorem dL_law_188 : decode cL_law 188 = .ok (.aload_n 2, 1) := by decide +kernel
theorem dL_law_189 : decode cL_law 189 = .ok (.invokevirtual 26, 3) := by decide +kernel
theorem dL_law_192 : decode cL_law 192 = .ok (.if_icmp .eq 542, 3) := by decide +kernel
theorem dL_law_195 : decode cL_law 195 = .ok (.iconst 0, 1) := by decide +kernel
theorem dL_law_196 : decode cL_law 196 = .ok (.ireturn, 1) := by decide +kernel
theorem dL_law_197 : decode cL_law 197 = .ok (.aload_n 1, 1) := by decide +kernel
theorem dL_law_198 : decode cL_law 198 = .ok (.invokevirtual 27, 3) := by decide +kernel
theorem dL_law_201 : decode cL_law 201 = .ok (.aload_n 2, 1) := by decide +kernel
theorem dL_law_202 : decode cL_law 202 = .ok (.invokevirtual 30, 3) := by decide +kernel
theorem dL_law_205 : decode cL_law 205 = .ok (.if_icmp .eq 529, 3) := by decide +kernel
theorem dL_law_208 : decode cL_law 208 = .ok (.iconst 0, 1) := by decide +kernel
theorem dL_law_209 : decode cL_law 209 = .ok (.ireturn, 1) := by decide +kernel
theorem dL_law_210 : decode cL_law 210 = .ok (.aload_n 1, 1) := by decide +kernel
theorem dL_law_211 : decode cL_law 211 = .ok (.aload_n 0, 1) := by decide +kernel
theorem dL_law_212 : decode cL_law 212 = .ok (.iload_n 3, 1) := by decide +kernel
theorem dL_law_213 : decode cL_law 213 = .ok (.iconst 1, 1) := by decide +kernel
theorem dL_law_214 : decode cL_law 214 = .ok (.iadd, 1) := by decide +kernel
theorem dL_law_215 : decode cL_law 215 = .ok (.iaload, 1) := by decide +kernel
theorem dL_law_216 : decode cL_law 216 = .ok (.invokevirtual 31, 3) := by decide +kernel
theorem dL_law_219 : decode cL_law 219 = .ok (.aload_n 2, 1) := by decide +kernel
theorem dL_law_220 : decode cL_law 220 = .ok (.aload_n 0, 1) := by decide +kernel
theorem dL_law_221 : decode cL_law 221 = .ok (.iload_n 3, 1) := by decide +kernel
theorem dL_law_222 : decode cL_law 222 = .ok (.iconst 1, 1) := by decide +kernel
theorem dL_law_223 : decode cL_law 223 = .ok (.iadd, 1) := by decide +kernel
theorem dL_law_224 : decode cL_law 224 = .ok (.iaload, 1) := by decide +kernel
theorem dL_law_225 : decode cL_law 225 = .ok (.invokevirtual 34, 3) := by decide +kernel
theorem dL_law_228 : decode cL_law 228 = .ok (.if_icmp .eq 506, 3) := by decide +kernel
theorem dL_law_231 : decode cL_law 231 = .ok (.iconst 0, 1) := by decide +kernel
theorem dL_law_232 : decode cL_law 232 = .ok (.ireturn, 1) := by decide +kernel
theorem dL_law_233 : decode cL_law 233 = .ok (.aload_n 1, 1) := by decide +kernel
theorem dL_law_234 : decode cL_law 234 = .ok (.aload_n 0, 1) := by decide +kernel
theorem dL_law_235 : decode cL_law 235 = .ok (.iload_n 3, 1) := by decide +kernel
theorem dL_law_236 : decode cL_law 236 = .ok (.iconst 1, 1) := by decide +kernel
theorem dL_law_237 : decode cL_law 237 = .ok (.iadd, 1) := by decide +kernel
theorem dL_law_238 : decode cL_law 238 = .ok (.iaload, 1) := by decide +kernel
theorem dL_law_239 : decode cL_law 239 = .ok (.aload_n 0, 1) := by decide +kernel
theorem dL_law_240 : decode cL_law 240 = .ok (.iload_n 3, 1) := by decide +kernel
theorem dL_law_241 : decode cL_law 241 = .ok (.iconst 2, 1) := by decide +kernel
theorem dL_law_242 : decode cL_law 242 = .ok (.iadd, 1) := by decide +kernel
theorem dL_law_243 : decode cL_law 243 = .ok (.iaload, 1) := by decide +kernel
theorem dL_law_244 : decode cL_law 244 = .ok (.invokevirtual 35, 3) := by decide +kernel
theorem dL_law_247 : decode cL_law 247 = .ok (.aload_n 2, 1) := by decide +kernel
theorem dL_law_248 : decode cL_law 248 = .ok (.aload_n 0, 1) := by decide +kernel
theorem dL_law_249 : decode cL_law 249 = .ok (.iload_n 3, 1) := by decide +kernel
theorem dL_law_250 : decode cL_law 250 = .ok (.iconst 1, 1) := by decide +kernel
theorem dL_law_251 : decode cL_law 251 = .ok (.iadd, 1) := by decide +kernel
theorem dL_law_252 : decode cL_law 252 = .ok (.iaload, 1) := by decide +kernel
theorem dL_law_253 : decode cL_law 253 = .ok (.aload_n 0, 1) := by decide +kernel
theorem dL_law_254 : decode cL_law 254 = .ok (.iload_n 3, 1) := by decide +kernel
theorem dL_law_255 : decode cL_law 255 = .ok (.iconst 2, 1) := by decide +kernel
theorem dL_law_256 : decode cL_law 256 = .ok (.iadd, 1) := by decide +kernel
theorem dL_law_257 : decode cL_law 257 = .ok (.iaload, 1) := by decide +kernel
theorem dL_law_258 : decode cL_law 258 = .ok (.invokevirtual 39, 3) := by decide +kernel
theorem dL_law_261 : decode cL_law 261 = .ok (.if_icmp .eq 473, 3) := by decide +kernel
theorem dL_law_264 : decode cL_law 264 = .ok (.iconst 0, 1) := by decide +kernel
theorem dL_law_265 : decode cL_law 265 = .ok (.ireturn, 1) := by decide +kernel
theorem dL_law_266 : decode cL_law 266 = .ok (.aload_n 1, 1) := by decide +kernel
theorem dL_law_267 : decode cL_law 267 = .ok (.aload_n 0, 1) := by decide +kernel
theorem dL_law_268 : decode cL_law 268 = .ok (.iload_n 3, 1) := by decide +kernel
theorem dL_law_269 : decode cL_law 269 = .ok (.iconst 1, 1) := by decide +kernel
theorem dL_law_270 : decode cL_law 270 = .ok (.iadd, 1) := by decide +kernel
theorem dL_law_271 : decode cL_law 271 = .ok (.iaload, 1) := by decide +kernel
theorem dL_law_272 : decode cL_law 272 = .ok (.aload_n 0, 1) := by decide +kernel
theorem dL_law_273 : decode cL_law 273 = .ok (.iload_n 3, 1) := by decide +kernel
theorem dL_law_274 : decode cL_law 274 = .ok (.iconst 2, 1) := by decide +kernel
theorem dL_law_275 : decode cL_law 275 = .ok (.iadd, 1) := by decide +kernel
theorem dL_law_276 : decode cL_law 276 = .ok (.iaload, 1) := by decide +kernel
theorem dL_law_277 : decode cL_law 277 = .ok (.invokevirtual 40, 3) := by decide +kernel
theorem dL_law_280 : decode cL_law 280 = .ok (.aload_n 2, 1) := by decide +kernel
theorem dL_law_281 : decode cL_law 281 = .ok (.aload_n 0, 1) := by decide +kernel
theorem dL_law_282 : decode cL_law 282 = .ok (.iload_n 3, 1) := by decide +kernel
theorem dL_law_283 : decode cL_law 283 = .ok (.iconst 1, 1) := by decide +kernel
theorem dL_law_284 : decode cL_law 284 = .ok (.iadd, 1) := by decide +kernel
theorem dL_law_285 : decode cL_law 285 = .ok (.iaload, 1) := by decide +kernel
theorem dL_law_286 : decode cL_law 286 = .ok (.aload_n 0, 1) := by decide +kernel
theorem dL_law_287 : decode cL_law 287 = .ok (.iload_n 3, 1) := by decide +kernel
theorem dL_law_288 : decode cL_law 288 = .ok (.iconst 2, 1) := by decide +kernel
theorem dL_law_289 : decode cL_law 289 = .ok (.iadd, 1) := by decide +kernel
theorem dL_law_290 : decode cL_law 290 = .ok (.iaload, 1) := by decide +kernel
theorem dL_law_291 : decode cL_law 291 = .ok (.invokevirtual 43, 3) := by decide +kernel
theorem dL_law_294 : decode cL_law 294 = .ok (.if_icmp .eq 440, 3) := by decide +kernel
theorem dL_law_297 : decode cL_law 297 = .ok (.iconst 0, 1) := by decide +kernel
theorem dL_law_298 : decode cL_law 298 = .ok (.ireturn, 1) := by decide +kernel
theorem dL_law_299 : decode cL_law 299 = .ok (.aload_n 1, 1) := by decide +kernel
theorem dL_law_300 : decode cL_law 300 = .ok (.aload_n 0, 1) := by decide +kernel
theorem dL_law_301 : decode cL_law 301 = .ok (.iload_n 3, 1) := by decide +kernel
theorem dL_law_302 : decode cL_law 302 = .ok (.iconst 1, 1) := by decide +kernel
theorem dL_law_303 : decode cL_law 303 = .ok (.iadd, 1) := by decide +kernel
theorem dL_law_304 : decode cL_law 304 = .ok (.iaload, 1) := by decide +kernel
theorem dL_law_305 : decode cL_law 305 = .ok (.aload_n 0, 1) := by decide +kernel
theorem dL_law_306 : decode cL_law 306 = .ok (.iload_n 3, 1) := by decide +kernel
theorem dL_law_307 : decode cL_law 307 = .ok (.iconst 2, 1) := by decide +kernel
theorem dL_law_308 : decode cL_law 308 = .ok (.iadd, 1) := by decide +kernel
theorem dL_law_309 : decode cL_law 309 = .ok (.iaload, 1) := by decide +kernel
theorem dL_law_310 : decode cL_law 310 = .ok (.invokevirtual 44, 3) := by decide +kernel
theorem dL_law_313 : decode cL_law 313 = .ok (.aload_n 2, 1) := by decide +kernel
theorem dL_law_314 : decode cL_law 314 = .ok (.aload_n 0, 1) := by decide +kernel
theorem dL_law_315 : decode cL_law 315 = .ok (.iload_n 3, 1) := by decide +kernel
theorem dL_law_316 : decode cL_law 316 = .ok (.iconst 1, 1) := by decide +kernel
theorem dL_law_317 : decode cL_law 317 = .ok (.iadd, 1) := by decide +kernel
theorem dL_law_318 : decode cL_law 318 = .ok (.iaload, 1) := by decide +kernel
theorem dL_law_319 : decode cL_law 319 = .ok (.aload_n 0, 1) := by decide +kernel
theorem dL_law_320 : decode cL_law 320 = .ok (.iload_n 3, 1) := by decide +kernel
theorem dL_law_321 : decode cL_law 321 = .ok (.iconst 2, 1) := by decide +kernel
theorem dL_law_322 : decode cL_law 322 = .ok (.iadd, 1) := by decide +kernel
theorem dL_law_323 : decode cL_law 323 = .ok (.iaload, 1) := by decide +kernel
theorem dL_law_324 : decode cL_law 324 = .ok (.invokevirtual 47, 3) := by decide +kernel
theorem dL_law_327 : decode cL_law 327 = .ok (.if_icmp .eq 407, 3) := by decide +kernel
theorem dL_law_330 : decode cL_law 330 = .ok (.iconst 0, 1) := by decide +kernel
theorem dL_law_331 : decode cL_law 331 = .ok (.ireturn, 1) := by decide +kernel
theorem dL_law_332 : decode cL_law 332 = .ok (.aload_n 1, 1) := by decide +kernel
theorem dL_law_333 : decode cL_law 333 = .ok (.aload_n 0, 1) := by decide +kernel
theorem dL_law_334 : decode cL_law 334 = .ok (.iload_n 3, 1) := by decide +kernel
theorem dL_law_335 : decode cL_law 335 = .ok (.iconst 1, 1) := by decide +kernel
theorem dL_law_336 : decode cL_law 336 = .ok (.iadd, 1) := by decide +kernel
theorem dL_law_337 : decode cL_law 337 = .ok (.iaload, 1) := by decide +kernel
theorem dL_law_338 : decode cL_law 338 = .ok (.aload_n 0, 1) := by decide +kernel
theorem dL_law_339 : decode cL_law 339 = .ok (.iload_n 3, 1) := by decide +kernel
theorem dL_law_340 : decode cL_law 340 = .ok (.iconst 2, 1) := by decide +kernel
theorem dL_law_341 : decode cL_law 341 = .ok (.iadd, 1) := by decide +kernel
theorem dL_law_342 : decode cL_law 342 = .ok (.iaload, 1) := by decide +kernel
theorem dL_law_343 : decode cL_law 343 = .ok (.invokevirtual 48, 3) := by decide +kernel
theorem dL_law_346 : decode cL_law 346 = .ok (.aload_n 2, 1) := by decide +kernel
theorem dL_law_347 : decode cL_law 347 = .ok (.aload_n 0, 1) := by decide +kernel
theorem dL_law_348 : decode cL_law 348 = .ok (.iload_n 3, 1) := by decide +kernel
theorem dL_law_349 : decode cL_law 349 = .ok (.iconst 1, 1) := by decide +kernel
theorem dL_law_350 : decode cL_law 350 = .ok (.iadd, 1) := by decide +kernel
theorem dL_law_351 : decode cL_law 351 = .ok (.iaload, 1) := by decide +kernel
theorem dL_law_352 : decode cL_law 352 = .ok (.aload_n 0, 1) := by decide +kernel
theorem dL_law_353 : decode cL_law 353 = .ok (.iload_n 3, 1) := by decide +kernel
theorem dL_law_354 : decode cL_law 354 = .ok (.iconst 2, 1) := by decide +kernel
theorem dL_law_355 : decode cL_law 355 = .ok (.iadd, 1) := by decide +kernel
theorem dL_law_356 : decode cL_law 356 = .ok (.iaload, 1) := by decide +kernel
theorem dL_law_357 : decode cL_law 357 = .ok (.invokevirtual 51, 3) := by decide +kernel
theorem dL_law_360 : decode cL_law 360 = .ok (.if_icmp .eq 374, 3) := by decide +kernel
theorem dL_law_363 : decode cL_law 363 = .ok (.iconst 0, 1) := by decide +kernel
theorem dL_law_364 : decode cL_law 364 = .ok (.ireturn, 1) := by decide +kernel
theorem dL_law_365 : decode cL_law 365 = .ok (.aload_n 1, 1) := by decide +kernel
theorem dL_law_366 : decode cL_law 366 = .ok (.aload_n 0, 1) := by decide +kernel
theorem dL_law_367 : decode cL_law 367 = .ok (.iload_n 3, 1) := by decide +kernel
theorem dL_law_368 : decode cL_law 368 = .ok (.iconst 1, 1) := by decide +kernel
theorem dL_law_369 : decode cL_law 369 = .ok (.iadd, 1) := by decide +kernel
theorem dL_law_370 : decode cL_law 370 = .ok (.iaload, 1) := by decide +kernel
theorem dL_law_371 : decode cL_law 371 = .ok (.invokevirtual 52, 3) := by decide +kernel
theorem dL_law_374 : decode cL_law 374 = .ok (.aload_n 2, 1) := by decide +kernel
theorem dL_law_375 : decode cL_law 375 = .ok (.aload_n 0, 1) := by decide +kernel
theorem dL_law_376 : decode cL_law 376 = .ok (.iload_n 3, 1) := by decide +kernel
theorem dL_law_377 : decode cL_law 377 = .ok (.iconst 1, 1) := by decide +kernel
theorem dL_law_378 : decode cL_law 378 = .ok (.iadd, 1) := by decide +kernel
theorem dL_law_379 : decode cL_law 379 = .ok (.iaload, 1) := by decide +kernel
theorem dL_law_380 : decode cL_law 380 = .ok (.invokevirtual 55, 3) := by decide +kernel
theorem dL_law_383 : decode cL_law 383 = .ok (.if_icmp .eq 351, 3) := by decide +kernel
theorem dL_law_386 : decode cL_law 386 = .ok (.iconst 0, 1) := by decide +kernel
theorem dL_law_387 : decode cL_law 387 = .ok (.ireturn, 1) := by decide +kernel
theorem dL_law_388 : decode cL_law 388 = .ok (.aload_n 1, 1) := by decide +kernel
theorem dL_law_389 : decode cL_law 389 = .ok (.aload_n 0, 1) := by decide +kernel
theorem dL_law_390 : decode cL_law 390 = .ok (.iload_n 3, 1) := by decide +kernel
theorem dL_law_391 : decode cL_law 391 = .ok (.iconst 1, 1) := by decide +kernel
theorem dL_law_392 : decode cL_law 392 = .ok (.iadd, 1) := by decide +kernel
theorem dL_law_393 : decode cL_law 393 = .ok (.iaload, 1) := by decide +kernel
theorem dL_law_394 : decode cL_law 394 = .ok (.invokevirtual 56, 3) := by decide +kernel
theorem dL_law_397 : decode cL_law 397 = .ok (.aload_n 2, 1) := by decide +kernel
theorem dL_law_398 : decode cL_law 398 = .ok (.aload_n 0, 1) := by decide +kernel
theorem dL_law_399 : decode cL_law 399 = .ok (.iload_n 3, 1) := by decide +kernel
theorem dL_law_400 : decode cL_law 400 = .ok (.iconst 1, 1) := by decide +kernel
theorem dL_law_401 : decode cL_law 401 = .ok (.iadd, 1) := by decide +kernel
theorem dL_law_402 : decode cL_law 402 = .ok (.iaload, 1) := by decide +kernel
theorem dL_law_403 : decode cL_law 403 = .ok (.invokevirtual 59, 3) := by decide +kernel
theorem dL_law_406 : decode cL_law 406 = .ok (.if_icmp .eq 328, 3) := by decide +kernel
theorem dL_law_409 : decode cL_law 409 = .ok (.iconst 0, 1) := by decide +kernel
theorem dL_law_410 : decode cL_law 410 = .ok (.ireturn, 1) := by decide +kernel
theorem dL_law_411 : decode cL_law 411 = .ok (.aload_n 1, 1) := by decide +kernel
theorem dL_law_412 : decode cL_law 412 = .ok (.invokevirtual 60, 3) := by decide +kernel
theorem dL_law_415 : decode cL_law 415 = .ok (.aload_n 2, 1) := by decide +kernel
theorem dL_law_416 : decode cL_law 416 = .ok (.invokevirtual 63, 3) := by decide +kernel
theorem dL_law_419 : decode cL_law 419 = .ok (.if_icmp .eq 315, 3) := by decide +kernel
theorem dL_law_422 : decode cL_law 422 = .ok (.iconst 0, 1) := by decide +kernel
theorem dL_law_423 : decode cL_law 423 = .ok (.ireturn, 1) := by decide +kernel
theorem dL_law_424 : decode cL_law 424 = .ok (.aload_n 1, 1) := by decide +kernel
theorem dL_law_425 : decode cL_law 425 = .ok (.aload_n 0, 1) := by decide +kernel
theorem dL_law_426 : decode cL_law 426 = .ok (.iload_n 3, 1) := by decide +kernel
theorem dL_law_427 : decode cL_law 427 = .ok (.iconst 1, 1) := by decide +kernel
theorem dL_law_428 : decode cL_law 428 = .ok (.iadd, 1) := by decide +kernel
theorem dL_law_429 : decode cL_law 429 = .ok (.iaload, 1) := by decide +kernel
theorem dL_law_430 : decode cL_law 430 = .ok (.aload_n 0, 1) := by decide +kernel
theorem dL_law_431 : decode cL_law 431 = .ok (.iload_n 3, 1) := by decide +kernel
theorem dL_law_432 : decode cL_law 432 = .ok (.iconst 2, 1) := by decide +kernel
theorem dL_law_433 : decode cL_law 433 = .ok (.iadd, 1) := by decide +kernel
theorem dL_law_434 : decode cL_law 434 = .ok (.iaload, 1) := by decide +kernel
theorem dL_law_435 : decode cL_law 435 = .ok (.aload_n 0, 1) := by decide +kernel
theorem dL_law_436 : decode cL_law 436 = .ok (.iload_n 3, 1) := by decide +kernel
theorem dL_law_437 : decode cL_law 437 = .ok (.iconst 3, 1) := by decide +kernel
theorem dL_law_438 : decode cL_law 438 = .ok (.iadd, 1) := by decide +kernel
theorem dL_law_439 : decode cL_law 439 = .ok (.iaload, 1) := by decide +kernel
theorem dL_law_440 : decode cL_law 440 = .ok (.invokevirtual 64, 3) := by decide +kernel
theorem dL_law_443 : decode cL_law 443 = .ok (.aload_n 2, 1) := by decide +kernel
theorem dL_law_444 : decode cL_law 444 = .ok (.aload_n 0, 1) := by decide +kernel
theorem dL_law_445 : decode cL_law 445 = .ok (.iload_n 3, 1) := by decide +kernel
theorem dL_law_446 : decode cL_law 446 = .ok (.iconst 1, 1) := by decide +kernel
theorem dL_law_447 : decode cL_law 447 = .ok (.iadd, 1) := by decide +kernel
theorem dL_law_448 : decode cL_law 448 = .ok (.iaload, 1) := by decide +kernel
theorem dL_law_449 : decode cL_law 449 = .ok (.aload_n 0, 1) := by decide +kernel
theorem dL_law_450 : decode cL_law 450 = .ok (.iload_n 3, 1) := by decide +kernel
theorem dL_law_451 : decode cL_law 451 = .ok (.iconst 2, 1) := by decide +kernel
theorem dL_law_452 : decode cL_law 452 = .ok (.iadd, 1) := by decide +kernel
theorem dL_law_453 : decode cL_law 453 = .ok (.iaload, 1) := by decide +kernel
theorem dL_law_454 : decode cL_law 454 = .ok (.aload_n 0, 1) := by decide +kernel
theorem dL_law_455 : decode cL_law 455 = .ok (.iload_n 3, 1) := by decide +kernel
theorem dL_law_456 : decode cL_law 456 = .ok (.iconst 3, 1) := by decide +kernel
theorem dL_law_457 : decode cL_law 457 = .ok (.iadd, 1) := by decide +kernel
theorem dL_law_458 : decode cL_law 458 = .ok (.iaload, 1) := by decide +kernel
theorem dL_law_459 : decode cL_law 459 = .ok (.invokevirtual 68, 3) := by decide +kernel
theorem dL_law_462 : decode cL_law 462 = .ok (.if_icmp .eq 272, 3) := by decide +kernel
theorem dL_law_465 : decode cL_law 465 = .ok (.iconst 0, 1) := by decide +kernel
theorem dL_law_466 : decode cL_law 466 = .ok (.ireturn, 1) := by decide +kernel
theorem dL_law_467 : decode cL_law 467 = .ok (.aload_n 1, 1) := by decide +kernel
theorem dL_law_468 : decode cL_law 468 = .ok (.aload_n 0, 1) := by decide +kernel
theorem dL_law_469 : decode cL_law 469 = .ok (.iload_n 3, 1) := by decide +kernel
theorem dL_law_470 : decode cL_law 470 = .ok (.iconst 1, 1) := by decide +kernel
theorem dL_law_471 : decode cL_law 471 = .ok (.iadd, 1) := by decide +kernel
theorem dL_law_472 : decode cL_law 472 = .ok (.iaload, 1) := by decide +kernel
theorem dL_law_473 : decode cL_law 473 = .ok (.aload_n 0, 1) := by decide +kernel
theorem dL_law_474 : decode cL_law 474 = .ok (.iload_n 3, 1) := by decide +kernel
theorem dL_law_475 : decode cL_law 475 = .ok (.iconst 2, 1) := by decide +kernel
theorem dL_law_476 : decode cL_law 476 = .ok (.iadd, 1) := by decide +kernel
theorem dL_law_477 : decode cL_law 477 = .ok (.iaload, 1) := by decide +kernel
theorem dL_law_478 : decode cL_law 478 = .ok (.invokevirtual 69, 3) := by decide +kernel
theorem dL_law_481 : decode cL_law 481 = .ok (.aload_n 2, 1) := by decide +kernel
theorem dL_law_482 : decode cL_law 482 = .ok (.aload_n 0, 1) := by decide +kernel
theorem dL_law_483 : decode cL_law 483 = .ok (.iload_n 3, 1) := by decide +kernel
theorem dL_law_484 : decode cL_law 484 = .ok (.iconst 1, 1) := by decide +kernel
theorem dL_law_485 : decode cL_law 485 = .ok (.iadd, 1) := by decide +kernel
theorem dL_law_486 : decode cL_law 486 = .ok (.iaload, 1) := by decide +kernel
theorem dL_law_487 : decode cL_law 487 = .ok (.aload_n 0, 1) := by decide +kernel
theorem dL_law_488 : decode cL_law 488 = .ok (.iload_n 3, 1) := by decide +kernel
theorem dL_law_489 : decode cL_law 489 = .ok (.iconst 2, 1) := by decide +kernel
theorem dL_law_490 : decode cL_law 490 = .ok (.iadd, 1) := by decide +kernel
theorem dL_law_491 : decode cL_law 491 = .ok (.iaload, 1) := by decide +kernel
theorem dL_law_492 : decode cL_law 492 = .ok (.invokevirtual 72, 3) := by decide +kernel
theorem dL_law_495 : decode cL_law 495 = .ok (.if_icmp .eq 239, 3) := by decide +kernel
theorem dL_law_498 : decode cL_law 498 = .ok (.iconst 0, 1) := by decide +kernel
theorem dL_law_499 : decode cL_law 499 = .ok (.ireturn, 1) := by decide +kernel
theorem dL_law_500 : decode cL_law 500 = .ok (.aload_n 1, 1) := by decide +kernel
theorem dL_law_501 : decode cL_law 501 = .ok (.aload_n 0, 1) := by decide +kernel
theorem dL_law_502 : decode cL_law 502 = .ok (.iload_n 3, 1) := by decide +kernel
theorem dL_law_503 : decode cL_law 503 = .ok (.iconst 1, 1) := by decide +kernel
theorem dL_law_504 : decode cL_law 504 = .ok (.iadd, 1) := by decide +kernel
theorem dL_law_505 : decode cL_law 505 = .ok (.iaload, 1) := by decide +kernel
theorem dL_law_506 : decode cL_law 506 = .ok (.invokevirtual 73, 3) := by decide +kernel
theorem dL_law_509 : decode cL_law 509 = .ok (.aload_n 2, 1) := by decide +kernel
theorem dL_law_510 : decode cL_law 510 = .ok (.aload_n 0, 1) := by decide +kernel
theorem dL_law_511 : decode cL_law 511 = .ok (.iload_n 3, 1) := by decide +kernel
theorem dL_law_512 : decode cL_law 512 = .ok (.iconst 1, 1) := by decide +kernel
theorem dL_law_513 : decode cL_law 513 = .ok (.iadd, 1) := by decide +kernel
theorem dL_law_514 : decode cL_law 514 = .ok (.iaload, 1) := by decide +kernel
theorem dL_law_515 : decode cL_law 515 = .ok (.invokevirtual 76, 3) := by decide +kernel
theorem dL_law_518 : decode cL_law 518 = .ok (.if_icmp .eq 216, 3) := by decide +kernel
theorem dL_law_521 : decode cL_law 521 = .ok (.iconst 0, 1) := by decide +kernel
theorem dL_law_522 : decode cL_law 522 = .ok (.ireturn, 1) := by decide +kernel
theorem dL_law_523 : decode cL_law 523 = .ok (.aload_n 1, 1) := by decide +kernel
theorem dL_law_524 : decode cL_law 524 = .ok (.aload_n 0, 1) := by decide +kernel
theorem dL_law_525 : decode cL_law 525 = .ok (.iload_n 3, 1) := by decide +kernel
theorem dL_law_526 : decode cL_law 526 = .ok (.iconst 1, 1) := by decide +kernel
theorem dL_law_527 : decode cL_law 527 = .ok (.iadd, 1) := by decide +kernel
theorem dL_law_528 : decode cL_law 528 = .ok (.iaload, 1) := by decide +kernel
theorem dL_law_529 : decode cL_law 529 = .ok (.invokevirtual 77, 3) := by decide +kernel
theorem dL_law_532 : decode cL_law 532 = .ok (.aload_n 2, 1) := by decide +kernel
theorem dL_law_533 : decode cL_law 533 = .ok (.aload_n 0, 1) := by decide +kernel
theorem dL_law_534 : decode cL_law 534 = .ok (.iload_n 3, 1) := by decide +kernel
theorem dL_law_535 : decode cL_law 535 = .ok (.iconst 1, 1) := by decide +kernel
theorem dL_law_536 : decode cL_law 536 = .ok (.iadd, 1) := by decide +kernel
theorem dL_law_537 : decode cL_law 537 = .ok (.iaload, 1) := by decide +kernel
theorem dL_law_538 : decode cL_law 538 = .ok (.invokevirtual 80, 3) := by decide +kernel
theorem dL_law_541 : decode cL_law 541 = .ok (.if_icmp .eq 193, 3) := by decide +kernel
theorem dL_law_544 : decode cL_law 544 = .ok (.iconst 0, 1) := by decide +kernel
theorem dL_law_545 : decode cL_law 545 = .ok (.ireturn, 1) := by decide +kernel
theorem dL_law_546 : decode cL_law 546 = .ok (.aload_n 1, 1) := by decide +kernel
theorem dL_law_547 : decode cL_law 547 = .ok (.invokevirtual 81, 3) := by decide +kernel
theorem dL_law_550 : decode cL_law 550 = .ok (.aload_n 2, 1) := by decide +kernel
theorem dL_law_551 : decode cL_law 551 = .ok (.invokevirtual 84, 3) := by decide +kernel
theorem dL_law_554 : decode cL_law 554 = .ok (.if_icmp .eq 180, 3) := by decide +kernel
theorem dL_law_557 : decode cL_law 557 = .ok (.iconst 0, 1) := by decide +kernel
theorem dL_law_558 : decode cL_law 558 = .ok (.ireturn, 1) := by decide +kernel
theorem dL_law_559 : decode cL_law 559 = .ok (.aload_n 1, 1) := by decide +kernel
theorem dL_law_560 : decode cL_law 560 = .ok (.invokevirtual 85, 3) := by decide +kernel
theorem dL_law_563 : decode cL_law 563 = .ok (.aload_n 2, 1) := by decide +kernel
theorem dL_law_564 : decode cL_law 564 = .ok (.invokevirtual 88, 3) := by decide +kernel
theorem dL_law_567 : decode cL_law 567 = .ok (.if_icmp .eq 167, 3) := by decide +kernel
theorem dL_law_570 : decode cL_law 570 = .ok (.iconst 0, 1) := by decide +kernel
theorem dL_law_571 : decode cL_law 571 = .ok (.ireturn, 1) := by decide +kernel
theorem dL_law_572 : decode cL_law 572 = .ok (.aload_n 1, 1) := by decide +kernel
theorem dL_law_573 : decode cL_law 573 = .ok (.aload_n 0, 1) := by decide +kernel
theorem dL_law_574 : decode cL_law 574 = .ok (.iload_n 3, 1) := by decide +kernel
theorem dL_law_575 : decode cL_law 575 = .ok (.iconst 1, 1) := by decide +kernel
theorem dL_law_576 : decode cL_law 576 = .ok (.iadd, 1) := by decide +kernel
theorem dL_law_577 : decode cL_law 577 = .ok (.iaload, 1) := by decide +kernel
theorem dL_law_578 : decode cL_law 578 = .ok (.aload_n 0, 1) := by decide +kernel
theorem dL_law_579 : decode cL_law 579 = .ok (.iload_n 3, 1) := by decide +kernel
theorem dL_law_580 : decode cL_law 580 = .ok (.iconst 2, 1) := by decide +kernel
theorem dL_law_581 : decode cL_law 581 = .ok (.iadd, 1) := by decide +kernel
theorem dL_law_582 : decode cL_law 582 = .ok (.iaload, 1) := by decide +kernel
theorem dL_law_583 : decode cL_law 583 = .ok (.aload_n 0, 1) := by decide +kernel
theorem dL_law_584 : decode cL_law 584 = .ok (.iload_n 3, 1) := by decide +kernel
theorem dL_law_585 : decode cL_law 585 = .ok (.iconst 3, 1) := by decide +kernel
theorem dL_law_586 : decode cL_law 586 = .ok (.iadd, 1) := by decide +kernel
theorem dL_law_587 : decode cL_law 587 = .ok (.iaload, 1) := by decide +kernel
theorem dL_law_588 : decode cL_law 588 = .ok (.invokevirtual 89, 3) := by decide +kernel
theorem dL_law_591 : decode cL_law 591 = .ok (.aload_n 2, 1) := by decide +kernel
theorem dL_law_592 : decode cL_law 592 = .ok (.aload_n 0, 1) := by decide +kernel
theorem dL_law_593 : decode cL_law 593 = .ok (.iload_n 3, 1) := by decide +kernel
theorem dL_law_594 : decode cL_law 594 = .ok (.iconst 1, 1) := by decide +kernel
theorem dL_law_595 : decode cL_law 595 = .ok (.iadd, 1) := by decide +kernel
theorem dL_law_596 : decode cL_law 596 = .ok (.iaload, 1) := by decide +kernel
theorem dL_law_597 : decode cL_law 597 = .ok (.aload_n 0, 1) := by decide +kernel
theorem dL_law_598 : decode cL_law 598 = .ok (.iload_n 3, 1) := by decide +kernel
theorem dL_law_599 : decode cL_law 599 = .ok (.iconst 2, 1) := by decide +kernel
theorem dL_law_600 : decode cL_law 600 = .ok (.iadd, 1) := by decide +kernel
theorem dL_law_601 : decode cL_law 601 = .ok (.iaload, 1) := by decide +kernel
theorem dL_law_602 : decode cL_law 602 = .ok (.aload_n 0, 1) := by decide +kernel
theorem dL_law_603 : decode cL_law 603 = .ok (.iload_n 3, 1) := by decide +kernel
theorem dL_law_604 : decode cL_law 604 = .ok (.iconst 3, 1) := by decide +kernel
theorem dL_law_605 : decode cL_law 605 = .ok (.iadd, 1) := by decide +kernel
theorem dL_law_606 : decode cL_law 606 = .ok (.iaload, 1) := by decide +kernel
theorem dL_law_607 : decode cL_law 607 = .ok (.invokevirtual 92, 3) := by decide +kernel
theorem dL_law_610 : decode cL_law 610 = .ok (.if_icmp .eq 124, 3) := by decide +kernel
theorem dL_law_613 : decode cL_law 613 = .ok (.iconst 0, 1) := by decide +kernel
theorem dL_law_614 : decode cL_law 614 = .ok (.ireturn, 1) := by decide +kernel
theorem dL_law_615 : decode cL_law 615 = .ok (.aload_n 1, 1) := by decide +kernel
theorem dL_law_616 : decode cL_law 616 = .ok (.invokevirtual 93, 3) := by decide +kernel
theorem dL_law_619 : decode cL_law 619 = .ok (.aload_n 2, 1) := by decide +kernel
theorem dL_law_620 : decode cL_law 620 = .ok (.invokevirtual 96, 3) := by decide +kernel
theorem dL_law_623 : decode cL_law 623 = .ok (.if_icmp .eq 111, 3) := by decide +kernel
theorem dL_law_626 : decode cL_law 626 = .ok (.iconst 0, 1) := by decide +kernel
theorem dL_law_627 : decode cL_law 627 = .ok (.ireturn, 1) := by decide +kernel
theorem dL_law_628 : decode cL_law 628 = .ok (.aload_n 1, 1) := by decide +kernel
theorem dL_law_629 : decode cL_law 629 = .ok (.aload_n 0, 1) := by decide +kernel
theorem dL_law_630 : decode cL_law 630 = .ok (.iload_n 3, 1) := by decide +kernel
theorem dL_law_631 : decode cL_law 631 = .ok (.iconst 1, 1) := by decide +kernel
theorem dL_law_632 : decode cL_law 632 = .ok (.iadd, 1) := by decide +kernel
theorem dL_law_633 : decode cL_law 633 = .ok (.iaload, 1) := by decide +kernel
theorem dL_law_634 : decode cL_law 634 = .ok (.aload_n 0, 1) := by decide +kernel
theorem dL_law_635 : decode cL_law 635 = .ok (.iload_n 3, 1) := by decide +kernel
theorem dL_law_636 : decode cL_law 636 = .ok (.iconst 2, 1) := by decide +kernel
theorem dL_law_637 : decode cL_law 637 = .ok (.iadd, 1) := by decide +kernel
theorem dL_law_638 : decode cL_law 638 = .ok (.iaload, 1) := by decide +kernel
theorem dL_law_639 : decode cL_law 639 = .ok (.aload_n 0, 1) := by decide +kernel
theorem dL_law_640 : decode cL_law 640 = .ok (.iload_n 3, 1) := by decide +kernel
theorem dL_law_641 : decode cL_law 641 = .ok (.iconst 3, 1) := by decide +kernel
theorem dL_law_642 : decode cL_law 642 = .ok (.iadd, 1) := by decide +kernel
theorem dL_law_643 : decode cL_law 643 = .ok (.iaload, 1) := by decide +kernel
theorem dL_law_644 : decode cL_law 644 = .ok (.invokevirtual 97, 3) := by decide +kernel
theorem dL_law_647 : decode cL_law 647 = .ok (.aload_n 2, 1) := by decide +kernel
theorem dL_law_648 : decode cL_law 648 = .ok (.aload_n 0, 1) := by decide +kernel
theorem dL_law_649 : decode cL_law 649 = .ok (.iload_n 3, 1) := by decide +kernel
theorem dL_law_650 : decode cL_law 650 = .ok (.iconst 1, 1) := by decide +kernel
theorem dL_law_651 : decode cL_law 651 = .ok (.iadd, 1) := by decide +kernel
theorem dL_law_652 : decode cL_law 652 = .ok (.iaload, 1) := by decide +kernel
theorem dL_law_653 : decode cL_law 653 = .ok (.aload_n 0, 1) := by decide +kernel
theorem dL_law_654 : decode cL_law 654 = .ok (.iload_n 3, 1) := by decide +kernel
theorem dL_law_655 : decode cL_law 655 = .ok (.iconst 2, 1) := by decide +kernel
theorem dL_law_656 : decode cL_law 656 = .ok (.iadd, 1) := by decide +kernel
theorem dL_law_657 : decode cL_law 657 = .ok (.iaload, 1) := by decide +kernel
theorem dL_law_658 : decode cL_law 658 = .ok (.aload_n 0, 1) := by decide +kernel
theorem dL_law_659 : decode cL_law 659 = .ok (.iload_n 3, 1) := by decide +kernel
theorem dL_law_660 : decode cL_law 660 = .ok (.iconst 3, 1) := by decide +kernel
theorem dL_law_661 : decode cL_law 661 = .ok (.iadd, 1) := by decide +kernel
theorem dL_law_662 : decode cL_law 662 = .ok (.iaload, 1) := by decide +kernel
theorem dL_law_663 : decode cL_law 663 = .ok (.invokevirtual 100, 3) := by decide +kernel
theorem dL_law_666 : decode cL_law 666 = .ok (.if_icmp .eq 68, 3) := by decide +kernel
theorem dL_law_669 : decode cL_law 669 = .ok (.iconst 0, 1) := by decide +kernel
theorem dL_law_670 : decode cL_law 670 = .ok (.ireturn, 1) := by decide +kernel
theorem dL_law_671 : decode cL_law 671 = .ok (.aload_n 1, 1) := by decide +kernel
theorem dL_law_672 : decode cL_law 672 = .ok (.invokevirtual 101, 3) := by decide +kernel
theorem dL_law_675 : decode cL_law 675 = .ok (.aload_n 2, 1) := by decide +kernel
theorem dL_law_676 : decode cL_law 676 = .ok (.invokevirtual 104, 3) := by decide +kernel
theorem dL_law_679 : decode cL_law 679 = .ok (.if_icmp .eq 55, 3) := by decide +kernel
theorem dL_law_682 : decode cL_law 682 = .ok (.iconst 0, 1) := by decide +kernel
theorem dL_law_683 : decode cL_law 683 = .ok (.ireturn, 1) := by decide +kernel
theorem dL_law_684 : decode cL_law 684 = .ok (.aload_n 1, 1) := by decide +kernel
theorem dL_law_685 : decode cL_law 685 = .ok (.invokevirtual 105, 3) := by decide +kernel
theorem dL_law_688 : decode cL_law 688 = .ok (.aload_n 2, 1) := by decide +kernel
theorem dL_law_689 : decode cL_law 689 = .ok (.invokevirtual 108, 3) := by decide +kernel
theorem dL_law_692 : decode cL_law 692 = .ok (.if_icmp .eq 42, 3) := by decide +kernel
theorem dL_law_695 : decode cL_law 695 = .ok (.iconst 0, 1) := by decide +kernel
theorem dL_law_696 : decode cL_law 696 = .ok (.ireturn, 1) := by decide +kernel
theorem dL_law_697 : decode cL_law 697 = .ok (.aload_n 1, 1) := by decide +kernel
theorem dL_law_698 : decode cL_law 698 = .ok (.aload_n 0, 1) := by decide +kernel
theorem dL_law_699 : decode cL_law 699 = .ok (.iload_n 3, 1) := by decide +kernel
theorem dL_law_700 : decode cL_law 700 = .ok (.iconst 1, 1) := by decide +kernel
theorem dL_law_701 : decode cL_law 701 = .ok (.iadd, 1) := by decide +kernel
theorem dL_law_702 : decode cL_law 702 = .ok (.iaload, 1) := by decide +kernel
theorem dL_law_703 : decode cL_law 703 = .ok (.invokevirtual 109, 3) := by decide +kernel
theorem dL_law_706 : decode cL_law 706 = .ok (.aload_n 2, 1) := by decide +kernel
theorem dL_law_707 : decode cL_law 707 = .ok (.aload_n 0, 1) := by decide +kernel
theorem dL_law_708 : decode cL_law 708 = .ok (.iload_n 3, 1) := by decide +kernel
theorem dL_law_709 : decode cL_law 709 = .ok (.iconst 1, 1) := by decide +kernel
theorem dL_law_710 : decode cL_law 710 = .ok (.iadd, 1) := by decide +kernel
theorem dL_law_711 : decode cL_law 711 = .ok (.iaload, 1) := by decide +kernel
theorem dL_law_712 : decode cL_law 712 = .ok (.invokevirtual 112, 3) := by decide +kernel
theorem dL_law_715 : decode cL_law 715 = .ok (.if_icmp .eq 19, 3) := by decide +kernel
theorem dL_law_718 : decode cL_law 718 = .ok (.iconst 0, 1) := by decide +kernel
theorem dL_law_719 : decode cL_law 719 = .ok (.ireturn, 1) := by decide +kernel
theorem dL_law_720 : decode cL_law 720 = .ok (.aload_n 1, 1) := by decide +kernel
theorem dL_law_721 : decode cL_law 721 = .ok (.invokevirtual 113, 3) := by decide +kernel
theorem dL_law_724 : decode cL_law 724 = .ok (.aload_n 2, 1) := by decide +kernel
theorem dL_law_725 : decode cL_law 725 = .ok (.invokevirtual 117, 3) := by decide +kernel
theorem dL_law_728 : decode cL_law 728 = .ok (.lcmp, 1) := by decide +kernel
theorem dL_law_729 : decode cL_law 729 = .ok (.ifCond .eq 5, 3) := by decide +kernel
theorem dL_law_732 : decode cL_law 732 = .ok (.iconst 0, 1) := by decide +kernel
theorem dL_law_733 : decode cL_law 733 = .ok (.ireturn, 1) := by decide +kernel
theorem dL_law_734 : decode cL_law 734 = .ok (.iinc 3 4, 3) := by decide +kernel
theorem dL_law_737 : decode cL_law 737 = .ok (.goto (-719), 3) := by decide +kernel
theorem dL_law_740 : decode cL_law 740 = .ok (.iconst 1, 1) := by decide +kernel
theorem dL_law_741 : decode cL_law 741 = .ok (.ireturn, 1) := by decide +kernel
end
section
/-! THE WORLD: the class's cells 0 to 19, the reference's 20 to 39, the streets in a pool. E: what stays (class numbers, addresses); σ: what changes (ints and longs by cell and place, the streets' row, the pool) -/
abbrev EV : Type := va_G × (Nat → Nat) × (ClassId × ClassId × ClassId) × (Nat → Nat) × (Nat → Nat)
abbrev ST : Type := (Nat → Nat → Int32) × (Nat → Nat → Int64) × (Nat → Option Nat) × List Nat × (Nat → Nat) × (Nat → Int32) × (Nat → Int32)
def wc (E : EV) (σ : ST) (o : Nat) : va_E := match o with
  | 0 => .inr (9, [.ref (E.2.1 1), .ref (E.2.1 3), .ref (E.2.1 4), .ref (E.2.1 6), .ref (E.2.1 14), .int (σ.1 0 5), .int (σ.1 0 6), .int (σ.1 0 7)])
  | 1 => .inr (4, [.ref (E.2.1 2), .int (σ.1 1 1)])
  | 2 => .inl (E.2.2.1.1, 44, .inl (σ.1 2))
  | 3 => .inr (8, [.ref (E.2.1 4), .ref (E.2.1 6), .ref (E.2.1 12), .ref (E.2.1 13), .int (σ.1 3 4), .int (σ.1 3 5), .int (σ.1 3 6), .int (σ.1 3 7), .long (σ.2.1 3 8)])
  | 4 => .inr (1, [.ref (E.2.1 5), .int (σ.1 4 1), .int (σ.1 4 2)])
  | 5 => .inl (E.2.2.1.2.2, 8, .inr (.inr (.inr (.inr σ.2.2.1))))
  | 6 => .inr (3, [.ref (E.2.1 7), .ref (E.2.1 8), .ref (E.2.1 9), .ref (E.2.1 10), .ref (E.2.1 11), .long (σ.2.1 6 5), .long (σ.2.1 6 6), .int (σ.1 6 7), .int (σ.1 6 8), .int (σ.1 6 9), .int (σ.1 6 10)])
  | 7 => .inl (E.2.2.1.1, 8, .inl (σ.1 7))
  | 8 => .inl (E.2.2.1.1, 8, .inl (σ.1 8))
  | 9 => .inl (E.2.2.1.1, 6, .inl (σ.1 9))
  | 10 => .inl (E.2.2.1.1, 6, .inl (σ.1 10))
  | 11 => .inl (E.2.2.1.1, 6, .inl (σ.1 11))
  | 12 => .inl (E.2.2.1.1, 5, .inl (σ.1 12))
  | 13 => .inl (E.2.2.1.2.1, 1024, .inr (.inl (σ.2.1 13)))
  | 14 => .inr (3, [.ref (E.2.1 15), .ref (E.2.1 16), .ref (E.2.1 17), .ref (E.2.1 18), .ref (E.2.1 19), .long (σ.2.1 14 5), .long (σ.2.1 14 6), .int (σ.1 14 7), .int (σ.1 14 8), .int (σ.1 14 9), .int (σ.1 14 10)])
  | 15 => .inl (E.2.2.1.1, 8, .inl (σ.1 15))
  | 16 => .inl (E.2.2.1.1, 8, .inl (σ.1 16))
  | 17 => .inl (E.2.2.1.1, 6, .inl (σ.1 17))
  | 18 => .inl (E.2.2.1.1, 6, .inl (σ.1 18))
  | 19 => .inl (E.2.2.1.1, 6, .inl (σ.1 19))
  | 20 => .inr (10, [.ref (E.2.1 21), .int (σ.1 20 1), .int (σ.1 20 2), .int (σ.1 20 3), .int (σ.1 20 4), .int (σ.1 20 5), .int (σ.1 20 6), .int (σ.1 20 7), .ref (E.2.1 22), .ref (E.2.1 23), .ref (E.2.1 24), .ref (E.2.1 25), .ref (E.2.1 26), .int (σ.1 20 13), .int (σ.1 20 14), .ref (E.2.1 27), .ref (E.2.1 28), .ref (E.2.1 29), .ref (E.2.1 30), .ref (E.2.1 31), .int (σ.1 20 20), .ref (E.2.1 32), .int (σ.1 20 22), .int (σ.1 20 23), .ref (E.2.1 33), .ref (E.2.1 34), .int (σ.1 20 26), .int (σ.1 20 27), .int (σ.1 20 28), .int (σ.1 20 29), .int (σ.1 20 30), .int (σ.1 20 31), .int (σ.1 20 32), .int (σ.1 20 33), .ref (E.2.1 35), .ref (E.2.1 36), .ref (E.2.1 37), .ref (E.2.1 38), .ref (E.2.1 39), .long (σ.2.1 20 39)])
  | 21 => .inl (E.2.2.1.1, 44, .inl (σ.1 21))
  | 22 => .inl (E.2.2.1.1, 24, .inl (σ.1 22))
  | 23 => .inl (E.2.2.1.1, 8, .inl (σ.1 23))
  | 24 => .inl (E.2.2.1.1, 8, .inl (σ.1 24))
  | 25 => .inl (E.2.2.1.1, 8, .inl (σ.1 25))
  | 26 => .inl (E.2.2.1.1, 8, .inl (σ.1 26))
  | 27 => .inl (E.2.2.1.1, 8, .inl (σ.1 27))
  | 28 => .inl (E.2.2.1.1, 8, .inl (σ.1 28))
  | 29 => .inl (E.2.2.1.1, 48, .inl (σ.1 29))
  | 30 => .inl (E.2.2.1.1, 6, .inl (σ.1 30))
  | 31 => .inl (E.2.2.1.1, 6, .inl (σ.1 31))
  | 32 => .inl (E.2.2.1.1, 512, .inl (σ.1 32))
  | 33 => .inl (E.2.2.1.1, 18, .inl (σ.1 33))
  | 34 => .inl (E.2.2.1.1, 12, .inl (σ.1 34))
  | 35 => .inl (E.2.2.1.1, 8, .inl (σ.1 35))
  | 36 => .inl (E.2.2.1.1, 8, .inl (σ.1 36))
  | 37 => .inl (E.2.2.1.1, 8, .inl (σ.1 37))
  | 38 => .inl (E.2.2.1.1, 8, .inl (σ.1 38))
  | 39 => .inl (E.2.2.1.1, 18, .inl (σ.1 39))
  | _ => .inr (0, [])
def wp (σ : ST) (a : Nat) : va_E := .inr (σ.2.2.2.2.1 a, [.int (σ.2.2.2.2.2.1 a), .int (σ.2.2.2.2.2.2 a)])
def wd (E : EV) (σ : ST) : va_W := (List.range 40).map (fun o => (E.2.1 o, wc E σ o)) ++ va_pl σ.2.2.2.1 (wp σ)
theorem wd_at (E : EV) (σ : ST) {o : Nat} (h : o < 40) : (wd E σ)[o]? = some (E.2.1 o, wc E σ o) := by
  unfold wd
  rw [List.getElem?_append_left (by simp; exact h)]
  simp [h]
theorem wd_pl (E : EV) (σ : ST) {a : Nat} (h : a ∈ σ.2.2.2.1) : ∃ k : Nat, (wd E σ)[k]? = some (a, wp σ a) := va_pl_get h
theorem wc_congr {E : EV} {σ σ' : ST} {o : Nat} (h1 : σ'.1 o = σ.1 o) (h2 : σ'.2.1 o = σ.2.1 o) (h3 : σ'.2.2.1 = σ.2.2.1) : wc E σ' o = wc E σ o := by
  revert h1 h2
  unfold wc
  split <;> intro h1 h2 <;> simp only [h1, h2, h3]
theorem wd_set {E : EV} {σ σ' : ST} {o : Nat} (h : o < 40) {x : va_E} (h1 : wc E σ' o = x) (h2 : ∀ j, j ≠ o → σ'.1 j = σ.1 j ∧ σ'.2.1 j = σ.2.1 j) (h3 : o = 5 ∨ σ'.2.2.1 = σ.2.2.1) (h4 : σ'.2.2.2 = σ.2.2.2) : (wd E σ).set o (E.2.1 o, x) = wd E σ' := by
  have hp : wp σ' = wp σ := by funext a; simp only [wp, h4]
  unfold wd
  rw [List.set_append_left _ _ (by simp; exact h), hp, h4]
  congr 1
  apply List.ext_getElem?
  intro i
  rw [List.getElem?_set]
  by_cases hi : o = i
  · subst hi
    simp [h, h1]
  · rw [if_neg hi]
    by_cases hl : i < 40
    · have e : wc E σ' i = wc E σ i := by
        by_cases h5 : σ'.2.2.1 = σ.2.2.1
        · exact wc_congr (h2 i (fun q => hi q.symm)).1 (h2 i (fun q => hi q.symm)).2 h5
        · have ho : o = 5 := h3.resolve_right h5
          have hi5 : i ≠ 5 := fun q => hi (by omega)
          have hh := h2 i (fun q => hi q.symm)
          obtain ⟨a, b⟩ := hh
          revert a b hi5
          unfold wc
          split <;> intro hi5 a b <;> first | (exact absurd rfl hi5) | (simp only [a, b]; done) | rfl
      simp [hl, e]
    · simp [hl]
/-- what stays true of the tables while the law runs -/
def KT (U : State) : Prop := ∀ w ∈ lw_tbl, (w.onTables && w.keeps) = true → ∀ a : Array Value, w.before a U = true
def KE (E : EV) (U : State) : Prop := KT U ∧ va_K E.1 vwCl [(E.2.2.1.1, .int), (E.2.2.1.2.1, .long), (E.2.2.1.2.2, .object "KeyStreets$Street")] U ∧ va_Nw (.methodLinkNest "KeyStreets$Page" 23 yX10_isNote "KeyStreets") U ∧ vk_R "KeyStreets$Page" 27 "smbpi" (E.2.2.2.1 0) U
    ∧ ((va_Nw (.castable RX5 RX2) U) ∧ (∀ q ∈ [(RX0, RX2), (RX6, RX2), (RX7, RX2), (RX2, RX0), (RX5, RX0), (RX6, RX0), (RX7, RX0), (RX0, RX6), (RX2, RX6), (RX5, RX6), (RX7, RX6), (RX0, RX5), (RX2, RX5), (RX6, RX5), (RX7, RX5)], va_Nc q.1 q.2 U))
/-- what stays true of the heap: the text of kinds, and String's static -/
def HE (E : EV) (A : Nat → Prop) (U : State) (H : Heap) : Prop := vk_S 1 [5] [[115, 109, 98, 112, 105]] E.2.2.2.1 E.2.2.2.2 A U H ∧ va_Z "java/lang/String" "COMPACT_STRINGS" "Z" (.int 1) A U H
theorem KT.warm {s U : State} (hW : s.WarmedH U.vm) (h : KT s) : KT U := fun w hw hg a => word_at (args := a) hW (Or.inl hg) (h w hw hg a)
theorem KE.warm {E : EV} {s U : State} (hW : s.WarmedH U.vm) (h : KE E s) : KE E U :=
  ⟨h.1.warm hW, va_K.moved hW.alike h.2.1, va_Nw.warmM hW h.2.2.1, vk_R.warm hW h.2.2.2.1, va_Nw.warmC hW h.2.2.2.2.1, fun q hq => (h.2.2.2.2.2 q hq).moved hW.alike⟩
theorem KE.calling {E : EV} {U : State} {g : JFrame} {mk : MethodId} {a : Array Value} (h : KE E U) : KE E (U.calling g mk a) :=
  ⟨fun w hw hg a' => va_tabs (u := U) (U := U.calling g mk a) (by simp only [Bool.and_eq_true] at hg; exact hg.1) rfl (h.1 w hw hg a'), va_K.moved (u := U) (U := U.calling g mk a) (Vm.Alike.refl U.vm) h.2.1, va_Nw.same rfl rfl h.2.2.1, vk_R.same rfl h.2.2.2.1, va_Nw.same rfl rfl h.2.2.2.2.1, fun q hq => va_Nc.moved (Vm.Alike.refl U.vm) (h.2.2.2.2.2 q hq)⟩
theorem HE.kept {E : EV} {A : Nat → Prop} {U : State} {H H1 : Heap} (h : HE E A U H) (hq : ∀ a : Nat, a < H.size → ¬ A a → H1[a]? = H[a]?) : HE E A U H1 := ⟨h.1.kept hq, h.2.kept hq⟩
theorem HE.narrow {E : EV} {A B : Nat → Prop} {U : State} {H : Heap} (h : HE E A U H) (hq : ∀ q, B q → A q) : HE E B U H := ⟨h.1.narrow hq, h.2.narrow hq⟩
theorem HE.moved {E : EV} {A : Nat → Prop} {u U : State} {H : Heap} (hvm : u.vm.Alike U.vm) (h : HE E A u H) : HE E A U H := ⟨vk_S.moved hvm h.1, va_Z.moved hvm h.2⟩
/-- the start of a method -/
def PRE (E : EV) (σ : ST) (sz : Nat) (U : State) : Prop := U.heap.size = sz ∧ va_P E.1 vwCl (wd E σ) U.heap ∧ va_D (fun _ => True) (wd E σ) ∧ KE E U ∧ HE E (va_A (wd E σ) sz) U U.heap
theorem PRE.calling {E : EV} {σ : ST} {sz : Nat} {U : State} {g : JFrame} {mk : MethodId} {a : Array Value} (h : PRE E σ sz U) : PRE E σ sz (U.calling g mk a) :=
  ⟨h.1, h.2.1, h.2.2.1, h.2.2.2.1.calling, HE.moved (u := U) (U := U.calling g mk a) (Vm.Alike.refl U.vm) h.2.2.2.2⟩
/-- a method's contract: from the world σ it returns r, the world is σ' -/
def CT (l : Launch) (E : EV) (y : MethodName) (bytes : ByteArray) (maxL : Nat) (ret : Option FieldType) (rm : Room) (as : List Value) (σ : ST) (r : Option Value) (σ' : ST) : Prop :=
  ∀ sz : Nat, Met l y [.code y bytes maxL ret] rm (va_Pc as (PRE E σ sz)) (fun _ st oc t => oc = .returned r ∧ va_P E.1 vwCl (wd E σ') t.heap ∧ va_D (va_A (wd E σ) sz) (wd E σ') ∧ va_F (va_A (wd E σ) sz) st t) 0 0 (va_A (wd E σ) sz)
abbrev CX : Type := Program × Launch × Env × Room × State × MethodId × Array Value × List Frame × Method × Code × (Nat × Nat) × (Nat → Prop) × (State → Prop)
/-- what a running method has: its code, its room, the tables -/
def FX (Γ : CX) (l : Launch) (cc : ByteArray) (nL : Nat) (own : String) (R : Room) (E : EV) : Prop := match Γ with
  | (p, l', _, R', s, m, _, _, _, c, cs, A, _) => p.tables.exec = Jvm.exec ∧ c.code = cc ∧ c.maxLocals = nL ∧ s.vm.findClass own = some m.cls ∧ R' = R ∧ l' = l ∧ KE E s ∧ HE E A s s.heap ∧ (∀ q, s.heap.size ≤ q → A q) ∧ cs.1 ≤ R.cells ∧ cs.2 ≤ R.slots
/-- the machine at pc, with these locals, this stack and the world σ, comes to its end -/
def GW (Γ : CX) (nL : Nat) (E : EV) (σ : ST) (pc : Nat) (lv : List (Nat × Value)) (st : List Value) : Prop := match Γ with
  | (p, l, e, R, s, m, args, below, meth, c, cs, A, Q) => ∀ (H : Heap) (locs : List Loc) (ls : Array Slot), va_P E.1 vwCl (wd E σ) H → va_D A (wd E σ) → va_S A s.heap H locs → lv_has ls nL lv → W p l e R s m args below meth c H locs cs.1 cs.2 Q (F0 m pc ls st)
/-- what is wanted at the return -/
def RT (Γ : CX) (ret : Option FieldType) (E : EV) (r : Option Value) (σ : ST) : Prop := match Γ with
  | (_, _, _, _, s, _, args, below, meth, _, cs, A, Q) => meth.sig.returnType = ret ∧ meth.locks = false ∧ ∃ (Qc : Array Value → State → Outcome → State → Prop) (free : Addr → Prop), Q = MQ below Qc args s cs.1 cs.2 free ∧ (∀ q, A q → free q) ∧ ∀ t : State, va_P E.1 vwCl (wd E σ) t.heap → va_D A (wd E σ) → va_F A s t → Qc args s (.returned r) t
set_option maxHeartbeats 1000000 in
/-- a contract out of a walk -/
theorem CT.of {l : Launch} {E : EV} {y : MethodName} {bytes : ByteArray} {maxL : Nat} {ret : Option FieldType} {rm : Room} {as : List Value} {σ : ST} {r : Option Value} {σ' : ST} (own : String) (ho : y.cls = own) (hy : plainName y.cls = true) (hlen : (lg_sl as).length ≤ maxL) (hc0 : rm.cells = 0) (hs0 : rm.slots = 0)
    (body : ∀ Γ : CX, FX Γ l bytes maxL own rm E → RT Γ ret E r σ' → GW Γ maxL E σ 0 (lv_args 0 as) []) : CT l E y bytes maxL ret rm as σ r σ' := by
  intro sz
  refine Met.ofW (cc := bytes) (maxL := maxL) (ret := ret) hy rfl ?_
  intro p e s m args below meth c s₁ B hml hv
  obtain ⟨rfl, hsz, hP, hD, hK, hH⟩ := hv
  subst hsz
  have hown : s.vm.findClass own = some m.cls := by rw [← ho]; exact findClass_of_methodNamed B.named
  have h := body (p, l, e, rm, s, m, as.toArray, below, meth, c, (0, 0), va_A (wd E σ) s.heap.size, MQ below (fun _ st oc t => oc = .returned r ∧ va_P E.1 vwCl (wd E σ') t.heap ∧ va_D (va_A (wd E σ) s.heap.size) (wd E σ') ∧ va_F (va_A (wd E σ) s.heap.size) st t) as.toArray s 0 0 (va_A (wd E σ) s.heap.size))
    ⟨B.exec, B.bytes, hml, hown, rfl, rfl, hK, hH, fun q h => Or.inr h, by rw [hc0]; exact Nat.le_refl 0, by rw [hs0]; exact Nat.le_refl 0⟩
    ⟨B.returns, B.notSynchronized, _, _, rfl, fun _ h => h, fun t h1 h2 h3 => ⟨rfl, h1, h2, h3⟩⟩
  rw [lg_entry_eq]
  exact h s.heap [] _ hP (hD.self) va_S.rf (lv_entry as hlen)
section RULES
variable {Γ : CX} {l : Launch} {cc : ByteArray} {nL : Nat} {own : String} {R : Room} {E : EV} {σ : ST} {pc : Nat} {lv : List (Nat × Value)} {st : List Value}
theorem g_iret {v : Int32} (C : FX Γ l cc nL own R E) (hR : RT Γ (some .int) E (some (.int v)) σ) (hd : decode cc pc = .ok (.ireturn, 1)) : GW Γ nL E σ pc lv [.int v] := by
  obtain ⟨p, l', e, R', s, m, args, below, meth, c, cs, A, Q⟩ := Γ
  obtain ⟨h1, h2, Qc, free, rfl, h3, h4⟩ := hR
  intro H locs ls hP hD hS hl
  exact W.iret C.1 C.2.1 h1 (fun t ht hW => h4 t (by rw [ht]; exact hP) hD (hS.F ht)) (fun q hq => h3 _ (hS.2.2 q hq)) hd h2
theorem g_zret {v : Int32} (C : FX Γ l cc nL own R E) (hR : RT Γ (some .boolean) E (some (.int v)) σ) (hv : v = 0 ∨ v = 1) (hd : decode cc pc = .ok (.ireturn, 1)) : GW Γ nL E σ pc lv [.int v] := by
  obtain ⟨p, l', e, R', s, m, args, below, meth, c, cs, A, Q⟩ := Γ
  obtain ⟨h1, h2, Qc, free, rfl, h3, h4⟩ := hR
  intro H locs ls hP hD hS hl
  exact W.zret C.1 C.2.1 h1 (by rcases hv with rfl | rfl <;> rfl) (fun t ht hW => h4 t (by rw [ht]; exact hP) hD (hS.F ht)) (fun q hq => h3 _ (hS.2.2 q hq)) hd h2
theorem g_lret {v : Int64} (C : FX Γ l cc nL own R E) (hR : RT Γ (some .long) E (some (.long v)) σ) (hd : decode cc pc = .ok (.lreturn, 1)) : GW Γ nL E σ pc lv [.long v] := by
  obtain ⟨p, l', e, R', s, m, args, below, meth, c, cs, A, Q⟩ := Γ
  obtain ⟨h1, h2, Qc, free, rfl, h3, h4⟩ := hR
  intro H locs ls hP hD hS hl
  exact W.lret C.1 C.2.1 h1 (fun t ht hW => h4 t (by rw [ht]; exact hP) hD (hS.F ht)) (fun q hq => h3 _ (hS.2.2 q hq)) hd h2
theorem g_vret (C : FX Γ l cc nL own R E) (hR : RT Γ none E none σ) (hd : decode cc pc = .ok (.return_, 1)) : GW Γ nL E σ pc lv [] := by
  obtain ⟨p, l', e, R', s, m, args, below, meth, c, cs, A, Q⟩ := Γ
  obtain ⟨h1, h2, Qc, free, rfl, h3, h4⟩ := hR
  intro H locs ls hP hD hS hl
  exact W.vret C.1 C.2.1 h1 (fun t ht hW => h4 t (by rw [ht]; exact hP) hD (hS.F ht)) (fun q hq => h3 _ (hS.2.2 q hq)) hd h2
theorem g_aret {v : Option Nat} {nm : String} (C : FX Γ l cc nL own R E) (hR : RT Γ (some (.object nm)) E (some (va_rf v)) σ) (hd : decode cc pc = .ok (.areturn, 1)) : GW Γ nL E σ pc lv [va_rf v] := by
  obtain ⟨p, l', e, R', s, m, args, below, meth, c, cs, A, Q⟩ := Γ
  obtain ⟨h1, h2, Qc, free, rfl, h3, h4⟩ := hR
  intro H locs ls hP hD hS hl
  exact W.aret C.1 C.2.1 h1 (Or.inl ⟨_, rfl⟩) (by cases v with | none => exact Or.inl rfl | some a => exact Or.inr ⟨a, rfl⟩) (fun t ht hW => h4 t (by rw [ht]; exact hP) hD (hS.F ht)) (fun q hq => h3 _ (hS.2.2 q hq)) hd h2
theorem g_lv (lv' : List (Nat × Value)) (ks : List Nat) (h : lv_pick lv ks = lv') (K : GW Γ nL E σ pc lv' st) : GW Γ nL E σ pc lv st := by
  obtain ⟨p, l', e, R', s, m, args, below, meth, c, cs, A, Q⟩ := Γ
  intro H locs ls hP hD hS hl
  exact K H locs ls hP hD hS (lv_sub hl ks h)
theorem g_topi {x y : Int32} (h : x = y) (K : GW Γ nL E σ pc lv (.int y :: st)) : GW Γ nL E σ pc lv (.int x :: st) := h ▸ K
theorem g_topl {x y : Int64} (h : x = y) (K : GW Γ nL E σ pc lv (.long y :: st)) : GW Γ nL E σ pc lv (.long x :: st) := h ▸ K
theorem g_topr {x y : Option Nat} (h : x = y) (K : GW Γ nL E σ pc lv (va_rf y :: st)) : GW Γ nL E σ pc lv (va_rf x :: st) := h ▸ K
theorem g_goto (C : FX Γ l cc nL own R E) {off : Int} {tgt : Nat} (hd : decode cc pc = .ok (.goto off, 3)) (ht : (pc : Int) + off = (tgt : Int)) (K : GW Γ nL E σ tgt lv st) : GW Γ nL E σ pc lv st := by
  obtain ⟨p, l', e, R', s, m, args, below, meth, c, cs, A, Q⟩ := Γ
  intro H locs ls hP hD hS hl
  exact lv_goto C.1 C.2.1 hd ht (K H locs ls hP hD hS hl)
theorem g_iinc (C : FX Γ l cc nL own R E) {i : Nat} {n : Int} {x v : Int32} (j : Nat) (hd : decode cc pc = .ok (.iinc i n, 3)) (hk : lv[j]? = some (i, .int x)) (hv : x + Int32.ofInt n = v) (hn : i < nL) (lv' : List (Nat × Value)) (hl0 : (i, Value.int v) :: lv.filter (fun q => !(q.1 == i) && !(q.1 + 1 == i && q.2.category == 2)) = lv') (K : GW Γ nL E σ (pc + 3) lv' st) : GW Γ nL E σ pc lv st := by
  obtain ⟨p, l', e, R', s, m, args, below, meth, c, cs, A, Q⟩ := Γ
  intro H locs ls hP hD hS hl
  exact lv_iinc C.1 C.2.1 hd hl hk hv hn hl0 (fun ls2 h2 => K H locs ls2 hP hD hS h2)
theorem g_ifnull (C : FX Γ l cc nL own R E) {x : Option Nat} {off : Int} {tgt : Nat} (hd : decode cc pc = .ok (.ifnull off, 3)) (ht : (pc : Int) + off = (tgt : Int)) (K1 : x = none → GW Γ nL E σ tgt lv st) (K2 : ∀ a, x = some a → GW Γ nL E σ (pc + 3) lv st) : GW Γ nL E σ pc lv (va_rf x :: st) := by
  obtain ⟨p, l', e, R', s, m, args, below, meth, c, cs, A, Q⟩ := Γ
  intro H locs ls hP hD hS hl
  cases x with
  | none => exact lv_ifnullN C.1 C.2.1 hd ht (K1 rfl H locs ls hP hD hS hl)
  | some a => exact lv_ifnull C.1 C.2.1 hd (K2 a rfl H locs ls hP hD hS hl)
theorem g_ifnonnull (C : FX Γ l cc nL own R E) {x : Option Nat} {off : Int} {tgt : Nat} (hd : decode cc pc = .ok (.ifnonnull off, 3)) (ht : (pc : Int) + off = (tgt : Int)) (K1 : ∀ a, x = some a → GW Γ nL E σ tgt lv st) (K2 : x = none → GW Γ nL E σ (pc + 3) lv st) : GW Γ nL E σ pc lv (va_rf x :: st) := by
  obtain ⟨p, l', e, R', s, m, args, below, meth, c, cs, A, Q⟩ := Γ
  intro H locs ls hP hD hS hl
  cases x with
  | none => exact lv_ifnonnullN C.1 C.2.1 hd (K2 rfl H locs ls hP hD hS hl)
  | some a => exact lv_ifnonnull C.1 C.2.1 hd ht (K1 a rfl H locs ls hP hD hS hl)
theorem g_aloadq_n (C : FX Γ l cc nL own R E) {k : Fin 4} {x : Option Nat} (j : Nat) (hd : decode cc pc = .ok (.aload_n k, 1)) (hl0 : lv[j]? = some ((k : Nat), va_rf x)) (K : GW Γ nL E σ (pc + 1) lv (va_rf x :: st)) : GW Γ nL E σ pc lv st := by
  obtain ⟨p, l', e, R', s, m, args, below, meth, c, cs, A, Q⟩ := Γ
  intro H locs ls hP hD hS hl
  cases x with
  | none => exact lv_aload_nN C.1 C.2.1 hd rfl (lv_at hl j hl0) (K H locs ls hP hD hS hl)
  | some a => exact lv_aload_n C.1 C.2.1 hd rfl (lv_at hl j hl0) (K H locs ls hP hD hS hl)
theorem g_aloadq (C : FX Γ l cc nL own R E) {k : Nat} {x : Option Nat} (j : Nat) (hd : decode cc pc = .ok (.aload k, 2)) (hl0 : lv[j]? = some (k, va_rf x)) (K : GW Γ nL E σ (pc + 2) lv (va_rf x :: st)) : GW Γ nL E σ pc lv st := by
  obtain ⟨p, l', e, R', s, m, args, below, meth, c, cs, A, Q⟩ := Γ
  intro H locs ls hP hD hS hl
  cases x with
  | none => exact lv_aloadN C.1 C.2.1 hd (lv_at hl j hl0) (K H locs ls hP hD hS hl)
  | some a => exact lv_aload C.1 C.2.1 hd (lv_at hl j hl0) (K H locs ls hP hD hS hl)
theorem g_astoreq_n (C : FX Γ l cc nL own R E) {k : Fin 4} {x : Option Nat} (hd : decode cc pc = .ok (.astore_n k, 1)) (hn : (k : Nat) < nL) (lv' : List (Nat × Value)) (hl0 : ((k : Nat), va_rf x) :: lv.filter (fun q => !(q.1 == (k : Nat)) && !(q.1 + 1 == (k : Nat) && q.2.category == 2)) = lv') (K : GW Γ nL E σ (pc + 1) lv' st) : GW Γ nL E σ pc lv (va_rf x :: st) := by
  obtain ⟨p, l', e, R', s, m, args, below, meth, c, cs, A, Q⟩ := Γ
  intro H locs ls hP hD hS hl
  cases x with
  | none => exact lv_astore_nN C.1 C.2.1 hd rfl hl hn hl0 (fun ls2 h2 => K H locs ls2 hP hD hS h2)
  | some a => exact lv_astore_n C.1 C.2.1 hd rfl hl hn hl0 (fun ls2 h2 => K H locs ls2 hP hD hS h2)
theorem g_astoreq (C : FX Γ l cc nL own R E) {k : Nat} {x : Option Nat} (hd : decode cc pc = .ok (.astore k, 2)) (hn : k < nL) (lv' : List (Nat × Value)) (hl0 : (k, va_rf x) :: lv.filter (fun q => !(q.1 == k) && !(q.1 + 1 == k && q.2.category == 2)) = lv') (K : GW Γ nL E σ (pc + 2) lv' st) : GW Γ nL E σ pc lv (va_rf x :: st) := by
  obtain ⟨p, l', e, R', s, m, args, below, meth, c, cs, A, Q⟩ := Γ
  intro H locs ls hP hD hS hl
  cases x with
  | none => exact lv_astoreN C.1 C.2.1 hd hl hn hl0 (fun ls2 h2 => K H locs ls2 hP hD hS h2)
  | some a => exact lv_astore C.1 C.2.1 hd hl hn hl0 (fun ls2 h2 => K H locs ls2 hP hD hS h2)
/-- a class of the system: its number, name, fields -/
def CLS (ci : Nat) (Cn : String) (T : u_T) (N : Nat) : Prop := vwCl[ci]? = some (Cn, T, N) ∧ (∀ w ∈ u_ws Cn T N, w ∈ lw_tbl ∧ (w.onTables && w.keeps) = true)
/-- a field that a class's code names: of the object o, at the place k -/
def FLD (own : String) (idx : Nat) (T : u_T) (k : Nat) : Prop := (Cond.fieldLink own idx (T k).1 (T k).2.1 (T k).2.2.1) ∈ lw_tbl
theorem fld_ok {a : Array Value} {s : State} {idx k : Nat} {T : u_T} (h : KT s) (hf : FLD own idx T k) : (Cond.fieldLink own idx (T k).1 (T k).2.1 (T k).2.2.1).before a s = true := h _ hf rfl a
theorem g_get (C : FX Γ l cc nL own R E) (o : Nat) {ci idx k N : Nat} {Cn : String} {T : u_T} {fs : List Value} {v : Value} (hd : decode cc pc = .ok (.getfield idx, 3)) (hc : CLS ci Cn T N) (hf : FLD own idx T k) (ho : o < 40) (hk : k < N) (hw : wc E σ o = .inr (ci, fs)) (hv : fs[k]? = some v) (K : GW Γ nL E σ (pc + 3) lv (v :: st)) : GW Γ nL E σ pc lv (.ref (E.2.1 o) :: st) := by
  obtain ⟨p, l', e, R', s, m, args, below, meth, c, cs, A, Q⟩ := Γ
  obtain ⟨hx, hb, hml, hown, hR', hl', hKE, hHE, hA, -⟩ := C
  intro H locs ls hP hD hS hl
  refine va_get (D := E.1) (Ts := u_ws Cn T N) hx hb (fun w h => hKE.1 w (hc.2 w h).1 (hc.2 w h).2 args) (fun _ h => h) hown hKE.2.1 hP o (by rw [wd_at E σ ho, hw]) hc.1 k hk (fld_ok hKE.1 hf) (fun _ h => h) hv hd (K H locs ls hP hD hS hl)
theorem g_put (C : FX Γ l cc nL own R E) (o : Nat) {ci idx k N : Nat} {Cn : String} {T : u_T} {fs : List Value} {v : Value} {ty : FieldType} (σ' : ST) (hd : decode cc pc = .ok (.putfield idx, 3)) (hc : CLS ci Cn T N) (hf : FLD own idx T k) (ty0 : Nat → FieldType) (hty : ∀ k, k < N → parseFieldDescriptor (T k).2.2.1 = some (ty0 k)) (hnm : ∀ a, a < N → ∀ b, b < N → a ≠ b → (T a).2.1 ≠ (T b).2.1) (ho : o < 40) (hk : k < N) (hfin : (T k).2.2.2 = false) (ht : ty0 k = ty) (hn : narrow ty v = v) (hfit : fits ty v = true) (hw : wc E σ o = .inr (ci, fs)) (hlen : k < fs.length)
    (hw' : wc E σ' o = .inr (ci, fs.set k v)) (h2 : ∀ j, j ≠ o → σ'.1 j = σ.1 j ∧ σ'.2.1 j = σ.2.1 j) (h4 : σ'.2.2 = σ.2.2) (K : GW Γ nL E σ' (pc + 3) lv st) : GW Γ nL E σ pc lv (v :: .ref (E.2.1 o) :: st) := by
  obtain ⟨p, l', e, R', s, m, args, below, meth, c, cs, A, Q⟩ := Γ
  obtain ⟨hx, hb, hml, hown, hR', hl', hKE, hHE, hA, -⟩ := C
  intro H locs ls hP hD hS hl
  have hset : (wd E σ).set o (E.2.1 o, .inr (ci, fs.set k v)) = wd E σ' := wd_set ho hw' h2 (Or.inr (by rw [h4])) (by rw [h4])
  refine va_put (D := E.1) (ty := ty) (Ts := u_ws Cn T N) hx hb (fun w h => hKE.1 w (hc.2 w h).1 (hc.2 w h).2 args) (fun _ h => h) ty0 hty hnm hown hKE.2.1 hP hD hS o (by rw [wd_at E σ ho, hw]) hc.1 k hk (fld_ok hKE.1 hf) (fun _ h => h) hfin (by rw [← ht]; exact hty k hk) hn hfit hlen hd (fun H1 locs1 hP1 hD1 hS1 => ?_)
  rw [hset] at hP1 hD1
  exact K H1 locs1 ls hP1 hD1 hS1 hl
theorem g_iald (C : FX Γ l cc nL own R E) (o : Nat) {n : Nat} {f : Nat → Int32} {i : Int32} (hd : decode cc pc = .ok (.iaload, 1)) (ho : o < 40) (hw : wc E σ o = .inl (E.2.2.1.1, n, .inl f)) (hi : vp_in i n) (K : GW Γ nL E σ (pc + 1) lv (.int (f i.toNatClampNeg) :: st)) : GW Γ nL E σ pc lv (.int i :: .ref (E.2.1 o) :: st) := by
  obtain ⟨p, l', e, R', s, m, args, below, meth, c, cs, A, Q⟩ := Γ
  obtain ⟨hx, hb, hml, hown, hR', hl', hKE, hHE, hA, -⟩ := C
  intro H locs ls hP hD hS hl
  exact va_iald hx hb hKE.2.1 hP o 0 (by rw [wd_at E σ ho, hw]) rfl hi hd (K H locs ls hP hD hS hl)
theorem g_iast (C : FX Γ l cc nL own R E) (o : Nat) {n : Nat} {i x : Int32} (σ' : ST) (hd : decode cc pc = .ok (.iastore, 1)) (ho : o < 40) (hw : ∀ τ : ST, wc E τ o = .inl (E.2.2.1.1, n, .inl (τ.1 o))) (hi : vp_in i n) (hσ : σ' = (va_up σ.1 o (va_up (σ.1 o) i.toNatClampNeg x), σ.2)) (K : GW Γ nL E σ' (pc + 1) lv st) : GW Γ nL E σ pc lv (.int x :: .int i :: .ref (E.2.1 o) :: st) := by
  obtain ⟨p, l', e, R', s, m, args, below, meth, c, cs, A, Q⟩ := Γ
  obtain ⟨hx, hb, hml, hown, hR', hl', hKE, hHE, hA, -⟩ := C
  subst hσ
  intro H locs ls hP hD hS hl
  have hset : (wd E σ).set o (E.2.1 o, .inl (E.2.2.1.1, n, .inl (upd (σ.1 o) i.toNatClampNeg x))) = wd E (va_up σ.1 o (va_up (σ.1 o) i.toNatClampNeg x), σ.2) := by
    refine wd_set ho ?_ (fun j hj => ⟨va_up_ne _ _ hj, rfl⟩) (Or.inr rfl) rfl
    rw [hw]
    show Sum.inl (E.2.2.1.1, n, Sum.inl (va_up σ.1 o (va_up (σ.1 o) i.toNatClampNeg x) o)) = _
    rw [va_up_self]
    rfl
  refine va_iast hx hb hKE.2.1 hP hD hS o 0 (by rw [wd_at E σ ho, hw]) rfl hi hd (fun H1 locs1 hP1 hD1 hS1 => ?_)
  rw [hset] at hP1 hD1
  exact K H1 locs1 ls hP1 hD1 hS1 hl
theorem g_lald (C : FX Γ l cc nL own R E) {i : Int32} (hd : decode cc pc = .ok (.laload, 1)) (hi : vp_in i 1024) (K : GW Γ nL E σ (pc + 1) lv (.long (σ.2.1 13 i.toNatClampNeg) :: st)) : GW Γ nL E σ pc lv (.int i :: .ref (E.2.1 13) :: st) := by
  obtain ⟨p, l', e, R', s, m, args, below, meth, c, cs, A, Q⟩ := Γ
  obtain ⟨hx, hb, hml, hown, hR', hl', hKE, hHE, hA, -⟩ := C
  intro H locs ls hP hD hS hl
  exact va_lald hx hb hKE.2.1 hP 13 1 (by rw [wd_at E σ (by decide)]; rfl) rfl hi hd (K H locs ls hP hD hS hl)
theorem g_last (C : FX Γ l cc nL own R E) {i : Int32} {x : Int64} (σ' : ST) (hd : decode cc pc = .ok (.lastore, 1)) (hi : vp_in i 1024) (hσ : σ' = (σ.1, va_up σ.2.1 13 (va_up (σ.2.1 13) i.toNatClampNeg x), σ.2.2)) (K : GW Γ nL E σ' (pc + 1) lv st) : GW Γ nL E σ pc lv (.long x :: .int i :: .ref (E.2.1 13) :: st) := by
  obtain ⟨p, l', e, R', s, m, args, below, meth, c, cs, A, Q⟩ := Γ
  obtain ⟨hx, hb, hml, hown, hR', hl', hKE, hHE, hA, -⟩ := C
  subst hσ
  intro H locs ls hP hD hS hl
  have hset : (wd E σ).set 13 (E.2.1 13, .inl (E.2.2.1.2.1, 1024, .inr (.inl (vp_updL (σ.2.1 13) i.toNatClampNeg x)))) = wd E (σ.1, va_up σ.2.1 13 (va_up (σ.2.1 13) i.toNatClampNeg x), σ.2.2) := by
    refine wd_set (by decide) rfl (fun j hj => ⟨rfl, va_up_ne _ _ hj⟩) (Or.inr rfl) rfl
  refine va_last hx hb hKE.2.1 hP hD hS 13 1 (by rw [wd_at E σ (by decide)]; rfl) rfl hi hd (fun H1 locs1 hP1 hD1 hS1 => ?_)
  rw [hset] at hP1 hD1
  exact K H1 locs1 ls hP1 hD1 hS1 hl
theorem g_aald (C : FX Γ l cc nL own R E) {i : Int32} (hd : decode cc pc = .ok (.aaload, 1)) (hi : vp_in i 8) (K : GW Γ nL E σ (pc + 1) lv (va_rf (σ.2.2.1 i.toNatClampNeg) :: st)) : GW Γ nL E σ pc lv (.int i :: .ref (E.2.1 5) :: st) := by
  obtain ⟨p, l', e, R', s, m, args, below, meth, c, cs, A, Q⟩ := Γ
  obtain ⟨hx, hb, hml, hown, hR', hl', hKE, hHE, hA, -⟩ := C
  intro H locs ls hP hD hS hl
  exact va_aldq hx hb hKE.2.1 hP 5 2 (by rw [wd_at E σ (by decide)]; rfl) rfl hi hd (K H locs ls hP hD hS hl)
theorem g_alen (C : FX Γ l cc nL own R E) (o t0 : Nat) {cA : ClassId} {x : vp_A} {ty : FieldType} {v : Int32} (hd : decode cc pc = .ok (.arraylength, 1)) (ho : o < 40) (hw : wc E σ o = .inl (cA, x)) (ht : [(E.2.2.1.1, FieldType.int), (E.2.2.1.2.1, .long), (E.2.2.1.2.2, .object "KeyStreets$Street")][t0]? = some (cA, ty)) (hv : Int32.ofNat x.1 = v) (K : GW Γ nL E σ (pc + 1) lv (.int v :: st)) : GW Γ nL E σ pc lv (.ref (E.2.1 o) :: st) := by
  obtain ⟨p, l', e, R', s, m, args, below, meth, c, cs, A, Q⟩ := Γ
  obtain ⟨hx, hb, hml, hown, hR', hl', hKE, hHE, hA, -⟩ := C
  intro H locs ls hP hD hS hl
  exact va_alen hx hb hKE.2.1 hP o t0 (by rw [wd_at E σ ho, hw]) ht hv hd (K H locs ls hP hD hS hl)
/-- behind a call -/
theorem g_after {p : Program} {e : Env} {s : State} {m : MethodId} {args : Array Value} {below : List Frame} {meth : Method} {c : Code} {H : Heap} {locs : List Loc} {cells slots : Nat} {Q : State → Prop} {ls : Array Slot} {rest st0 : List Value} {A0 A1 : Nat → Prop} {H0 : Heap} {free : Addr → Prop} {r : Option Value} {σ' : ST}
    (hr : va_Run p l e R s m args below meth c H locs cells slots 0 0 (F0 m pc ls st0) rest (fun st oc t => oc = .returned r ∧ va_P E.1 vwCl (wd E σ') t.heap ∧ va_D A1 (wd E σ') ∧ va_F A1 st t) free) (hS : va_S A0 H0 H locs) (hA : ∀ q, A1 q → A0 q) (hf : ∀ q, free q → A0 q)
    (kk : ∀ (H1 : Heap) (locs1 : List Loc), va_P E.1 vwCl (wd E σ') H1 → va_D A0 (wd E σ') → va_S A0 H0 H1 locs1 → W p l e R s m args below meth c H1 locs1 cells slots Q (F0 m (pc + 3) ls (r.toList ++ rest))) : W p l e R s m args below meth c H locs cells slots Q (F0 m pc ls st0) := by
  intro T hT X
  obtain ⟨v, st₀, t, T', L, h0, X', hL, e1, e2, ⟨hv, hP, hD, hz, hk⟩, st⟩ := hr T hT X
  cases hv
  rw [h0] at hz hk
  obtain ⟨t2, a1, b1⟩ := kk T'.heap (locs ++ L) (by rw [e1]; exact hP) (hD.weaken (fun _ _ _ h => hA _ h))
    ⟨Nat.le_trans hS.1 (by rw [e1]; exact hz), fun q h1 h2 => by rw [e1, hk q (Nat.lt_of_lt_of_le h1 hS.1) (fun z => h2 (hA q z))]; exact hS.2.1 q h1 h2, fun q hq => by
      rcases List.mem_append.mp hq with h | h
      · exact hS.2.2 q h
      · exact hf _ (hL q h)⟩ T' rfl X'
  exact ⟨t2, st t2 a1, b1⟩
theorem g_free {A0 : Nat → Prop} {H0 H : Heap} {locs : List Loc} (hD : va_D A0 (wd E σ)) (hS : va_S A0 H0 H locs) (hA : ∀ q, H0.size ≤ q → A0 q) : ∀ q, va_A (wd E σ) H.size q → A0 q := by
  intro q h
  rcases h with ⟨k, e, h⟩ | h
  · exact hD.2 k _ h
  · exact hA q (Nat.le_trans hS.1 h)
theorem g_pre {A0 : Nat → Prop} {s : State} {H : Heap} {locs : List Loc} (hKE : KE E s) (hHE : HE E A0 s s.heap) (hA : ∀ q, s.heap.size ≤ q → A0 q) (hP : va_P E.1 vwCl (wd E σ) H) (hD : va_D A0 (wd E σ)) (hS : va_S A0 s.heap H locs) (as : List Value) : PreS s H (va_Pc as (PRE E σ H.size)) as := by
  refine ⟨fun a U g mk h => ⟨h.1, h.2.calling⟩, fun U hU hW => ⟨rfl, by rw [hU], by rw [hU]; exact hP, hD.weaken (fun _ _ _ _ => trivial), hKE.warm hW, ?_⟩⟩
  rw [hU]
  exact HE.moved hW.alike ((hHE.kept hS.2.1).narrow (g_free hD hS hA))
/-- what a call of y from own's code needs of the tables: of a static one, of one of an object -/
def LKB (own : String) (idx : Nat) (y : MethodName) (bytes : ByteArray) (maxL : Nat) (ret : Option FieldType) (n : Nat) : Prop :=
  (Cond.code y bytes maxL ret ∈ lw_tbl) ∧ (Cond.initialized y.cls ∈ lw_tbl) ∧ (y.cls ≠ "java/lang/invoke/MethodHandle" ∧ y.cls ≠ "java/lang/invoke/VarHandle") ∧ ((parseMethodDescriptor y.desc).map (fun d => d.parameters.length) = some n) ∧ (Cond.methodLink own idx y ∈ lw_tbl)
def LKS (own : String) (idx : Nat) (y : MethodName) (bytes : ByteArray) (maxL : Nat) (ret : Option FieldType) (n : Nat) : Prop := LKB own idx y bytes maxL ret n ∧ Cond.static y ∈ lw_tbl
def LKV (own C : String) (idx : Nat) (y : MethodName) (bytes : ByteArray) (maxL : Nat) (ret : Option FieldType) (n : Nat) : Prop := LKB own idx y bytes maxL ret n ∧ Cond.instanceMethod y ∈ lw_tbl ∧ Cond.selects C y y ∈ lw_tbl
def FIT (R rm : Room) (maxL : Nat) : Prop := rm.cells = 0 ∧ rm.slots = 0 ∧ rm.frames + 1 ≤ R.frames ∧ 8 + (maxL + 11) + rm.locals ≤ R.locals
theorem g_callB {s : State} {args : Array Value} {idx maxL n : Nat} {y : MethodName} {bytes : ByteArray} {ret : Option FieldType} {rm : Room} (hK : KT s) (h : LKB own idx y bytes maxL ret n) (hR : FIT R rm maxL) : CallB R s args own idx y bytes maxL ret [.code y bytes maxL ret] rm 0 0 n :=
  ⟨hR.1, hR.2.1, hR.2.2.1, hR.2.2.2, fun w hw a' U hW => by rw [List.mem_singleton.mp hw]; exact (hK.warm hW) _ h.1 rfl a', List.mem_singleton.mpr rfl, hK _ h.1 rfl args, hK _ h.2.1 rfl args, h.2.2.1, fun sig hs => by have h2 := h.2.2.2.1; rw [hs] at h2; exact (Option.some.inj h2).symm, hK _ h.2.2.2.2 rfl args⟩
theorem g_callS (C : FX Γ l cc nL own R E) {idx maxL n : Nat} {y : MethodName} {bytes : ByteArray} {ret : Option FieldType} {rm : Room} {as : List Value} {r : Option Value} {σ' : ST} (hM : CT l E y bytes maxL ret rm as σ r σ') (hk : LKS own idx y bytes maxL ret n) (hR : FIT R rm maxL) (hn : as.length = n) (hroom : (st.map fun v => v.category).sum ≤ 8) (hd : decode cc pc = .ok (.invokestatic idx, 3)) (st0 : List Value) (hst : st0 = as.reverse ++ st) (K : GW Γ nL E σ' (pc + 3) lv (r.toList ++ st)) : GW Γ nL E σ pc lv st0 := by
  obtain ⟨p, l', e, R', s, m, args, below, meth, c, cs, A, Q⟩ := Γ
  obtain ⟨hx, hb, hml, hown, rfl, rfl, hKE, hHE, hA, hc1, hc2⟩ := C
  intro H locs ls hP hD hS hl
  have hfr := g_free hD hS hA
  exact g_after (va_runS (Ts := []) ⟨hx, hb, hml, hown, fun _ h => absurd h List.not_mem_nil⟩ (hM H.size) ⟨g_callB hKE.1 hk.1 hR, hKE.1 _ hk.2 rfl args⟩ (g_pre hKE hHE hA hP hD hS as) rfl hn hl.1 hst (lv_room hroom) hd ⟨hc1, hc2⟩) hS hfr hfr (fun H1 locs1 a1 a2 a3 => K H1 locs1 ls a1 a2 a3 hl)
theorem g_callV (C : FX Γ l cc nL own R E) (o : Nat) {ci idx maxL n N : Nat} {y : MethodName} {bytes : ByteArray} {ret : Option FieldType} {rm : Room} {Cn : String} {T : u_T} {fs : List Value} {as : List Value} {r : Option Value} {σ' : ST} (hM : CT l E y bytes maxL ret rm (.ref (E.2.1 o) :: as) σ r σ') (hc : CLS ci Cn T N) (hk : LKV own Cn idx y bytes maxL ret n) (hR : FIT R rm maxL) (ho : o < 40) (hw : wc E σ o = .inr (ci, fs)) (hn : as.length = n) (hroom : (st.map fun v => v.category).sum ≤ 8) (hd : decode cc pc = .ok (.invokevirtual idx, 3)) (st0 : List Value) (hst : st0 = as.reverse ++ .ref (E.2.1 o) :: st) (K : GW Γ nL E σ' (pc + 3) lv (r.toList ++ st)) : GW Γ nL E σ pc lv st0 := by
  obtain ⟨p, l', e, R', s, m, args, below, meth, c, cs, A, Q⟩ := Γ
  obtain ⟨hx, hb, hml, hown, rfl, rfl, hKE, hHE, hA, hc1, hc2⟩ := C
  intro H locs ls hP hD hS hl
  have hfr := g_free hD hS hA
  have hpre := g_pre hKE hHE hA hP hD hS (.ref (E.2.1 o) :: as)
  exact g_after (va_runV (Ts := []) (C := Cn) ⟨hx, hb, hml, hown, fun _ h => absurd h List.not_mem_nil⟩ (hM H.size) ⟨g_callB hKE.1 hk.1 hR, hKE.1 _ hk.2.1 rfl args, hKE.1 _ hk.2.2 rfl args⟩ ⟨hpre.1, va_recv hKE.2.1 hP (q0 := o) hc.1 (by rw [wd_at E σ ho, hw]), hpre.2⟩ rfl hn hl.1 hst (lv_room hroom) hd ⟨hc1, hc2⟩) hS hfr hfr (fun H1 locs1 a1 a2 a3 => K H1 locs1 ls a1 a2 a3 hl)
theorem g_ldc (C : FX Γ l cc nL own R E) {idx : Nat} {v : Int32} (hd : decode cc pc = .ok (.ldc idx, 2)) (hk : Cond.constant own idx v ∈ lw_tbl) (K : GW Γ nL E σ (pc + 2) lv (.int v :: st)) : GW Γ nL E σ pc lv st := by
  obtain ⟨p, l', e, R', s, m, args, below, meth, c, cs, A, Q⟩ := Γ
  obtain ⟨hx, hb, hml, hown, hR', hl', hKE, hHE, hA, -⟩ := C
  intro H locs ls hP hD hS hl
  exact lv_ldc hx hb hown (hKE.1 _ hk rfl args) hd (K H locs ls hP hD hS hl)
theorem g_ldc2 (C : FX Γ l cc nL own R E) {idx : Nat} {v : Int64} (hd : decode cc pc = .ok (.ldc2_w idx, 3)) (hk : Cond.constantLong own idx v ∈ lw_tbl) (K : GW Γ nL E σ (pc + 3) lv (.long v :: st)) : GW Γ nL E σ pc lv st := by
  obtain ⟨p, l', e, R', s, m, args, below, meth, c, cs, A, Q⟩ := Γ
  obtain ⟨hx, hb, hml, hown, hR', hl', hKE, hHE, hA, -⟩ := C
  intro H locs ls hP hD hS hl
  exact lv_ldc2 hx hb hown (hKE.1 _ hk rfl args) hd (K H locs ls hP hD hS hl)
theorem g_tabIn (C : FX Γ l cc nL own R E) {dflt lo hi : Int} {offs : Array Int} {len : Nat} {x : Int32} (v : Int32) {off : Int} {tgt : Nat} (hd : decode cc pc = .ok (.tableswitch dflt lo hi offs, len)) (hx : x = v) (h1 : ¬ v.toInt < lo) (h2 : ¬ hi < v.toInt) (ho : offs[(v.toInt - lo).toNat]? = some off) (ht : (pc : Int) + off = (tgt : Int)) (K : GW Γ nL E σ tgt lv st) : GW Γ nL E σ pc lv (.int x :: st) := by
  obtain ⟨p, l', e, R', s, m, args, below, meth, c, cs, A, Q⟩ := Γ
  subst hx
  intro H locs ls hP hD hS hl
  exact lv_tableIn C.1 C.2.1 hd h1 h2 ho ht (K H locs ls hP hD hS hl)
theorem g_tabOut (C : FX Γ l cc nL own R E) {dflt lo hi : Int} {offs : Array Int} {len : Nat} {x : Int32} {tgt : Nat} (hd : decode cc pc = .ok (.tableswitch dflt lo hi offs, len)) (h : x.toInt < lo ∨ hi < x.toInt) (ht : (pc : Int) + dflt = (tgt : Int)) (K : GW Γ nL E σ tgt lv st) : GW Γ nL E σ pc lv (.int x :: st) := by
  obtain ⟨p, l', e, R', s, m, args, below, meth, c, cs, A, Q⟩ := Γ
  intro H locs ls hP hD hS hl
  exact lv_tableOut C.1 C.2.1 hd h ht (K H locs ls hP hD hS hl)
theorem g_lookup (C : FX Γ l cc nL own R E) {dflt : Int} {ps : Array (Int × Int)} {len : Nat} {x : Int32} {off : Int} {tgt : Nat} (hd : decode cc pc = .ok (.lookupswitch dflt ps, len)) (hp : (ps.toList.zip (ps.toList.drop 1)).all (fun (a, next) => a.1 < next.1) = true) (ho : Op.lookupswitch.offset ps.toList dflt x.toInt = off) (ht : (pc : Int) + off = (tgt : Int)) (K : GW Γ nL E σ tgt lv st) : GW Γ nL E σ pc lv (.int x :: st) := by
  obtain ⟨p, l', e, R', s, m, args, below, meth, c, cs, A, Q⟩ := Γ
  intro H locs ls hP hD hS hl
  exact lv_lookup C.1 C.2.1 hd hp ho ht (K H locs ls hP hD hS hl)
end RULES
/-! Java's own numbers, by name -/
def j_shl (x y : Int32) : Int32 := x <<< (y &&& 31)
def j_shr (x y : Int32) : Int32 := x >>> (y &&& 31)
def j_rem (x y : Int32) : Int32 := x - x / y * y
def j_lrem (x y : Int64) : Int64 := x - x / y * y
def j_lushr (x : Int64) (y : Int32) : Int64 := (x.toUInt64 >>> (y.toInt64.toUInt64 &&& Int64.toUInt64 63)).toInt64
def j_lshl (x : Int64) (y : Int32) : Int64 := x <<< (y.toInt64 &&& 63)
def j_i2c (x : Int32) : Int32 := (x.toUInt32 % 65536).toInt32
/-- state with one int, one long changed -/
def uI (σ : ST) (o k : Nat) (x : Int32) : ST := (va_up σ.1 o (va_up (σ.1 o) k x), σ.2)
def uL (σ : ST) (o k : Nat) (x : Int64) : ST := (σ.1, va_up σ.2.1 o (va_up (σ.2.1 o) k x), σ.2.2)
def uA (σ : ST) (o : Nat) (f : Nat → Int32) : ST := (va_up σ.1 o f, σ.2)
theorem o_bind {α β : Type} {x : Option α} {f : α → Option β} {y : β} (h : x.bind f = some y) : ∃ a, x = some a ∧ f a = some y := Option.bind_eq_some_iff.mp h
theorem o_if {α : Type} {c : Prop} [Decidable c] {x : Option α} {y : α} (h : (if c then x else none) = some y) : c ∧ x = some y := by
  by_cases hc : c
  · rw [if_pos hc] at h; exact ⟨hc, h⟩
  · rw [if_neg hc] at h; cases h

theorem g_iadd {Γ : CX} {l : Launch} {cc : ByteArray} {nL : Nat} {own : String} {R : Room} {E : EV} {σ : ST} {pc : Nat} {lv : List (Nat × Value)} {st : List Value} (C : FX Γ l cc nL own R E) {x y : Int32} (hd : decode cc pc = .ok (.iadd, 1))  (K : GW Γ nL E σ (pc + 1) lv (.int (x + y) :: st)) : GW Γ nL E σ pc lv (.int y :: .int x :: st) := by
  obtain ⟨p, l', e, R', s, m, args, below, meth, c, ⟨cells, slots⟩, A, Q⟩ := Γ
  intro H locs ls hP hD hS hl
  exact lv_iadd C.1 C.2.1 hd (K H locs ls hP hD hS hl)
theorem g_isub {Γ : CX} {l : Launch} {cc : ByteArray} {nL : Nat} {own : String} {R : Room} {E : EV} {σ : ST} {pc : Nat} {lv : List (Nat × Value)} {st : List Value} (C : FX Γ l cc nL own R E) {x y : Int32} (hd : decode cc pc = .ok (.isub, 1))  (K : GW Γ nL E σ (pc + 1) lv (.int (x - y) :: st)) : GW Γ nL E σ pc lv (.int y :: .int x :: st) := by
  obtain ⟨p, l', e, R', s, m, args, below, meth, c, ⟨cells, slots⟩, A, Q⟩ := Γ
  intro H locs ls hP hD hS hl
  exact lv_isub C.1 C.2.1 hd (K H locs ls hP hD hS hl)
theorem g_imul {Γ : CX} {l : Launch} {cc : ByteArray} {nL : Nat} {own : String} {R : Room} {E : EV} {σ : ST} {pc : Nat} {lv : List (Nat × Value)} {st : List Value} (C : FX Γ l cc nL own R E) {x y : Int32} (hd : decode cc pc = .ok (.imul, 1))  (K : GW Γ nL E σ (pc + 1) lv (.int (x * y) :: st)) : GW Γ nL E σ pc lv (.int y :: .int x :: st) := by
  obtain ⟨p, l', e, R', s, m, args, below, meth, c, ⟨cells, slots⟩, A, Q⟩ := Γ
  intro H locs ls hP hD hS hl
  exact lv_imul C.1 C.2.1 hd (K H locs ls hP hD hS hl)
theorem g_iand {Γ : CX} {l : Launch} {cc : ByteArray} {nL : Nat} {own : String} {R : Room} {E : EV} {σ : ST} {pc : Nat} {lv : List (Nat × Value)} {st : List Value} (C : FX Γ l cc nL own R E) {x y : Int32} (hd : decode cc pc = .ok (.iand, 1))  (K : GW Γ nL E σ (pc + 1) lv (.int (x &&& y) :: st)) : GW Γ nL E σ pc lv (.int y :: .int x :: st) := by
  obtain ⟨p, l', e, R', s, m, args, below, meth, c, ⟨cells, slots⟩, A, Q⟩ := Γ
  intro H locs ls hP hD hS hl
  exact lv_iand C.1 C.2.1 hd (K H locs ls hP hD hS hl)
theorem g_ior {Γ : CX} {l : Launch} {cc : ByteArray} {nL : Nat} {own : String} {R : Room} {E : EV} {σ : ST} {pc : Nat} {lv : List (Nat × Value)} {st : List Value} (C : FX Γ l cc nL own R E) {x y : Int32} (hd : decode cc pc = .ok (.ior, 1))  (K : GW Γ nL E σ (pc + 1) lv (.int (x ||| y) :: st)) : GW Γ nL E σ pc lv (.int y :: .int x :: st) := by
  obtain ⟨p, l', e, R', s, m, args, below, meth, c, ⟨cells, slots⟩, A, Q⟩ := Γ
  intro H locs ls hP hD hS hl
  exact lv_ior C.1 C.2.1 hd (K H locs ls hP hD hS hl)
theorem g_ishl {Γ : CX} {l : Launch} {cc : ByteArray} {nL : Nat} {own : String} {R : Room} {E : EV} {σ : ST} {pc : Nat} {lv : List (Nat × Value)} {st : List Value} (C : FX Γ l cc nL own R E) {x y : Int32} (hd : decode cc pc = .ok (.ishl, 1))  (K : GW Γ nL E σ (pc + 1) lv (.int (j_shl x y) :: st)) : GW Γ nL E σ pc lv (.int y :: .int x :: st) := by
  obtain ⟨p, l', e, R', s, m, args, below, meth, c, ⟨cells, slots⟩, A, Q⟩ := Γ
  intro H locs ls hP hD hS hl
  exact lv_ishl C.1 C.2.1 hd (K H locs ls hP hD hS hl)
theorem g_ishr {Γ : CX} {l : Launch} {cc : ByteArray} {nL : Nat} {own : String} {R : Room} {E : EV} {σ : ST} {pc : Nat} {lv : List (Nat × Value)} {st : List Value} (C : FX Γ l cc nL own R E) {x y : Int32} (hd : decode cc pc = .ok (.ishr, 1))  (K : GW Γ nL E σ (pc + 1) lv (.int (j_shr x y) :: st)) : GW Γ nL E σ pc lv (.int y :: .int x :: st) := by
  obtain ⟨p, l', e, R', s, m, args, below, meth, c, ⟨cells, slots⟩, A, Q⟩ := Γ
  intro H locs ls hP hD hS hl
  exact lv_ishr C.1 C.2.1 hd (K H locs ls hP hD hS hl)
theorem g_ladd {Γ : CX} {l : Launch} {cc : ByteArray} {nL : Nat} {own : String} {R : Room} {E : EV} {σ : ST} {pc : Nat} {lv : List (Nat × Value)} {st : List Value} (C : FX Γ l cc nL own R E) {x y : Int64} (hd : decode cc pc = .ok (.ladd, 1))  (K : GW Γ nL E σ (pc + 1) lv (.long (x + y) :: st)) : GW Γ nL E σ pc lv (.long y :: .long x :: st) := by
  obtain ⟨p, l', e, R', s, m, args, below, meth, c, ⟨cells, slots⟩, A, Q⟩ := Γ
  intro H locs ls hP hD hS hl
  exact lv_ladd C.1 C.2.1 hd (K H locs ls hP hD hS hl)
theorem g_lsub {Γ : CX} {l : Launch} {cc : ByteArray} {nL : Nat} {own : String} {R : Room} {E : EV} {σ : ST} {pc : Nat} {lv : List (Nat × Value)} {st : List Value} (C : FX Γ l cc nL own R E) {x y : Int64} (hd : decode cc pc = .ok (.lsub, 1))  (K : GW Γ nL E σ (pc + 1) lv (.long (x - y) :: st)) : GW Γ nL E σ pc lv (.long y :: .long x :: st) := by
  obtain ⟨p, l', e, R', s, m, args, below, meth, c, ⟨cells, slots⟩, A, Q⟩ := Γ
  intro H locs ls hP hD hS hl
  exact lv_lsub C.1 C.2.1 hd (K H locs ls hP hD hS hl)
theorem g_lmul {Γ : CX} {l : Launch} {cc : ByteArray} {nL : Nat} {own : String} {R : Room} {E : EV} {σ : ST} {pc : Nat} {lv : List (Nat × Value)} {st : List Value} (C : FX Γ l cc nL own R E) {x y : Int64} (hd : decode cc pc = .ok (.lmul, 1))  (K : GW Γ nL E σ (pc + 1) lv (.long (x * y) :: st)) : GW Γ nL E σ pc lv (.long y :: .long x :: st) := by
  obtain ⟨p, l', e, R', s, m, args, below, meth, c, ⟨cells, slots⟩, A, Q⟩ := Γ
  intro H locs ls hP hD hS hl
  exact lv_lmul C.1 C.2.1 hd (K H locs ls hP hD hS hl)
theorem g_land {Γ : CX} {l : Launch} {cc : ByteArray} {nL : Nat} {own : String} {R : Room} {E : EV} {σ : ST} {pc : Nat} {lv : List (Nat × Value)} {st : List Value} (C : FX Γ l cc nL own R E) {x y : Int64} (hd : decode cc pc = .ok (.land, 1))  (K : GW Γ nL E σ (pc + 1) lv (.long (x &&& y) :: st)) : GW Γ nL E σ pc lv (.long y :: .long x :: st) := by
  obtain ⟨p, l', e, R', s, m, args, below, meth, c, ⟨cells, slots⟩, A, Q⟩ := Γ
  intro H locs ls hP hD hS hl
  exact lv_land C.1 C.2.1 hd (K H locs ls hP hD hS hl)
theorem g_lor {Γ : CX} {l : Launch} {cc : ByteArray} {nL : Nat} {own : String} {R : Room} {E : EV} {σ : ST} {pc : Nat} {lv : List (Nat × Value)} {st : List Value} (C : FX Γ l cc nL own R E) {x y : Int64} (hd : decode cc pc = .ok (.lor, 1))  (K : GW Γ nL E σ (pc + 1) lv (.long (x ||| y) :: st)) : GW Γ nL E σ pc lv (.long y :: .long x :: st) := by
  obtain ⟨p, l', e, R', s, m, args, below, meth, c, ⟨cells, slots⟩, A, Q⟩ := Γ
  intro H locs ls hP hD hS hl
  exact lv_lor C.1 C.2.1 hd (K H locs ls hP hD hS hl)
theorem g_lxor {Γ : CX} {l : Launch} {cc : ByteArray} {nL : Nat} {own : String} {R : Room} {E : EV} {σ : ST} {pc : Nat} {lv : List (Nat × Value)} {st : List Value} (C : FX Γ l cc nL own R E) {x y : Int64} (hd : decode cc pc = .ok (.lxor, 1))  (K : GW Γ nL E σ (pc + 1) lv (.long (x ^^^ y) :: st)) : GW Γ nL E σ pc lv (.long y :: .long x :: st) := by
  obtain ⟨p, l', e, R', s, m, args, below, meth, c, ⟨cells, slots⟩, A, Q⟩ := Γ
  intro H locs ls hP hD hS hl
  exact lv_lxor C.1 C.2.1 hd (K H locs ls hP hD hS hl)
theorem g_idiv {Γ : CX} {l : Launch} {cc : ByteArray} {nL : Nat} {own : String} {R : Room} {E : EV} {σ : ST} {pc : Nat} {lv : List (Nat × Value)} {st : List Value} (C : FX Γ l cc nL own R E) {x y : Int32} (hd : decode cc pc = .ok (.idiv, 1)) (hne : ¬ y = 0) (K : GW Γ nL E σ (pc + 1) lv (.int (x / y) :: st)) : GW Γ nL E σ pc lv (.int y :: .int x :: st) := by
  obtain ⟨p, l', e, R', s, m, args, below, meth, c, ⟨cells, slots⟩, A, Q⟩ := Γ
  intro H locs ls hP hD hS hl
  exact lv_idiv C.1 C.2.1 hd hne (K H locs ls hP hD hS hl)
theorem g_irem {Γ : CX} {l : Launch} {cc : ByteArray} {nL : Nat} {own : String} {R : Room} {E : EV} {σ : ST} {pc : Nat} {lv : List (Nat × Value)} {st : List Value} (C : FX Γ l cc nL own R E) {x y : Int32} (hd : decode cc pc = .ok (.irem, 1)) (hne : ¬ y = 0) (K : GW Γ nL E σ (pc + 1) lv (.int (j_rem x y) :: st)) : GW Γ nL E σ pc lv (.int y :: .int x :: st) := by
  obtain ⟨p, l', e, R', s, m, args, below, meth, c, ⟨cells, slots⟩, A, Q⟩ := Γ
  intro H locs ls hP hD hS hl
  exact lv_irem C.1 C.2.1 hd hne (K H locs ls hP hD hS hl)
theorem g_ldiv {Γ : CX} {l : Launch} {cc : ByteArray} {nL : Nat} {own : String} {R : Room} {E : EV} {σ : ST} {pc : Nat} {lv : List (Nat × Value)} {st : List Value} (C : FX Γ l cc nL own R E) {x y : Int64} (hd : decode cc pc = .ok (.ldiv, 1)) (hne : ¬ y = 0) (K : GW Γ nL E σ (pc + 1) lv (.long (x / y) :: st)) : GW Γ nL E σ pc lv (.long y :: .long x :: st) := by
  obtain ⟨p, l', e, R', s, m, args, below, meth, c, ⟨cells, slots⟩, A, Q⟩ := Γ
  intro H locs ls hP hD hS hl
  exact lv_ldiv C.1 C.2.1 hd hne (K H locs ls hP hD hS hl)
theorem g_lrem {Γ : CX} {l : Launch} {cc : ByteArray} {nL : Nat} {own : String} {R : Room} {E : EV} {σ : ST} {pc : Nat} {lv : List (Nat × Value)} {st : List Value} (C : FX Γ l cc nL own R E) {x y : Int64} (hd : decode cc pc = .ok (.lrem, 1)) (hne : ¬ y = 0) (K : GW Γ nL E σ (pc + 1) lv (.long (j_lrem x y) :: st)) : GW Γ nL E σ pc lv (.long y :: .long x :: st) := by
  obtain ⟨p, l', e, R', s, m, args, below, meth, c, ⟨cells, slots⟩, A, Q⟩ := Γ
  intro H locs ls hP hD hS hl
  exact lv_lrem C.1 C.2.1 hd hne (K H locs ls hP hD hS hl)
theorem g_lushr {Γ : CX} {l : Launch} {cc : ByteArray} {nL : Nat} {own : String} {R : Room} {E : EV} {σ : ST} {pc : Nat} {lv : List (Nat × Value)} {st : List Value} (C : FX Γ l cc nL own R E) {x : Int64} {y : Int32} (hd : decode cc pc = .ok (.lushr, 1))  (K : GW Γ nL E σ (pc + 1) lv (.long (j_lushr x y) :: st)) : GW Γ nL E σ pc lv (.int y :: .long x :: st) := by
  obtain ⟨p, l', e, R', s, m, args, below, meth, c, ⟨cells, slots⟩, A, Q⟩ := Γ
  intro H locs ls hP hD hS hl
  exact lv_lushr C.1 C.2.1 hd rfl (K H locs ls hP hD hS hl)
theorem g_lshl {Γ : CX} {l : Launch} {cc : ByteArray} {nL : Nat} {own : String} {R : Room} {E : EV} {σ : ST} {pc : Nat} {lv : List (Nat × Value)} {st : List Value} (C : FX Γ l cc nL own R E) {x : Int64} {y : Int32} (hd : decode cc pc = .ok (.lshl, 1))  (K : GW Γ nL E σ (pc + 1) lv (.long (j_lshl x y) :: st)) : GW Γ nL E σ pc lv (.int y :: .long x :: st) := by
  obtain ⟨p, l', e, R', s, m, args, below, meth, c, ⟨cells, slots⟩, A, Q⟩ := Γ
  intro H locs ls hP hD hS hl
  exact lv_lshl C.1 C.2.1 hd rfl (K H locs ls hP hD hS hl)
theorem g_ineg {Γ : CX} {l : Launch} {cc : ByteArray} {nL : Nat} {own : String} {R : Room} {E : EV} {σ : ST} {pc : Nat} {lv : List (Nat × Value)} {st : List Value} (C : FX Γ l cc nL own R E) {x : Int32} (hd : decode cc pc = .ok (.ineg, 1))  (K : GW Γ nL E σ (pc + 1) lv (.int (-x) :: st)) : GW Γ nL E σ pc lv (.int x :: st) := by
  obtain ⟨p, l', e, R', s, m, args, below, meth, c, ⟨cells, slots⟩, A, Q⟩ := Γ
  intro H locs ls hP hD hS hl
  exact lv_ineg C.1 C.2.1 hd (K H locs ls hP hD hS hl)
theorem g_l2i {Γ : CX} {l : Launch} {cc : ByteArray} {nL : Nat} {own : String} {R : Room} {E : EV} {σ : ST} {pc : Nat} {lv : List (Nat × Value)} {st : List Value} (C : FX Γ l cc nL own R E) {x : Int64} (hd : decode cc pc = .ok (.l2i, 1))  (K : GW Γ nL E σ (pc + 1) lv (.int x.toInt32 :: st)) : GW Γ nL E σ pc lv (.long x :: st) := by
  obtain ⟨p, l', e, R', s, m, args, below, meth, c, ⟨cells, slots⟩, A, Q⟩ := Γ
  intro H locs ls hP hD hS hl
  exact lv_l2i C.1 C.2.1 hd rfl (K H locs ls hP hD hS hl)
theorem g_i2l {Γ : CX} {l : Launch} {cc : ByteArray} {nL : Nat} {own : String} {R : Room} {E : EV} {σ : ST} {pc : Nat} {lv : List (Nat × Value)} {st : List Value} (C : FX Γ l cc nL own R E) {x : Int32} (hd : decode cc pc = .ok (.i2l, 1))  (K : GW Γ nL E σ (pc + 1) lv (.long x.toInt64 :: st)) : GW Γ nL E σ pc lv (.int x :: st) := by
  obtain ⟨p, l', e, R', s, m, args, below, meth, c, ⟨cells, slots⟩, A, Q⟩ := Γ
  intro H locs ls hP hD hS hl
  exact lv_i2l C.1 C.2.1 hd rfl (K H locs ls hP hD hS hl)
theorem g_i2c {Γ : CX} {l : Launch} {cc : ByteArray} {nL : Nat} {own : String} {R : Room} {E : EV} {σ : ST} {pc : Nat} {lv : List (Nat × Value)} {st : List Value} (C : FX Γ l cc nL own R E) {x : Int32} (hd : decode cc pc = .ok (.i2c, 1))  (K : GW Γ nL E σ (pc + 1) lv (.int (j_i2c x) :: st)) : GW Γ nL E σ pc lv (.int x :: st) := by
  obtain ⟨p, l', e, R', s, m, args, below, meth, c, ⟨cells, slots⟩, A, Q⟩ := Γ
  intro H locs ls hP hD hS hl
  exact lv_i2c C.1 C.2.1 hd rfl (K H locs ls hP hD hS hl)
theorem g_i2b {Γ : CX} {l : Launch} {cc : ByteArray} {nL : Nat} {own : String} {R : Room} {E : EV} {σ : ST} {pc : Nat} {lv : List (Nat × Value)} {st : List Value} (C : FX Γ l cc nL own R E) {x : Int32} (hd : decode cc pc = .ok (.i2b, 1))  (K : GW Γ nL E σ (pc + 1) lv (.int x.toInt8.toInt32 :: st)) : GW Γ nL E σ pc lv (.int x :: st) := by
  obtain ⟨p, l', e, R', s, m, args, below, meth, c, ⟨cells, slots⟩, A, Q⟩ := Γ
  intro H locs ls hP hD hS hl
  exact lv_i2b C.1 C.2.1 hd rfl (K H locs ls hP hD hS hl)
theorem g_iconst {Γ : CX} {l : Launch} {cc : ByteArray} {nL : Nat} {own : String} {R : Room} {E : EV} {σ : ST} {pc : Nat} {lv : List (Nat × Value)} {st : List Value} (C : FX Γ l cc nL own R E) {n : Int} {v : Int32} (hd : decode cc pc = .ok (.iconst n, 1)) (hv : Int32.ofInt n = v) (K : GW Γ nL E σ (pc + 1) lv (.int v :: st)) : GW Γ nL E σ pc lv (st) := by
  obtain ⟨p, l', e, R', s, m, args, below, meth, c, ⟨cells, slots⟩, A, Q⟩ := Γ
  intro H locs ls hP hD hS hl
  exact lv_iconst C.1 C.2.1 hd hv (K H locs ls hP hD hS hl)
theorem g_bipush {Γ : CX} {l : Launch} {cc : ByteArray} {nL : Nat} {own : String} {R : Room} {E : EV} {σ : ST} {pc : Nat} {lv : List (Nat × Value)} {st : List Value} (C : FX Γ l cc nL own R E) {n : Int} {v : Int32} (hd : decode cc pc = .ok (.bipush n, 2)) (hv : (Int8.ofInt n).toInt32 = v) (K : GW Γ nL E σ (pc + 2) lv (.int v :: st)) : GW Γ nL E σ pc lv (st) := by
  obtain ⟨p, l', e, R', s, m, args, below, meth, c, ⟨cells, slots⟩, A, Q⟩ := Γ
  intro H locs ls hP hD hS hl
  exact lv_bipush C.1 C.2.1 hd hv (K H locs ls hP hD hS hl)
theorem g_sipush {Γ : CX} {l : Launch} {cc : ByteArray} {nL : Nat} {own : String} {R : Room} {E : EV} {σ : ST} {pc : Nat} {lv : List (Nat × Value)} {st : List Value} (C : FX Γ l cc nL own R E) {n : Int} {v : Int32} (hd : decode cc pc = .ok (.sipush n, 3)) (hv : (Int16.ofInt n).toInt32 = v) (K : GW Γ nL E σ (pc + 3) lv (.int v :: st)) : GW Γ nL E σ pc lv (st) := by
  obtain ⟨p, l', e, R', s, m, args, below, meth, c, ⟨cells, slots⟩, A, Q⟩ := Γ
  intro H locs ls hP hD hS hl
  exact lv_sipush C.1 C.2.1 hd hv (K H locs ls hP hD hS hl)
theorem g_lconst {Γ : CX} {l : Launch} {cc : ByteArray} {nL : Nat} {own : String} {R : Room} {E : EV} {σ : ST} {pc : Nat} {lv : List (Nat × Value)} {st : List Value} (C : FX Γ l cc nL own R E) {n : Fin 2} {v : Int64} (hd : decode cc pc = .ok (.lconst n, 1)) (hv : Int64.ofNat (n : Nat) = v) (K : GW Γ nL E σ (pc + 1) lv (.long v :: st)) : GW Γ nL E σ pc lv (st) := by
  obtain ⟨p, l', e, R', s, m, args, below, meth, c, ⟨cells, slots⟩, A, Q⟩ := Γ
  intro H locs ls hP hD hS hl
  exact lv_lconst C.1 C.2.1 hd hv (K H locs ls hP hD hS hl)
theorem g_null {Γ : CX} {l : Launch} {cc : ByteArray} {nL : Nat} {own : String} {R : Room} {E : EV} {σ : ST} {pc : Nat} {lv : List (Nat × Value)} {st : List Value} (C : FX Γ l cc nL own R E)  (hd : decode cc pc = .ok (.aconst_null, 1))  (K : GW Γ nL E σ (pc + 1) lv (.null :: st)) : GW Γ nL E σ pc lv (st) := by
  obtain ⟨p, l', e, R', s, m, args, below, meth, c, ⟨cells, slots⟩, A, Q⟩ := Γ
  intro H locs ls hP hD hS hl
  exact lv_null C.1 C.2.1 hd (K H locs ls hP hD hS hl)
theorem g_dup {Γ : CX} {l : Launch} {cc : ByteArray} {nL : Nat} {own : String} {R : Room} {E : EV} {σ : ST} {pc : Nat} {lv : List (Nat × Value)} {st : List Value} (C : FX Γ l cc nL own R E) {v : Value} (hd : decode cc pc = .ok (.dup, 1)) (hv : v.category = 1) (K : GW Γ nL E σ (pc + 1) lv (v :: v :: st)) : GW Γ nL E σ pc lv (v :: st) := by
  obtain ⟨p, l', e, R', s, m, args, below, meth, c, ⟨cells, slots⟩, A, Q⟩ := Γ
  intro H locs ls hP hD hS hl
  exact lv_dup C.1 C.2.1 hd hv (K H locs ls hP hD hS hl)
theorem g_pop {Γ : CX} {l : Launch} {cc : ByteArray} {nL : Nat} {own : String} {R : Room} {E : EV} {σ : ST} {pc : Nat} {lv : List (Nat × Value)} {st : List Value} (C : FX Γ l cc nL own R E) {v : Value} (hd : decode cc pc = .ok (.pop, 1)) (hv : v.category = 1) (K : GW Γ nL E σ (pc + 1) lv (st)) : GW Γ nL E σ pc lv (v :: st) := by
  obtain ⟨p, l', e, R', s, m, args, below, meth, c, ⟨cells, slots⟩, A, Q⟩ := Γ
  intro H locs ls hP hD hS hl
  exact lv_pop C.1 C.2.1 hd hv (K H locs ls hP hD hS hl)
theorem g_dup2 {Γ : CX} {l : Launch} {cc : ByteArray} {nL : Nat} {own : String} {R : Room} {E : EV} {σ : ST} {pc : Nat} {lv : List (Nat × Value)} {st : List Value} (C : FX Γ l cc nL own R E) {v1 v2 : Value} (hd : decode cc pc = .ok (.dup2, 1)) (hv1 : v1.category = 1) (hv2 : v2.category = 1) (K : GW Γ nL E σ (pc + 1) lv (v1 :: v2 :: v1 :: v2 :: st)) : GW Γ nL E σ pc lv (v1 :: v2 :: st) := by
  obtain ⟨p, l', e, R', s, m, args, below, meth, c, ⟨cells, slots⟩, A, Q⟩ := Γ
  intro H locs ls hP hD hS hl
  exact lv_dup2_11 C.1 C.2.1 hd hv1 hv2 (K H locs ls hP hD hS hl)
theorem g_dup_x1 {Γ : CX} {l : Launch} {cc : ByteArray} {nL : Nat} {own : String} {R : Room} {E : EV} {σ : ST} {pc : Nat} {lv : List (Nat × Value)} {st : List Value} (C : FX Γ l cc nL own R E) {v1 v2 : Value} (hd : decode cc pc = .ok (.dup_x1, 1)) (hv1 : v1.category = 1) (hv2 : v2.category = 1) (K : GW Γ nL E σ (pc + 1) lv (v1 :: v2 :: v1 :: st)) : GW Γ nL E σ pc lv (v1 :: v2 :: st) := by
  obtain ⟨p, l', e, R', s, m, args, below, meth, c, ⟨cells, slots⟩, A, Q⟩ := Γ
  intro H locs ls hP hD hS hl
  exact lv_dup_x1 C.1 C.2.1 hd hv1 hv2 (K H locs ls hP hD hS hl)
theorem g_lcmp {Γ : CX} {l : Launch} {cc : ByteArray} {nL : Nat} {own : String} {R : Room} {E : EV} {σ : ST} {pc : Nat} {lv : List (Nat × Value)} {st : List Value} (C : FX Γ l cc nL own R E) {x y : Int64} (hd : decode cc pc = .ok (.lcmp, 1))  (K : GW Γ nL E σ (pc + 1) lv (.int (lg_cmp x y) :: st)) : GW Γ nL E σ pc lv (.long y :: .long x :: st) := by
  obtain ⟨p, l', e, R', s, m, args, below, meth, c, ⟨cells, slots⟩, A, Q⟩ := Γ
  intro H locs ls hP hD hS hl
  exact W.lcmp C.1 C.2.1 hd (K H locs ls hP hD hS hl)
theorem g_iload_n {Γ : CX} {l : Launch} {cc : ByteArray} {nL : Nat} {own : String} {R : Room} {E : EV} {σ : ST} {pc : Nat} {lv : List (Nat × Value)} {st : List Value} (C : FX Γ l cc nL own R E) {k : Fin 4} {x : Int32} (j : Nat) (hd : decode cc pc = .ok (.iload_n k, 1)) (hl0 : lv[j]? = some ((k : Nat), .int x)) (K : GW Γ nL E σ (pc + 1) lv (.int x :: st)) : GW Γ nL E σ pc lv (st) := by
  obtain ⟨p, l', e, R', s, m, args, below, meth, c, ⟨cells, slots⟩, A, Q⟩ := Γ
  intro H locs ls hP hD hS hl
  exact lv_iload_n C.1 C.2.1 hd rfl (lv_at hl j hl0) (K H locs ls hP hD hS hl)
theorem g_iload {Γ : CX} {l : Launch} {cc : ByteArray} {nL : Nat} {own : String} {R : Room} {E : EV} {σ : ST} {pc : Nat} {lv : List (Nat × Value)} {st : List Value} (C : FX Γ l cc nL own R E) {k : Nat} {x : Int32} (j : Nat) (hd : decode cc pc = .ok (.iload k, 2)) (hl0 : lv[j]? = some (k, .int x)) (K : GW Γ nL E σ (pc + 2) lv (.int x :: st)) : GW Γ nL E σ pc lv (st) := by
  obtain ⟨p, l', e, R', s, m, args, below, meth, c, ⟨cells, slots⟩, A, Q⟩ := Γ
  intro H locs ls hP hD hS hl
  exact lv_iload C.1 C.2.1 hd (lv_at hl j hl0) (K H locs ls hP hD hS hl)
theorem g_lload_n {Γ : CX} {l : Launch} {cc : ByteArray} {nL : Nat} {own : String} {R : Room} {E : EV} {σ : ST} {pc : Nat} {lv : List (Nat × Value)} {st : List Value} (C : FX Γ l cc nL own R E) {k : Fin 4} {x : Int64} (j : Nat) (hd : decode cc pc = .ok (.lload_n k, 1)) (hl0 : lv[j]? = some ((k : Nat), .long x)) (K : GW Γ nL E σ (pc + 1) lv (.long x :: st)) : GW Γ nL E σ pc lv (st) := by
  obtain ⟨p, l', e, R', s, m, args, below, meth, c, ⟨cells, slots⟩, A, Q⟩ := Γ
  intro H locs ls hP hD hS hl
  exact lv_lload_n C.1 C.2.1 hd rfl (lv_at hl j hl0) (K H locs ls hP hD hS hl)
theorem g_lload {Γ : CX} {l : Launch} {cc : ByteArray} {nL : Nat} {own : String} {R : Room} {E : EV} {σ : ST} {pc : Nat} {lv : List (Nat × Value)} {st : List Value} (C : FX Γ l cc nL own R E) {k : Nat} {x : Int64} (j : Nat) (hd : decode cc pc = .ok (.lload k, 2)) (hl0 : lv[j]? = some (k, .long x)) (K : GW Γ nL E σ (pc + 2) lv (.long x :: st)) : GW Γ nL E σ pc lv (st) := by
  obtain ⟨p, l', e, R', s, m, args, below, meth, c, ⟨cells, slots⟩, A, Q⟩ := Γ
  intro H locs ls hP hD hS hl
  exact lv_lload C.1 C.2.1 hd (lv_at hl j hl0) (K H locs ls hP hD hS hl)
theorem g_aload_n {Γ : CX} {l : Launch} {cc : ByteArray} {nL : Nat} {own : String} {R : Room} {E : EV} {σ : ST} {pc : Nat} {lv : List (Nat × Value)} {st : List Value} (C : FX Γ l cc nL own R E) {k : Fin 4} {x : Nat} (j : Nat) (hd : decode cc pc = .ok (.aload_n k, 1)) (hl0 : lv[j]? = some ((k : Nat), .ref x)) (K : GW Γ nL E σ (pc + 1) lv (.ref x :: st)) : GW Γ nL E σ pc lv (st) := by
  obtain ⟨p, l', e, R', s, m, args, below, meth, c, ⟨cells, slots⟩, A, Q⟩ := Γ
  intro H locs ls hP hD hS hl
  exact lv_aload_n C.1 C.2.1 hd rfl (lv_at hl j hl0) (K H locs ls hP hD hS hl)
theorem g_aload {Γ : CX} {l : Launch} {cc : ByteArray} {nL : Nat} {own : String} {R : Room} {E : EV} {σ : ST} {pc : Nat} {lv : List (Nat × Value)} {st : List Value} (C : FX Γ l cc nL own R E) {k : Nat} {x : Nat} (j : Nat) (hd : decode cc pc = .ok (.aload k, 2)) (hl0 : lv[j]? = some (k, .ref x)) (K : GW Γ nL E σ (pc + 2) lv (.ref x :: st)) : GW Γ nL E σ pc lv (st) := by
  obtain ⟨p, l', e, R', s, m, args, below, meth, c, ⟨cells, slots⟩, A, Q⟩ := Γ
  intro H locs ls hP hD hS hl
  exact lv_aload C.1 C.2.1 hd (lv_at hl j hl0) (K H locs ls hP hD hS hl)
theorem g_istore_n {Γ : CX} {l : Launch} {cc : ByteArray} {nL : Nat} {own : String} {R : Room} {E : EV} {σ : ST} {pc : Nat} {lv : List (Nat × Value)} {st : List Value} (C : FX Γ l cc nL own R E) {k : Fin 4} {x : Int32} (hd : decode cc pc = .ok (.istore_n k, 1)) (hn : (k : Nat) < nL) (lv' : List (Nat × Value)) (hl0 : ((k : Nat), Value.int x) :: lv.filter (fun q => !(q.1 == (k : Nat)) && !(q.1 + 1 == (k : Nat) && q.2.category == 2)) = lv') (K : GW Γ nL E σ (pc + 1) lv' st) : GW Γ nL E σ pc lv (Value.int x :: st) := by
  obtain ⟨p, l', e, R', s, m, args, below, meth, c, ⟨cells, slots⟩, A, Q⟩ := Γ
  intro H locs ls hP hD hS hl
  exact lv_istore_n C.1 C.2.1 hd rfl hl hn hl0 (fun ls2 h2 => K H locs ls2 hP hD hS h2)
theorem g_istore {Γ : CX} {l : Launch} {cc : ByteArray} {nL : Nat} {own : String} {R : Room} {E : EV} {σ : ST} {pc : Nat} {lv : List (Nat × Value)} {st : List Value} (C : FX Γ l cc nL own R E) {k : Nat} {x : Int32} (hd : decode cc pc = .ok (.istore k, 2)) (hn : k < nL) (lv' : List (Nat × Value)) (hl0 : (k, Value.int x) :: lv.filter (fun q => !(q.1 == k) && !(q.1 + 1 == k && q.2.category == 2)) = lv') (K : GW Γ nL E σ (pc + 2) lv' st) : GW Γ nL E σ pc lv (Value.int x :: st) := by
  obtain ⟨p, l', e, R', s, m, args, below, meth, c, ⟨cells, slots⟩, A, Q⟩ := Γ
  intro H locs ls hP hD hS hl
  exact lv_istore C.1 C.2.1 hd hl hn hl0 (fun ls2 h2 => K H locs ls2 hP hD hS h2)
theorem g_astore_n {Γ : CX} {l : Launch} {cc : ByteArray} {nL : Nat} {own : String} {R : Room} {E : EV} {σ : ST} {pc : Nat} {lv : List (Nat × Value)} {st : List Value} (C : FX Γ l cc nL own R E) {k : Fin 4} {x : Nat} (hd : decode cc pc = .ok (.astore_n k, 1)) (hn : (k : Nat) < nL) (lv' : List (Nat × Value)) (hl0 : ((k : Nat), Value.ref x) :: lv.filter (fun q => !(q.1 == (k : Nat)) && !(q.1 + 1 == (k : Nat) && q.2.category == 2)) = lv') (K : GW Γ nL E σ (pc + 1) lv' st) : GW Γ nL E σ pc lv (Value.ref x :: st) := by
  obtain ⟨p, l', e, R', s, m, args, below, meth, c, ⟨cells, slots⟩, A, Q⟩ := Γ
  intro H locs ls hP hD hS hl
  exact lv_astore_n C.1 C.2.1 hd rfl hl hn hl0 (fun ls2 h2 => K H locs ls2 hP hD hS h2)
theorem g_astore {Γ : CX} {l : Launch} {cc : ByteArray} {nL : Nat} {own : String} {R : Room} {E : EV} {σ : ST} {pc : Nat} {lv : List (Nat × Value)} {st : List Value} (C : FX Γ l cc nL own R E) {k : Nat} {x : Nat} (hd : decode cc pc = .ok (.astore k, 2)) (hn : k < nL) (lv' : List (Nat × Value)) (hl0 : (k, Value.ref x) :: lv.filter (fun q => !(q.1 == k) && !(q.1 + 1 == k && q.2.category == 2)) = lv') (K : GW Γ nL E σ (pc + 2) lv' st) : GW Γ nL E σ pc lv (Value.ref x :: st) := by
  obtain ⟨p, l', e, R', s, m, args, below, meth, c, ⟨cells, slots⟩, A, Q⟩ := Γ
  intro H locs ls hP hD hS hl
  exact lv_astore C.1 C.2.1 hd hl hn hl0 (fun ls2 h2 => K H locs ls2 hP hD hS h2)
theorem g_astore_nN {Γ : CX} {l : Launch} {cc : ByteArray} {nL : Nat} {own : String} {R : Room} {E : EV} {σ : ST} {pc : Nat} {lv : List (Nat × Value)} {st : List Value} (C : FX Γ l cc nL own R E) {k : Fin 4} (hd : decode cc pc = .ok (.astore_n k, 1)) (hn : (k : Nat) < nL) (lv' : List (Nat × Value)) (hl0 : ((k : Nat), Value.null) :: lv.filter (fun q => !(q.1 == (k : Nat)) && !(q.1 + 1 == (k : Nat) && q.2.category == 2)) = lv') (K : GW Γ nL E σ (pc + 1) lv' st) : GW Γ nL E σ pc lv (Value.null :: st) := by
  obtain ⟨p, l', e, R', s, m, args, below, meth, c, ⟨cells, slots⟩, A, Q⟩ := Γ
  intro H locs ls hP hD hS hl
  exact lv_astore_nN C.1 C.2.1 hd rfl hl hn hl0 (fun ls2 h2 => K H locs ls2 hP hD hS h2)
theorem g_astoreN {Γ : CX} {l : Launch} {cc : ByteArray} {nL : Nat} {own : String} {R : Room} {E : EV} {σ : ST} {pc : Nat} {lv : List (Nat × Value)} {st : List Value} (C : FX Γ l cc nL own R E) {k : Nat} (hd : decode cc pc = .ok (.astore k, 2)) (hn : k < nL) (lv' : List (Nat × Value)) (hl0 : (k, Value.null) :: lv.filter (fun q => !(q.1 == k) && !(q.1 + 1 == k && q.2.category == 2)) = lv') (K : GW Γ nL E σ (pc + 2) lv' st) : GW Γ nL E σ pc lv (Value.null :: st) := by
  obtain ⟨p, l', e, R', s, m, args, below, meth, c, ⟨cells, slots⟩, A, Q⟩ := Γ
  intro H locs ls hP hD hS hl
  exact lv_astoreN C.1 C.2.1 hd hl hn hl0 (fun ls2 h2 => K H locs ls2 hP hD hS h2)
theorem g_lstore_n {Γ : CX} {l : Launch} {cc : ByteArray} {nL : Nat} {own : String} {R : Room} {E : EV} {σ : ST} {pc : Nat} {lv : List (Nat × Value)} {st : List Value} (C : FX Γ l cc nL own R E) {k : Fin 4} {x : Int64} (hd : decode cc pc = .ok (.lstore_n k, 1)) (hn : (k : Nat) + 1 < nL) (lv' : List (Nat × Value)) (hl0 : ((k : Nat), Value.long x) :: lv.filter (fun q => !(q.1 == (k : Nat)) && (!(q.1 == (k : Nat) + 1) && !(q.1 + 1 == (k : Nat) && q.2.category == 2))) = lv') (K : GW Γ nL E σ (pc + 1) lv' st) : GW Γ nL E σ pc lv (Value.long x :: st) := by
  obtain ⟨p, l', e, R', s, m, args, below, meth, c, ⟨cells, slots⟩, A, Q⟩ := Γ
  intro H locs ls hP hD hS hl
  exact lv_lstore_n C.1 C.2.1 hd rfl hl hn hl0 (fun ls2 h2 => K H locs ls2 hP hD hS h2)
theorem g_lstore {Γ : CX} {l : Launch} {cc : ByteArray} {nL : Nat} {own : String} {R : Room} {E : EV} {σ : ST} {pc : Nat} {lv : List (Nat × Value)} {st : List Value} (C : FX Γ l cc nL own R E) {k : Nat} {x : Int64} (hd : decode cc pc = .ok (.lstore k, 2)) (hn : k + 1 < nL) (lv' : List (Nat × Value)) (hl0 : (k, Value.long x) :: lv.filter (fun q => !(q.1 == k) && (!(q.1 == k + 1) && !(q.1 + 1 == k && q.2.category == 2))) = lv') (K : GW Γ nL E σ (pc + 2) lv' st) : GW Γ nL E σ pc lv (Value.long x :: st) := by
  obtain ⟨p, l', e, R', s, m, args, below, meth, c, ⟨cells, slots⟩, A, Q⟩ := Γ
  intro H locs ls hP hD hS hl
  exact lv_lstore C.1 C.2.1 hd hl hn hl0 (fun ls2 h2 => K H locs ls2 hP hD hS h2)
theorem g_if_eq {Γ : CX} {l : Launch} {cc : ByteArray} {nL : Nat} {own : String} {R : Room} {E : EV} {σ : ST} {pc : Nat} {lv : List (Nat × Value)} {st : List Value} (C : FX Γ l cc nL own R E) {x y : Int32} {off : Int} {tgt : Nat} (hd : decode cc pc = .ok (.ifCond .eq off, 3)) (ht : (pc : Int) + off = (tgt : Int)) (K1 : x = 0 → GW Γ nL E σ tgt lv st) (K2 : ¬ (x = 0) → GW Γ nL E σ (pc + 3) lv st) : GW Γ nL E σ pc lv (.int x :: st) := by
  obtain ⟨p, l', e, R', s, m, args, below, meth, c, ⟨cells, slots⟩, A, Q⟩ := Γ
  intro H locs ls hP hD hS hl
  exact lv_if_eq C.1 C.2.1 hd ht (fun h => K1 h H locs ls hP hD hS hl) (fun h => K2 h H locs ls hP hD hS hl)
theorem g_icmp_eq {Γ : CX} {l : Launch} {cc : ByteArray} {nL : Nat} {own : String} {R : Room} {E : EV} {σ : ST} {pc : Nat} {lv : List (Nat × Value)} {st : List Value} (C : FX Γ l cc nL own R E) {x y : Int32} {off : Int} {tgt : Nat} (hd : decode cc pc = .ok (.if_icmp .eq off, 3)) (ht : (pc : Int) + off = (tgt : Int)) (K1 : x = y → GW Γ nL E σ tgt lv st) (K2 : ¬ (x = y) → GW Γ nL E σ (pc + 3) lv st) : GW Γ nL E σ pc lv (.int y :: .int x :: st) := by
  obtain ⟨p, l', e, R', s, m, args, below, meth, c, ⟨cells, slots⟩, A, Q⟩ := Γ
  intro H locs ls hP hD hS hl
  exact lv_icmp_eq C.1 C.2.1 hd ht (fun h => K1 h H locs ls hP hD hS hl) (fun h => K2 h H locs ls hP hD hS hl)
theorem g_if_ne {Γ : CX} {l : Launch} {cc : ByteArray} {nL : Nat} {own : String} {R : Room} {E : EV} {σ : ST} {pc : Nat} {lv : List (Nat × Value)} {st : List Value} (C : FX Γ l cc nL own R E) {x y : Int32} {off : Int} {tgt : Nat} (hd : decode cc pc = .ok (.ifCond .ne off, 3)) (ht : (pc : Int) + off = (tgt : Int)) (K1 : ¬ x = 0 → GW Γ nL E σ tgt lv st) (K2 : x = 0 → GW Γ nL E σ (pc + 3) lv st) : GW Γ nL E σ pc lv (.int x :: st) := by
  obtain ⟨p, l', e, R', s, m, args, below, meth, c, ⟨cells, slots⟩, A, Q⟩ := Γ
  intro H locs ls hP hD hS hl
  exact lv_if_ne C.1 C.2.1 hd ht (fun h => K1 h H locs ls hP hD hS hl) (fun h => K2 h H locs ls hP hD hS hl)
theorem g_icmp_ne {Γ : CX} {l : Launch} {cc : ByteArray} {nL : Nat} {own : String} {R : Room} {E : EV} {σ : ST} {pc : Nat} {lv : List (Nat × Value)} {st : List Value} (C : FX Γ l cc nL own R E) {x y : Int32} {off : Int} {tgt : Nat} (hd : decode cc pc = .ok (.if_icmp .ne off, 3)) (ht : (pc : Int) + off = (tgt : Int)) (K1 : ¬ x = y → GW Γ nL E σ tgt lv st) (K2 : x = y → GW Γ nL E σ (pc + 3) lv st) : GW Γ nL E σ pc lv (.int y :: .int x :: st) := by
  obtain ⟨p, l', e, R', s, m, args, below, meth, c, ⟨cells, slots⟩, A, Q⟩ := Γ
  intro H locs ls hP hD hS hl
  exact lv_icmp_ne C.1 C.2.1 hd ht (fun h => K1 h H locs ls hP hD hS hl) (fun h => K2 h H locs ls hP hD hS hl)
theorem g_if_lt {Γ : CX} {l : Launch} {cc : ByteArray} {nL : Nat} {own : String} {R : Room} {E : EV} {σ : ST} {pc : Nat} {lv : List (Nat × Value)} {st : List Value} (C : FX Γ l cc nL own R E) {x y : Int32} {off : Int} {tgt : Nat} (hd : decode cc pc = .ok (.ifCond .lt off, 3)) (ht : (pc : Int) + off = (tgt : Int)) (K1 : x < 0 → GW Γ nL E σ tgt lv st) (K2 : ¬ (x < 0) → GW Γ nL E σ (pc + 3) lv st) : GW Γ nL E σ pc lv (.int x :: st) := by
  obtain ⟨p, l', e, R', s, m, args, below, meth, c, ⟨cells, slots⟩, A, Q⟩ := Γ
  intro H locs ls hP hD hS hl
  exact lv_if_lt C.1 C.2.1 hd ht (fun h => K1 h H locs ls hP hD hS hl) (fun h => K2 h H locs ls hP hD hS hl)
theorem g_icmp_lt {Γ : CX} {l : Launch} {cc : ByteArray} {nL : Nat} {own : String} {R : Room} {E : EV} {σ : ST} {pc : Nat} {lv : List (Nat × Value)} {st : List Value} (C : FX Γ l cc nL own R E) {x y : Int32} {off : Int} {tgt : Nat} (hd : decode cc pc = .ok (.if_icmp .lt off, 3)) (ht : (pc : Int) + off = (tgt : Int)) (K1 : x < y → GW Γ nL E σ tgt lv st) (K2 : ¬ (x < y) → GW Γ nL E σ (pc + 3) lv st) : GW Γ nL E σ pc lv (.int y :: .int x :: st) := by
  obtain ⟨p, l', e, R', s, m, args, below, meth, c, ⟨cells, slots⟩, A, Q⟩ := Γ
  intro H locs ls hP hD hS hl
  exact lv_icmp_lt C.1 C.2.1 hd ht (fun h => K1 h H locs ls hP hD hS hl) (fun h => K2 h H locs ls hP hD hS hl)
theorem g_if_ge {Γ : CX} {l : Launch} {cc : ByteArray} {nL : Nat} {own : String} {R : Room} {E : EV} {σ : ST} {pc : Nat} {lv : List (Nat × Value)} {st : List Value} (C : FX Γ l cc nL own R E) {x y : Int32} {off : Int} {tgt : Nat} (hd : decode cc pc = .ok (.ifCond .ge off, 3)) (ht : (pc : Int) + off = (tgt : Int)) (K1 : 0 ≤ x → GW Γ nL E σ tgt lv st) (K2 : ¬ (0 ≤ x) → GW Γ nL E σ (pc + 3) lv st) : GW Γ nL E σ pc lv (.int x :: st) := by
  obtain ⟨p, l', e, R', s, m, args, below, meth, c, ⟨cells, slots⟩, A, Q⟩ := Γ
  intro H locs ls hP hD hS hl
  exact lv_if_ge C.1 C.2.1 hd ht (fun h => K1 h H locs ls hP hD hS hl) (fun h => K2 h H locs ls hP hD hS hl)
theorem g_icmp_ge {Γ : CX} {l : Launch} {cc : ByteArray} {nL : Nat} {own : String} {R : Room} {E : EV} {σ : ST} {pc : Nat} {lv : List (Nat × Value)} {st : List Value} (C : FX Γ l cc nL own R E) {x y : Int32} {off : Int} {tgt : Nat} (hd : decode cc pc = .ok (.if_icmp .ge off, 3)) (ht : (pc : Int) + off = (tgt : Int)) (K1 : y ≤ x → GW Γ nL E σ tgt lv st) (K2 : ¬ (y ≤ x) → GW Γ nL E σ (pc + 3) lv st) : GW Γ nL E σ pc lv (.int y :: .int x :: st) := by
  obtain ⟨p, l', e, R', s, m, args, below, meth, c, ⟨cells, slots⟩, A, Q⟩ := Γ
  intro H locs ls hP hD hS hl
  exact lv_icmp_ge C.1 C.2.1 hd ht (fun h => K1 h H locs ls hP hD hS hl) (fun h => K2 h H locs ls hP hD hS hl)
theorem g_if_gt {Γ : CX} {l : Launch} {cc : ByteArray} {nL : Nat} {own : String} {R : Room} {E : EV} {σ : ST} {pc : Nat} {lv : List (Nat × Value)} {st : List Value} (C : FX Γ l cc nL own R E) {x y : Int32} {off : Int} {tgt : Nat} (hd : decode cc pc = .ok (.ifCond .gt off, 3)) (ht : (pc : Int) + off = (tgt : Int)) (K1 : 0 < x → GW Γ nL E σ tgt lv st) (K2 : ¬ (0 < x) → GW Γ nL E σ (pc + 3) lv st) : GW Γ nL E σ pc lv (.int x :: st) := by
  obtain ⟨p, l', e, R', s, m, args, below, meth, c, ⟨cells, slots⟩, A, Q⟩ := Γ
  intro H locs ls hP hD hS hl
  exact lv_if_gt C.1 C.2.1 hd ht (fun h => K1 h H locs ls hP hD hS hl) (fun h => K2 h H locs ls hP hD hS hl)
theorem g_icmp_gt {Γ : CX} {l : Launch} {cc : ByteArray} {nL : Nat} {own : String} {R : Room} {E : EV} {σ : ST} {pc : Nat} {lv : List (Nat × Value)} {st : List Value} (C : FX Γ l cc nL own R E) {x y : Int32} {off : Int} {tgt : Nat} (hd : decode cc pc = .ok (.if_icmp .gt off, 3)) (ht : (pc : Int) + off = (tgt : Int)) (K1 : y < x → GW Γ nL E σ tgt lv st) (K2 : ¬ (y < x) → GW Γ nL E σ (pc + 3) lv st) : GW Γ nL E σ pc lv (.int y :: .int x :: st) := by
  obtain ⟨p, l', e, R', s, m, args, below, meth, c, ⟨cells, slots⟩, A, Q⟩ := Γ
  intro H locs ls hP hD hS hl
  exact lv_icmp_gt C.1 C.2.1 hd ht (fun h => K1 h H locs ls hP hD hS hl) (fun h => K2 h H locs ls hP hD hS hl)
theorem g_if_le {Γ : CX} {l : Launch} {cc : ByteArray} {nL : Nat} {own : String} {R : Room} {E : EV} {σ : ST} {pc : Nat} {lv : List (Nat × Value)} {st : List Value} (C : FX Γ l cc nL own R E) {x y : Int32} {off : Int} {tgt : Nat} (hd : decode cc pc = .ok (.ifCond .le off, 3)) (ht : (pc : Int) + off = (tgt : Int)) (K1 : x ≤ 0 → GW Γ nL E σ tgt lv st) (K2 : ¬ (x ≤ 0) → GW Γ nL E σ (pc + 3) lv st) : GW Γ nL E σ pc lv (.int x :: st) := by
  obtain ⟨p, l', e, R', s, m, args, below, meth, c, ⟨cells, slots⟩, A, Q⟩ := Γ
  intro H locs ls hP hD hS hl
  exact lv_if_le C.1 C.2.1 hd ht (fun h => K1 h H locs ls hP hD hS hl) (fun h => K2 h H locs ls hP hD hS hl)
theorem g_icmp_le {Γ : CX} {l : Launch} {cc : ByteArray} {nL : Nat} {own : String} {R : Room} {E : EV} {σ : ST} {pc : Nat} {lv : List (Nat × Value)} {st : List Value} (C : FX Γ l cc nL own R E) {x y : Int32} {off : Int} {tgt : Nat} (hd : decode cc pc = .ok (.if_icmp .le off, 3)) (ht : (pc : Int) + off = (tgt : Int)) (K1 : x ≤ y → GW Γ nL E σ tgt lv st) (K2 : ¬ (x ≤ y) → GW Γ nL E σ (pc + 3) lv st) : GW Γ nL E σ pc lv (.int y :: .int x :: st) := by
  obtain ⟨p, l', e, R', s, m, args, below, meth, c, ⟨cells, slots⟩, A, Q⟩ := Γ
  intro H locs ls hP hD hS hl
  exact lv_icmp_le C.1 C.2.1 hd ht (fun h => K1 h H locs ls hP hD hS hl) (fun h => K2 h H locs ls hP hD hS hl)
end
