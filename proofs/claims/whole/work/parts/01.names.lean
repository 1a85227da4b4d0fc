-- ===== PART A: goes FIRST, ahead of the names: the tables' words, and 'selects' of the private methods out of them =====
/-- a private method of a class that the tables say can be made, by its rows of tables_1 -/
def lw_okq (q : MethodName × Nat) : Prop := (q.1.cls ≠ "java/lang/invoke/MethodHandle" ∧ q.1.cls ≠ "java/lang/invoke/VarHandle") ∧ Cond.instantiable q.1.cls q.2 ∈ tables_1 ∧ Cond.privateMethod q.1 ∈ tables_1 ∧ Cond.instanceMethod q.1 ∈ tables_1
theorem lw_p0 : lw_okq (⟨"DryDoors$Text", "reserve", "(Ljava/lang/String;I)I"⟩, 16) := ⟨⟨by decide +kernel, by decide +kernel⟩, List.mem_of_getElem? (i := 313) (by decide +kernel), List.mem_of_getElem? (i := 324) (by decide +kernel), List.mem_of_getElem? (i := 325) (by decide +kernel)⟩
theorem lw_p1 : lw_okq (⟨"DryDoors", "trayAt", "(I)LDryDoors$Tray;"⟩, 19) := ⟨⟨by decide +kernel, by decide +kernel⟩, List.mem_of_getElem? (i := 21) (by decide +kernel), List.mem_of_getElem? (i := 606) (by decide +kernel), List.mem_of_getElem? (i := 607) (by decide +kernel)⟩
theorem lw_p2 : lw_okq (⟨"DryDoors", "refused", "(I)Z"⟩, 19) := ⟨⟨by decide +kernel, by decide +kernel⟩, List.mem_of_getElem? (i := 21) (by decide +kernel), List.mem_of_getElem? (i := 613) (by decide +kernel), List.mem_of_getElem? (i := 614) (by decide +kernel)⟩
theorem lw_p3 : lw_okq (⟨"DryDoors", "done", "()Z"⟩, 19) := ⟨⟨by decide +kernel, by decide +kernel⟩, List.mem_of_getElem? (i := 21) (by decide +kernel), List.mem_of_getElem? (i := 621) (by decide +kernel), List.mem_of_getElem? (i := 622) (by decide +kernel)⟩
theorem lw_p4 : lw_okq (⟨"DryDoors$Tray", "cut", "(J)J"⟩, 3) := ⟨⟨by decide +kernel, by decide +kernel⟩, List.mem_of_getElem? (i := 514) (by decide +kernel), List.mem_of_getElem? (i := 642) (by decide +kernel), List.mem_of_getElem? (i := 643) (by decide +kernel)⟩
theorem lw_p5 : lw_okq (⟨"DryDoors", "none", "(I)I"⟩, 19) := ⟨⟨by decide +kernel, by decide +kernel⟩, List.mem_of_getElem? (i := 21) (by decide +kernel), List.mem_of_getElem? (i := 650) (by decide +kernel), List.mem_of_getElem? (i := 651) (by decide +kernel)⟩
theorem lw_p6 : lw_okq (⟨"DryDoors", "putOnTape", "(I)V"⟩, 19) := ⟨⟨by decide +kernel, by decide +kernel⟩, List.mem_of_getElem? (i := 21) (by decide +kernel), List.mem_of_getElem? (i := 673) (by decide +kernel), List.mem_of_getElem? (i := 674) (by decide +kernel)⟩
theorem lw_p7 : lw_okq (⟨"DryDoors$Text", "behindToken", "([BII)I"⟩, 16) := ⟨⟨by decide +kernel, by decide +kernel⟩, List.mem_of_getElem? (i := 313) (by decide +kernel), List.mem_of_getElem? (i := 711) (by decide +kernel), List.mem_of_getElem? (i := 712) (by decide +kernel)⟩
theorem lw_p8 : lw_okq (⟨"DryDoors$Text", "behindWord", "([BII)I"⟩, 16) := ⟨⟨by decide +kernel, by decide +kernel⟩, List.mem_of_getElem? (i := 313) (by decide +kernel), List.mem_of_getElem? (i := 718) (by decide +kernel), List.mem_of_getElem? (i := 719) (by decide +kernel)⟩
theorem lw_p9 : lw_okq (⟨"DryDoors$Text", "add", "(IIJ)V"⟩, 16) := ⟨⟨by decide +kernel, by decide +kernel⟩, List.mem_of_getElem? (i := 313) (by decide +kernel), List.mem_of_getElem? (i := 722) (by decide +kernel), List.mem_of_getElem? (i := 723) (by decide +kernel)⟩
theorem lw_p10 : lw_okq (⟨"DryDoors$Text", "behindNumber", "([BII)I"⟩, 16) := ⟨⟨by decide +kernel, by decide +kernel⟩, List.mem_of_getElem? (i := 313) (by decide +kernel), List.mem_of_getElem? (i := 732) (by decide +kernel), List.mem_of_getElem? (i := 733) (by decide +kernel)⟩
theorem lw_p11 : lw_okq (⟨"DryDoors$LandReader", "readPart", "()Z"⟩, 2) := ⟨⟨by decide +kernel, by decide +kernel⟩, List.mem_of_getElem? (i := 307) (by decide +kernel), List.mem_of_getElem? (i := 747) (by decide +kernel), List.mem_of_getElem? (i := 748) (by decide +kernel)⟩
theorem lw_p12 : lw_okq (⟨"DryDoors$LandReader", "readRoom", "()Z"⟩, 2) := ⟨⟨by decide +kernel, by decide +kernel⟩, List.mem_of_getElem? (i := 307) (by decide +kernel), List.mem_of_getElem? (i := 751) (by decide +kernel), List.mem_of_getElem? (i := 752) (by decide +kernel)⟩
theorem lw_p13 : lw_okq (⟨"DryDoors$Text", "isName", "()Z"⟩, 16) := ⟨⟨by decide +kernel, by decide +kernel⟩, List.mem_of_getElem? (i := 313) (by decide +kernel), List.mem_of_getElem? (i := 764) (by decide +kernel), List.mem_of_getElem? (i := 765) (by decide +kernel)⟩
theorem lw_p14 : lw_okq (⟨"DryDoors$LandReader", "readDoor", "()Z"⟩, 2) := ⟨⟨by decide +kernel, by decide +kernel⟩, List.mem_of_getElem? (i := 307) (by decide +kernel), List.mem_of_getElem? (i := 805) (by decide +kernel), List.mem_of_getElem? (i := 806) (by decide +kernel)⟩
theorem lw_p15 : lw_okq (⟨"DryDoors$LandReader", "readTide", "()Z"⟩, 2) := ⟨⟨by decide +kernel, by decide +kernel⟩, List.mem_of_getElem? (i := 307) (by decide +kernel), List.mem_of_getElem? (i := 818) (by decide +kernel), List.mem_of_getElem? (i := 819) (by decide +kernel)⟩
def lw_privs_1 : List (MethodName × Nat) := [(⟨"DryDoors$Text", "reserve", "(Ljava/lang/String;I)I"⟩, 16), (⟨"DryDoors", "trayAt", "(I)LDryDoors$Tray;"⟩, 19), (⟨"DryDoors", "refused", "(I)Z"⟩, 19), (⟨"DryDoors", "done", "()Z"⟩, 19), (⟨"DryDoors$Tray", "cut", "(J)J"⟩, 3), (⟨"DryDoors", "none", "(I)I"⟩, 19), (⟨"DryDoors", "putOnTape", "(I)V"⟩, 19), (⟨"DryDoors$Text", "behindToken", "([BII)I"⟩, 16), (⟨"DryDoors$Text", "behindWord", "([BII)I"⟩, 16), (⟨"DryDoors$Text", "add", "(IIJ)V"⟩, 16), (⟨"DryDoors$Text", "behindNumber", "([BII)I"⟩, 16), (⟨"DryDoors$LandReader", "readPart", "()Z"⟩, 2), (⟨"DryDoors$LandReader", "readRoom", "()Z"⟩, 2), (⟨"DryDoors$Text", "isName", "()Z"⟩, 16), (⟨"DryDoors$LandReader", "readDoor", "()Z"⟩, 2), (⟨"DryDoors$LandReader", "readTide", "()Z"⟩, 2)]
theorem lw_r1 : ∀ q ∈ lw_privs_1, lw_okq q := List.forall_mem_cons.mpr ⟨lw_p0, List.forall_mem_cons.mpr ⟨lw_p1, List.forall_mem_cons.mpr ⟨lw_p2, List.forall_mem_cons.mpr ⟨lw_p3, List.forall_mem_cons.mpr ⟨lw_p4, List.forall_mem_cons.mpr ⟨lw_p5, List.forall_mem_cons.mpr ⟨lw_p6, List.forall_mem_cons.mpr ⟨lw_p7, List.forall_mem_cons.mpr ⟨lw_p8, List.forall_mem_cons.mpr ⟨lw_p9, List.forall_mem_cons.mpr ⟨lw_p10, List.forall_mem_cons.mpr ⟨lw_p11, List.forall_mem_cons.mpr ⟨lw_p12, List.forall_mem_cons.mpr ⟨lw_p13, List.forall_mem_cons.mpr ⟨lw_p14, List.forall_mem_cons.mpr ⟨lw_p15, fun _ h => absurd h List.not_mem_nil⟩⟩⟩⟩⟩⟩⟩⟩⟩⟩⟩⟩⟩⟩⟩⟩
theorem lw_p16 : lw_okq (⟨"DryDoors$LandReader", "readPump", "()Z"⟩, 2) := ⟨⟨by decide +kernel, by decide +kernel⟩, List.mem_of_getElem? (i := 307) (by decide +kernel), List.mem_of_getElem? (i := 822) (by decide +kernel), List.mem_of_getElem? (i := 823) (by decide +kernel)⟩
theorem lw_p17 : lw_okq (⟨"DryDoors$Text", "takeThing", "(I)I"⟩, 16) := ⟨⟨by decide +kernel, by decide +kernel⟩, List.mem_of_getElem? (i := 313) (by decide +kernel), List.mem_of_getElem? (i := 830) (by decide +kernel), List.mem_of_getElem? (i := 831) (by decide +kernel)⟩
theorem lw_p18 : lw_okq (⟨"DryDoors$LandReader", "readRota", "()Z"⟩, 2) := ⟨⟨by decide +kernel, by decide +kernel⟩, List.mem_of_getElem? (i := 307) (by decide +kernel), List.mem_of_getElem? (i := 834) (by decide +kernel), List.mem_of_getElem? (i := 835) (by decide +kernel)⟩
theorem lw_p19 : lw_okq (⟨"DryDoors$LandReader", "readErrand", "()Z"⟩, 2) := ⟨⟨by decide +kernel, by decide +kernel⟩, List.mem_of_getElem? (i := 307) (by decide +kernel), List.mem_of_getElem? (i := 843) (by decide +kernel), List.mem_of_getElem? (i := 844) (by decide +kernel)⟩
theorem lw_p20 : lw_okq (⟨"DryDoors", "emptyTape", "(LDryDoors$Text;)V"⟩, 19) := ⟨⟨by decide +kernel, by decide +kernel⟩, List.mem_of_getElem? (i := 21) (by decide +kernel), List.mem_of_getElem? (i := 851) (by decide +kernel), List.mem_of_getElem? (i := 852) (by decide +kernel)⟩
theorem lw_p21 : lw_okq (⟨"DryDoors", "fine", "(I)I"⟩, 19) := ⟨⟨by decide +kernel, by decide +kernel⟩, List.mem_of_getElem? (i := 21) (by decide +kernel), List.mem_of_getElem? (i := 874) (by decide +kernel), List.mem_of_getElem? (i := 875) (by decide +kernel)⟩
theorem lw_p22 : lw_okq (⟨"DryDoors$NightsReader", "readEnd", "()Z"⟩, 4) := ⟨⟨by decide +kernel, by decide +kernel⟩, List.mem_of_getElem? (i := 445) (by decide +kernel), List.mem_of_getElem? (i := 889) (by decide +kernel), List.mem_of_getElem? (i := 890) (by decide +kernel)⟩
theorem lw_p23 : lw_okq (⟨"DryDoors$NightsReader", "mayBegin", "()Z"⟩, 4) := ⟨⟨by decide +kernel, by decide +kernel⟩, List.mem_of_getElem? (i := 445) (by decide +kernel), List.mem_of_getElem? (i := 903) (by decide +kernel), List.mem_of_getElem? (i := 904) (by decide +kernel)⟩
theorem lw_p24 : lw_okq (⟨"DryDoors$NightsReader", "goWithin", "()Z"⟩, 4) := ⟨⟨by decide +kernel, by decide +kernel⟩, List.mem_of_getElem? (i := 445) (by decide +kernel), List.mem_of_getElem? (i := 910) (by decide +kernel), List.mem_of_getElem? (i := 911) (by decide +kernel)⟩
theorem lw_p25 : lw_okq (⟨"DryDoors$NightsReader", "readStep", "(LDryDoors$Land;)Z"⟩, 4) := ⟨⟨by decide +kernel, by decide +kernel⟩, List.mem_of_getElem? (i := 445) (by decide +kernel), List.mem_of_getElem? (i := 914) (by decide +kernel), List.mem_of_getElem? (i := 915) (by decide +kernel)⟩
theorem lw_p26 : lw_okq (⟨"DryDoors$NightsReader", "addNumber", "(II)Z"⟩, 4) := ⟨⟨by decide +kernel, by decide +kernel⟩, List.mem_of_getElem? (i := 445) (by decide +kernel), List.mem_of_getElem? (i := 918) (by decide +kernel), List.mem_of_getElem? (i := 919) (by decide +kernel)⟩
theorem lw_p27 : lw_okq (⟨"DryDoors$NightsReader", "addDoor", "(ILDryDoors$Land;)Z"⟩, 4) := ⟨⟨by decide +kernel, by decide +kernel⟩, List.mem_of_getElem? (i := 445) (by decide +kernel), List.mem_of_getElem? (i := 923) (by decide +kernel), List.mem_of_getElem? (i := 924) (by decide +kernel)⟩
theorem lw_p28 : lw_okq (⟨"DryDoors$NightsReader", "addBail", "(LDryDoors$Land;)Z"⟩, 4) := ⟨⟨by decide +kernel, by decide +kernel⟩, List.mem_of_getElem? (i := 445) (by decide +kernel), List.mem_of_getElem? (i := 928) (by decide +kernel), List.mem_of_getElem? (i := 929) (by decide +kernel)⟩
theorem lw_p29 : lw_okq (⟨"DryDoors$NightsReader", "addBare", "(I)Z"⟩, 4) := ⟨⟨by decide +kernel, by decide +kernel⟩, List.mem_of_getElem? (i := 445) (by decide +kernel), List.mem_of_getElem? (i := 933) (by decide +kernel), List.mem_of_getElem? (i := 934) (by decide +kernel)⟩
theorem lw_p30 : lw_okq (⟨"DryDoors$NightsReader", "readTest", "(LDryDoors$Land;)Z"⟩, 4) := ⟨⟨by decide +kernel, by decide +kernel⟩, List.mem_of_getElem? (i := 445) (by decide +kernel), List.mem_of_getElem? (i := 937) (by decide +kernel), List.mem_of_getElem? (i := 938) (by decide +kernel)⟩
theorem lw_p31 : lw_okq (⟨"DryDoors$NightsReader", "addDepth", "(I)Z"⟩, 4) := ⟨⟨by decide +kernel, by decide +kernel⟩, List.mem_of_getElem? (i := 445) (by decide +kernel), List.mem_of_getElem? (i := 941) (by decide +kernel), List.mem_of_getElem? (i := 942) (by decide +kernel)⟩
def lw_privs_2 : List (MethodName × Nat) := [(⟨"DryDoors$LandReader", "readPump", "()Z"⟩, 2), (⟨"DryDoors$Text", "takeThing", "(I)I"⟩, 16), (⟨"DryDoors$LandReader", "readRota", "()Z"⟩, 2), (⟨"DryDoors$LandReader", "readErrand", "()Z"⟩, 2), (⟨"DryDoors", "emptyTape", "(LDryDoors$Text;)V"⟩, 19), (⟨"DryDoors", "fine", "(I)I"⟩, 19), (⟨"DryDoors$NightsReader", "readEnd", "()Z"⟩, 4), (⟨"DryDoors$NightsReader", "mayBegin", "()Z"⟩, 4), (⟨"DryDoors$NightsReader", "goWithin", "()Z"⟩, 4), (⟨"DryDoors$NightsReader", "readStep", "(LDryDoors$Land;)Z"⟩, 4), (⟨"DryDoors$NightsReader", "addNumber", "(II)Z"⟩, 4), (⟨"DryDoors$NightsReader", "addDoor", "(ILDryDoors$Land;)Z"⟩, 4), (⟨"DryDoors$NightsReader", "addBail", "(LDryDoors$Land;)Z"⟩, 4), (⟨"DryDoors$NightsReader", "addBare", "(I)Z"⟩, 4), (⟨"DryDoors$NightsReader", "readTest", "(LDryDoors$Land;)Z"⟩, 4), (⟨"DryDoors$NightsReader", "addDepth", "(I)Z"⟩, 4)]
theorem lw_r2 : ∀ q ∈ lw_privs_2, lw_okq q := List.forall_mem_cons.mpr ⟨lw_p16, List.forall_mem_cons.mpr ⟨lw_p17, List.forall_mem_cons.mpr ⟨lw_p18, List.forall_mem_cons.mpr ⟨lw_p19, List.forall_mem_cons.mpr ⟨lw_p20, List.forall_mem_cons.mpr ⟨lw_p21, List.forall_mem_cons.mpr ⟨lw_p22, List.forall_mem_cons.mpr ⟨lw_p23, List.forall_mem_cons.mpr ⟨lw_p24, List.forall_mem_cons.mpr ⟨lw_p25, List.forall_mem_cons.mpr ⟨lw_p26, List.forall_mem_cons.mpr ⟨lw_p27, List.forall_mem_cons.mpr ⟨lw_p28, List.forall_mem_cons.mpr ⟨lw_p29, List.forall_mem_cons.mpr ⟨lw_p30, List.forall_mem_cons.mpr ⟨lw_p31, fun _ h => absurd h List.not_mem_nil⟩⟩⟩⟩⟩⟩⟩⟩⟩⟩⟩⟩⟩⟩⟩⟩
theorem lw_p32 : lw_okq (⟨"DryDoors", "isRoom", "(I)Z"⟩, 19) := ⟨⟨by decide +kernel, by decide +kernel⟩, List.mem_of_getElem? (i := 21) (by decide +kernel), List.mem_of_getElem? (i := 982) (by decide +kernel), List.mem_of_getElem? (i := 983) (by decide +kernel)⟩
theorem lw_p33 : lw_okq (⟨"DryDoors", "isDoor", "(I)Z"⟩, 19) := ⟨⟨by decide +kernel, by decide +kernel⟩, List.mem_of_getElem? (i := 21) (by decide +kernel), List.mem_of_getElem? (i := 991) (by decide +kernel), List.mem_of_getElem? (i := 992) (by decide +kernel)⟩
theorem lw_p34 : lw_okq (⟨"DryDoors", "asItFlows", "()LDryDoors$Land;"⟩, 19) := ⟨⟨by decide +kernel, by decide +kernel⟩, List.mem_of_getElem? (i := 21) (by decide +kernel), List.mem_of_getElem? (i := 1017) (by decide +kernel), List.mem_of_getElem? (i := 1018) (by decide +kernel)⟩
theorem lw_p35 : lw_okq (⟨"DryDoors$Land", "surfaceOf", "(I)I"⟩, 15) := ⟨⟨by decide +kernel, by decide +kernel⟩, List.mem_of_getElem? (i := 29) (by decide +kernel), List.mem_of_getElem? (i := 1031) (by decide +kernel), List.mem_of_getElem? (i := 1032) (by decide +kernel)⟩
theorem lw_p36 : lw_okq (⟨"DryDoors$Land", "letThrough", "()V"⟩, 15) := ⟨⟨by decide +kernel, by decide +kernel⟩, List.mem_of_getElem? (i := 29) (by decide +kernel), List.mem_of_getElem? (i := 1103) (by decide +kernel), List.mem_of_getElem? (i := 1104) (by decide +kernel)⟩
theorem lw_p37 : lw_okq (⟨"DryDoors", "asItIs", "()LDryDoors$Land;"⟩, 19) := ⟨⟨by decide +kernel, by decide +kernel⟩, List.mem_of_getElem? (i := 21) (by decide +kernel), List.mem_of_getElem? (i := 1183) (by decide +kernel), List.mem_of_getElem? (i := 1184) (by decide +kernel)⟩
theorem lw_p38 : lw_okq (⟨"DryDoors", "drownedMore", "(LDryDoors$Land;)I"⟩, 19) := ⟨⟨by decide +kernel, by decide +kernel⟩, List.mem_of_getElem? (i := 21) (by decide +kernel), List.mem_of_getElem? (i := 1222) (by decide +kernel), List.mem_of_getElem? (i := 1223) (by decide +kernel)⟩
theorem lw_p39 : lw_okq (⟨"DryDoors", "waterWalled", "(I)I"⟩, 19) := ⟨⟨by decide +kernel, by decide +kernel⟩, List.mem_of_getElem? (i := 21) (by decide +kernel), List.mem_of_getElem? (i := 1260) (by decide +kernel), List.mem_of_getElem? (i := 1261) (by decide +kernel)⟩
theorem lw_p40 : lw_okq (⟨"DryDoors", "besieged", "(I)LDryDoors$Land;"⟩, 19) := ⟨⟨by decide +kernel, by decide +kernel⟩, List.mem_of_getElem? (i := 21) (by decide +kernel), List.mem_of_getElem? (i := 1280) (by decide +kernel), List.mem_of_getElem? (i := 1281) (by decide +kernel)⟩
theorem lw_p41 : lw_okq (⟨"DryDoors$Planner", "weighPlan", "(I)V"⟩, 7) := ⟨⟨by decide +kernel, by decide +kernel⟩, List.mem_of_getElem? (i := 271) (by decide +kernel), List.mem_of_getElem? (i := 1316) (by decide +kernel), List.mem_of_getElem? (i := 1317) (by decide +kernel)⟩
theorem lw_p42 : lw_okq (⟨"DryDoors$Planner", "keepWater", "(I)V"⟩, 7) := ⟨⟨by decide +kernel, by decide +kernel⟩, List.mem_of_getElem? (i := 271) (by decide +kernel), List.mem_of_getElem? (i := 1321) (by decide +kernel), List.mem_of_getElem? (i := 1322) (by decide +kernel)⟩
theorem lw_p43 : lw_okq (⟨"DryDoors$Planner", "errandsAt", "(II)I"⟩, 7) := ⟨⟨by decide +kernel, by decide +kernel⟩, List.mem_of_getElem? (i := 271) (by decide +kernel), List.mem_of_getElem? (i := 1327) (by decide +kernel), List.mem_of_getElem? (i := 1328) (by decide +kernel)⟩
theorem lw_p44 : lw_okq (⟨"DryDoors$Planner", "errandsLater", "(III)I"⟩, 7) := ⟨⟨by decide +kernel, by decide +kernel⟩, List.mem_of_getElem? (i := 271) (by decide +kernel), List.mem_of_getElem? (i := 1331) (by decide +kernel), List.mem_of_getElem? (i := 1332) (by decide +kernel)⟩
theorem lw_p45 : lw_okq (⟨"DryDoors$Planner", "doorsOf", "(I)I"⟩, 7) := ⟨⟨by decide +kernel, by decide +kernel⟩, List.mem_of_getElem? (i := 271) (by decide +kernel), List.mem_of_getElem? (i := 1335) (by decide +kernel), List.mem_of_getElem? (i := 1336) (by decide +kernel)⟩
theorem lw_p46 : lw_okq (⟨"DryDoors$Planner", "hoursOf", "(II)I"⟩, 7) := ⟨⟨by decide +kernel, by decide +kernel⟩, List.mem_of_getElem? (i := 271) (by decide +kernel), List.mem_of_getElem? (i := 1340) (by decide +kernel), List.mem_of_getElem? (i := 1341) (by decide +kernel)⟩
theorem lw_p47 : lw_okq (⟨"DryDoors$Planner", "takeWaterBack", "(I)V"⟩, 7) := ⟨⟨by decide +kernel, by decide +kernel⟩, List.mem_of_getElem? (i := 271) (by decide +kernel), List.mem_of_getElem? (i := 1347) (by decide +kernel), List.mem_of_getElem? (i := 1348) (by decide +kernel)⟩
def lw_privs_3 : List (MethodName × Nat) := [(⟨"DryDoors", "isRoom", "(I)Z"⟩, 19), (⟨"DryDoors", "isDoor", "(I)Z"⟩, 19), (⟨"DryDoors", "asItFlows", "()LDryDoors$Land;"⟩, 19), (⟨"DryDoors$Land", "surfaceOf", "(I)I"⟩, 15), (⟨"DryDoors$Land", "letThrough", "()V"⟩, 15), (⟨"DryDoors", "asItIs", "()LDryDoors$Land;"⟩, 19), (⟨"DryDoors", "drownedMore", "(LDryDoors$Land;)I"⟩, 19), (⟨"DryDoors", "waterWalled", "(I)I"⟩, 19), (⟨"DryDoors", "besieged", "(I)LDryDoors$Land;"⟩, 19), (⟨"DryDoors$Planner", "weighPlan", "(I)V"⟩, 7), (⟨"DryDoors$Planner", "keepWater", "(I)V"⟩, 7), (⟨"DryDoors$Planner", "errandsAt", "(II)I"⟩, 7), (⟨"DryDoors$Planner", "errandsLater", "(III)I"⟩, 7), (⟨"DryDoors$Planner", "doorsOf", "(I)I"⟩, 7), (⟨"DryDoors$Planner", "hoursOf", "(II)I"⟩, 7), (⟨"DryDoors$Planner", "takeWaterBack", "(I)V"⟩, 7)]
theorem lw_r3 : ∀ q ∈ lw_privs_3, lw_okq q := List.forall_mem_cons.mpr ⟨lw_p32, List.forall_mem_cons.mpr ⟨lw_p33, List.forall_mem_cons.mpr ⟨lw_p34, List.forall_mem_cons.mpr ⟨lw_p35, List.forall_mem_cons.mpr ⟨lw_p36, List.forall_mem_cons.mpr ⟨lw_p37, List.forall_mem_cons.mpr ⟨lw_p38, List.forall_mem_cons.mpr ⟨lw_p39, List.forall_mem_cons.mpr ⟨lw_p40, List.forall_mem_cons.mpr ⟨lw_p41, List.forall_mem_cons.mpr ⟨lw_p42, List.forall_mem_cons.mpr ⟨lw_p43, List.forall_mem_cons.mpr ⟨lw_p44, List.forall_mem_cons.mpr ⟨lw_p45, List.forall_mem_cons.mpr ⟨lw_p46, List.forall_mem_cons.mpr ⟨lw_p47, fun _ h => absurd h List.not_mem_nil⟩⟩⟩⟩⟩⟩⟩⟩⟩⟩⟩⟩⟩⟩⟩⟩
theorem lw_p48 : lw_okq (⟨"DryDoors", "isSetOfDoors", "(I)Z"⟩, 19) := ⟨⟨by decide +kernel, by decide +kernel⟩, List.mem_of_getElem? (i := 21) (by decide +kernel), List.mem_of_getElem? (i := 1378) (by decide +kernel), List.mem_of_getElem? (i := 1379) (by decide +kernel)⟩
theorem lw_p49 : lw_okq (⟨"DryDoors", "tellFraction", "(JJ)V"⟩, 19) := ⟨⟨by decide +kernel, by decide +kernel⟩, List.mem_of_getElem? (i := 21) (by decide +kernel), List.mem_of_getElem? (i := 1405) (by decide +kernel), List.mem_of_getElem? (i := 1406) (by decide +kernel)⟩
theorem lw_p50 : lw_okq (⟨"DryDoors$Planner", "isAmong", "(LDryDoors$Doors;II)Z"⟩, 7) := ⟨⟨by decide +kernel, by decide +kernel⟩, List.mem_of_getElem? (i := 271) (by decide +kernel), List.mem_of_getElem? (i := 1439) (by decide +kernel), List.mem_of_getElem? (i := 1440) (by decide +kernel)⟩
theorem lw_p51 : lw_okq (⟨"DryDoors$Life", "behindEnd", "(LDryDoors$Nights;I)I"⟩, 9) := ⟨⟨by decide +kernel, by decide +kernel⟩, List.mem_of_getElem? (i := 470) (by decide +kernel), List.mem_of_getElem? (i := 1456) (by decide +kernel), List.mem_of_getElem? (i := 1457) (by decide +kernel)⟩
theorem lw_p52 : lw_okq (⟨"DryDoors$Life", "behindStep", "(LDryDoors$Nights;LDryDoors$Land;I)I"⟩, 9) := ⟨⟨by decide +kernel, by decide +kernel⟩, List.mem_of_getElem? (i := 470) (by decide +kernel), List.mem_of_getElem? (i := 1460) (by decide +kernel), List.mem_of_getElem? (i := 1461) (by decide +kernel)⟩
theorem lw_p53 : lw_okq (⟨"DryDoors$Life", "goOn", "(LDryDoors$Land;I)V"⟩, 9) := ⟨⟨by decide +kernel, by decide +kernel⟩, List.mem_of_getElem? (i := 470) (by decide +kernel), List.mem_of_getElem? (i := 1464) (by decide +kernel), List.mem_of_getElem? (i := 1465) (by decide +kernel)⟩
theorem lw_p54 : lw_okq (⟨"DryDoors$Life", "turn", "(LDryDoors$Land;IZ)V"⟩, 9) := ⟨⟨by decide +kernel, by decide +kernel⟩, List.mem_of_getElem? (i := 470) (by decide +kernel), List.mem_of_getElem? (i := 1470) (by decide +kernel), List.mem_of_getElem? (i := 1471) (by decide +kernel)⟩
theorem lw_p55 : lw_okq (⟨"DryDoors$Life", "bailOut", "(LDryDoors$Land;II)V"⟩, 9) := ⟨⟨by decide +kernel, by decide +kernel⟩, List.mem_of_getElem? (i := 470) (by decide +kernel), List.mem_of_getElem? (i := 1475) (by decide +kernel), List.mem_of_getElem? (i := 1476) (by decide +kernel)⟩
theorem lw_p56 : lw_okq (⟨"DryDoors$Life", "turnAny", "(LDryDoors$Land;)V"⟩, 9) := ⟨⟨by decide +kernel, by decide +kernel⟩, List.mem_of_getElem? (i := 470) (by decide +kernel), List.mem_of_getElem? (i := 1479) (by decide +kernel), List.mem_of_getElem? (i := 1480) (by decide +kernel)⟩
theorem lw_p57 : lw_okq (⟨"DryDoors$Life", "drawBy", "(I)I"⟩, 9) := ⟨⟨by decide +kernel, by decide +kernel⟩, List.mem_of_getElem? (i := 470) (by decide +kernel), List.mem_of_getElem? (i := 1483) (by decide +kernel), List.mem_of_getElem? (i := 1484) (by decide +kernel)⟩
theorem lw_p58 : lw_okq (⟨"DryDoorsModel", "plain", "(I)V"⟩, 44) := ⟨⟨by decide +kernel, by decide +kernel⟩, List.mem_of_getElem? (i := 1509) (by decide +kernel), List.mem_of_getElem? (i := 1515) (by decide +kernel), List.mem_of_getElem? (i := 1516) (by decide +kernel)⟩
theorem lw_p59 : lw_okq (⟨"DryDoorsModel", "is", "(I)Z"⟩, 44) := ⟨⟨by decide +kernel, by decide +kernel⟩, List.mem_of_getElem? (i := 1509) (by decide +kernel), List.mem_of_getElem? (i := 1671) (by decide +kernel), List.mem_of_getElem? (i := 1672) (by decide +kernel)⟩
theorem lw_p60 : lw_okq (⟨"DryDoorsModel", "wrongPlace", "(II)I"⟩, 44) := ⟨⟨by decide +kernel, by decide +kernel⟩, List.mem_of_getElem? (i := 1509) (by decide +kernel), List.mem_of_getElem? (i := 1679) (by decide +kernel), List.mem_of_getElem? (i := 1680) (by decide +kernel)⟩
theorem lw_p61 : lw_okq (⟨"DryDoorsModel", "four", "(I)V"⟩, 44) := ⟨⟨by decide +kernel, by decide +kernel⟩, List.mem_of_getElem? (i := 1509) (by decide +kernel), List.mem_of_getElem? (i := 1699) (by decide +kernel), List.mem_of_getElem? (i := 1700) (by decide +kernel)⟩
theorem lw_p62 : lw_okq (⟨"DryDoorsModel", "begins", "(II)Z"⟩, 44) := ⟨⟨by decide +kernel, by decide +kernel⟩, List.mem_of_getElem? (i := 1509) (by decide +kernel), List.mem_of_getElem? (i := 1711) (by decide +kernel), List.mem_of_getElem? (i := 1712) (by decide +kernel)⟩
theorem lw_p63 : lw_okq (⟨"DryDoorsModel", "ahead", "()V"⟩, 44) := ⟨⟨by decide +kernel, by decide +kernel⟩, List.mem_of_getElem? (i := 1509) (by decide +kernel), List.mem_of_getElem? (i := 1715) (by decide +kernel), List.mem_of_getElem? (i := 1716) (by decide +kernel)⟩
def lw_privs_4 : List (MethodName × Nat) := [(⟨"DryDoors", "isSetOfDoors", "(I)Z"⟩, 19), (⟨"DryDoors", "tellFraction", "(JJ)V"⟩, 19), (⟨"DryDoors$Planner", "isAmong", "(LDryDoors$Doors;II)Z"⟩, 7), (⟨"DryDoors$Life", "behindEnd", "(LDryDoors$Nights;I)I"⟩, 9), (⟨"DryDoors$Life", "behindStep", "(LDryDoors$Nights;LDryDoors$Land;I)I"⟩, 9), (⟨"DryDoors$Life", "goOn", "(LDryDoors$Land;I)V"⟩, 9), (⟨"DryDoors$Life", "turn", "(LDryDoors$Land;IZ)V"⟩, 9), (⟨"DryDoors$Life", "bailOut", "(LDryDoors$Land;II)V"⟩, 9), (⟨"DryDoors$Life", "turnAny", "(LDryDoors$Land;)V"⟩, 9), (⟨"DryDoors$Life", "drawBy", "(I)I"⟩, 9), (⟨"DryDoorsModel", "plain", "(I)V"⟩, 44), (⟨"DryDoorsModel", "is", "(I)Z"⟩, 44), (⟨"DryDoorsModel", "wrongPlace", "(II)I"⟩, 44), (⟨"DryDoorsModel", "four", "(I)V"⟩, 44), (⟨"DryDoorsModel", "begins", "(II)Z"⟩, 44), (⟨"DryDoorsModel", "ahead", "()V"⟩, 44)]
theorem lw_r4 : ∀ q ∈ lw_privs_4, lw_okq q := List.forall_mem_cons.mpr ⟨lw_p48, List.forall_mem_cons.mpr ⟨lw_p49, List.forall_mem_cons.mpr ⟨lw_p50, List.forall_mem_cons.mpr ⟨lw_p51, List.forall_mem_cons.mpr ⟨lw_p52, List.forall_mem_cons.mpr ⟨lw_p53, List.forall_mem_cons.mpr ⟨lw_p54, List.forall_mem_cons.mpr ⟨lw_p55, List.forall_mem_cons.mpr ⟨lw_p56, List.forall_mem_cons.mpr ⟨lw_p57, List.forall_mem_cons.mpr ⟨lw_p58, List.forall_mem_cons.mpr ⟨lw_p59, List.forall_mem_cons.mpr ⟨lw_p60, List.forall_mem_cons.mpr ⟨lw_p61, List.forall_mem_cons.mpr ⟨lw_p62, List.forall_mem_cons.mpr ⟨lw_p63, fun _ h => absurd h List.not_mem_nil⟩⟩⟩⟩⟩⟩⟩⟩⟩⟩⟩⟩⟩⟩⟩⟩
theorem lw_p64 : lw_okq (⟨"DryDoorsModel", "byteAt", "(I)I"⟩, 44) := ⟨⟨by decide +kernel, by decide +kernel⟩, List.mem_of_getElem? (i := 1509) (by decide +kernel), List.mem_of_getElem? (i := 1719) (by decide +kernel), List.mem_of_getElem? (i := 1720) (by decide +kernel)⟩
theorem lw_p65 : lw_okq (⟨"DryDoorsModel", "refuse", "(I)I"⟩, 44) := ⟨⟨by decide +kernel, by decide +kernel⟩, List.mem_of_getElem? (i := 1509) (by decide +kernel), List.mem_of_getElem? (i := 1731) (by decide +kernel), List.mem_of_getElem? (i := 1732) (by decide +kernel)⟩
theorem lw_p66 : lw_okq (⟨"DryDoorsModel", "landPart", "()Z"⟩, 44) := ⟨⟨by decide +kernel, by decide +kernel⟩, List.mem_of_getElem? (i := 1509) (by decide +kernel), List.mem_of_getElem? (i := 1735) (by decide +kernel), List.mem_of_getElem? (i := 1736) (by decide +kernel)⟩
theorem lw_p67 : lw_okq (⟨"DryDoorsModel", "inWords", "(Ljava/lang/String;)I"⟩, 44) := ⟨⟨by decide +kernel, by decide +kernel⟩, List.mem_of_getElem? (i := 1509) (by decide +kernel), List.mem_of_getElem? (i := 1740) (by decide +kernel), List.mem_of_getElem? (i := 1741) (by decide +kernel)⟩
theorem lw_p68 : lw_okq (⟨"DryDoorsModel", "aRoom", "()Z"⟩, 44) := ⟨⟨by decide +kernel, by decide +kernel⟩, List.mem_of_getElem? (i := 1509) (by decide +kernel), List.mem_of_getElem? (i := 1746) (by decide +kernel), List.mem_of_getElem? (i := 1747) (by decide +kernel)⟩
theorem lw_p69 : lw_okq (⟨"DryDoorsModel", "newOne", "(III)Z"⟩, 44) := ⟨⟨by decide +kernel, by decide +kernel⟩, List.mem_of_getElem? (i := 1509) (by decide +kernel), List.mem_of_getElem? (i := 1750) (by decide +kernel), List.mem_of_getElem? (i := 1751) (by decide +kernel)⟩
theorem lw_p70 : lw_okq (⟨"DryDoorsModel", "errs", "(I)Z"⟩, 44) := ⟨⟨by decide +kernel, by decide +kernel⟩, List.mem_of_getElem? (i := 1509) (by decide +kernel), List.mem_of_getElem? (i := 1754) (by decide +kernel), List.mem_of_getElem? (i := 1755) (by decide +kernel)⟩
theorem lw_p71 : lw_okq (⟨"DryDoorsModel", "isName", "(Ljava/lang/String;)Z"⟩, 44) := ⟨⟨by decide +kernel, by decide +kernel⟩, List.mem_of_getElem? (i := 1509) (by decide +kernel), List.mem_of_getElem? (i := 1758) (by decide +kernel), List.mem_of_getElem? (i := 1759) (by decide +kernel)⟩
theorem lw_p72 : lw_okq (⟨"DryDoorsModel", "findHere", "(II)I"⟩, 44) := ⟨⟨by decide +kernel, by decide +kernel⟩, List.mem_of_getElem? (i := 1509) (by decide +kernel), List.mem_of_getElem? (i := 1762) (by decide +kernel), List.mem_of_getElem? (i := 1763) (by decide +kernel)⟩
theorem lw_p73 : lw_okq (⟨"DryDoorsModel", "nameHere", "()J"⟩, 44) := ⟨⟨by decide +kernel, by decide +kernel⟩, List.mem_of_getElem? (i := 1509) (by decide +kernel), List.mem_of_getElem? (i := 1766) (by decide +kernel), List.mem_of_getElem? (i := 1767) (by decide +kernel)⟩
theorem lw_p74 : lw_okq (⟨"DryDoorsModel", "wantWord", "(Ljava/lang/String;I)Z"⟩, 44) := ⟨⟨by decide +kernel, by decide +kernel⟩, List.mem_of_getElem? (i := 1509) (by decide +kernel), List.mem_of_getElem? (i := 1770) (by decide +kernel), List.mem_of_getElem? (i := 1771) (by decide +kernel)⟩
theorem lw_p75 : lw_okq (⟨"DryDoorsModel", "number", "(III)Z"⟩, 44) := ⟨⟨by decide +kernel, by decide +kernel⟩, List.mem_of_getElem? (i := 1509) (by decide +kernel), List.mem_of_getElem? (i := 1774) (by decide +kernel), List.mem_of_getElem? (i := 1775) (by decide +kernel)⟩
theorem lw_p76 : lw_okq (⟨"DryDoorsModel", "isThere", "(I)Z"⟩, 44) := ⟨⟨by decide +kernel, by decide +kernel⟩, List.mem_of_getElem? (i := 1509) (by decide +kernel), List.mem_of_getElem? (i := 1778) (by decide +kernel), List.mem_of_getElem? (i := 1779) (by decide +kernel)⟩
theorem lw_p77 : lw_okq (⟨"DryDoorsModel", "aDoor", "()Z"⟩, 44) := ⟨⟨by decide +kernel, by decide +kernel⟩, List.mem_of_getElem? (i := 1509) (by decide +kernel), List.mem_of_getElem? (i := 1782) (by decide +kernel), List.mem_of_getElem? (i := 1783) (by decide +kernel)⟩
theorem lw_p78 : lw_okq (⟨"DryDoorsModel", "endTo", "(I)Z"⟩, 44) := ⟨⟨by decide +kernel, by decide +kernel⟩, List.mem_of_getElem? (i := 1509) (by decide +kernel), List.mem_of_getElem? (i := 1786) (by decide +kernel), List.mem_of_getElem? (i := 1787) (by decide +kernel)⟩
theorem lw_p79 : lw_okq (⟨"DryDoorsModel", "oldOne", "(III)Z"⟩, 44) := ⟨⟨by decide +kernel, by decide +kernel⟩, List.mem_of_getElem? (i := 1509) (by decide +kernel), List.mem_of_getElem? (i := 1790) (by decide +kernel), List.mem_of_getElem? (i := 1791) (by decide +kernel)⟩
def lw_privs_5 : List (MethodName × Nat) := [(⟨"DryDoorsModel", "byteAt", "(I)I"⟩, 44), (⟨"DryDoorsModel", "refuse", "(I)I"⟩, 44), (⟨"DryDoorsModel", "landPart", "()Z"⟩, 44), (⟨"DryDoorsModel", "inWords", "(Ljava/lang/String;)I"⟩, 44), (⟨"DryDoorsModel", "aRoom", "()Z"⟩, 44), (⟨"DryDoorsModel", "newOne", "(III)Z"⟩, 44), (⟨"DryDoorsModel", "errs", "(I)Z"⟩, 44), (⟨"DryDoorsModel", "isName", "(Ljava/lang/String;)Z"⟩, 44), (⟨"DryDoorsModel", "findHere", "(II)I"⟩, 44), (⟨"DryDoorsModel", "nameHere", "()J"⟩, 44), (⟨"DryDoorsModel", "wantWord", "(Ljava/lang/String;I)Z"⟩, 44), (⟨"DryDoorsModel", "number", "(III)Z"⟩, 44), (⟨"DryDoorsModel", "isThere", "(I)Z"⟩, 44), (⟨"DryDoorsModel", "aDoor", "()Z"⟩, 44), (⟨"DryDoorsModel", "endTo", "(I)Z"⟩, 44), (⟨"DryDoorsModel", "oldOne", "(III)Z"⟩, 44)]
theorem lw_r5 : ∀ q ∈ lw_privs_5, lw_okq q := List.forall_mem_cons.mpr ⟨lw_p64, List.forall_mem_cons.mpr ⟨lw_p65, List.forall_mem_cons.mpr ⟨lw_p66, List.forall_mem_cons.mpr ⟨lw_p67, List.forall_mem_cons.mpr ⟨lw_p68, List.forall_mem_cons.mpr ⟨lw_p69, List.forall_mem_cons.mpr ⟨lw_p70, List.forall_mem_cons.mpr ⟨lw_p71, List.forall_mem_cons.mpr ⟨lw_p72, List.forall_mem_cons.mpr ⟨lw_p73, List.forall_mem_cons.mpr ⟨lw_p74, List.forall_mem_cons.mpr ⟨lw_p75, List.forall_mem_cons.mpr ⟨lw_p76, List.forall_mem_cons.mpr ⟨lw_p77, List.forall_mem_cons.mpr ⟨lw_p78, List.forall_mem_cons.mpr ⟨lw_p79, fun _ h => absurd h List.not_mem_nil⟩⟩⟩⟩⟩⟩⟩⟩⟩⟩⟩⟩⟩⟩⟩⟩
theorem lw_p80 : lw_okq (⟨"DryDoorsModel", "wantSign", "(I)Z"⟩, 44) := ⟨⟨by decide +kernel, by decide +kernel⟩, List.mem_of_getElem? (i := 1509) (by decide +kernel), List.mem_of_getElem? (i := 1794) (by decide +kernel), List.mem_of_getElem? (i := 1795) (by decide +kernel)⟩
theorem lw_p81 : lw_okq (⟨"DryDoorsModel", "isSign", "(I)Z"⟩, 44) := ⟨⟨by decide +kernel, by decide +kernel⟩, List.mem_of_getElem? (i := 1509) (by decide +kernel), List.mem_of_getElem? (i := 1798) (by decide +kernel), List.mem_of_getElem? (i := 1799) (by decide +kernel)⟩
theorem lw_p82 : lw_okq (⟨"DryDoorsModel", "taken", "(I)I"⟩, 44) := ⟨⟨by decide +kernel, by decide +kernel⟩, List.mem_of_getElem? (i := 1509) (by decide +kernel), List.mem_of_getElem? (i := 1802) (by decide +kernel), List.mem_of_getElem? (i := 1803) (by decide +kernel)⟩
theorem lw_p83 : lw_okq (⟨"DryDoorsModel", "gives", "(I)I"⟩, 44) := ⟨⟨by decide +kernel, by decide +kernel⟩, List.mem_of_getElem? (i := 1509) (by decide +kernel), List.mem_of_getElem? (i := 1806) (by decide +kernel), List.mem_of_getElem? (i := 1807) (by decide +kernel)⟩
theorem lw_p84 : lw_okq (⟨"DryDoorsModel", "nightStep", "()Z"⟩, 44) := ⟨⟨by decide +kernel, by decide +kernel⟩, List.mem_of_getElem? (i := 1509) (by decide +kernel), List.mem_of_getElem? (i := 1814) (by decide +kernel), List.mem_of_getElem? (i := 1815) (by decide +kernel)⟩
theorem lw_p85 : lw_okq (⟨"DryDoorsModel", "nightOrder", "(II)Z"⟩, 44) := ⟨⟨by decide +kernel, by decide +kernel⟩, List.mem_of_getElem? (i := 1509) (by decide +kernel), List.mem_of_getElem? (i := 1818) (by decide +kernel), List.mem_of_getElem? (i := 1819) (by decide +kernel)⟩
theorem lw_p86 : lw_okq (⟨"DryDoorsModel", "doorTo", "(I)Z"⟩, 44) := ⟨⟨by decide +kernel, by decide +kernel⟩, List.mem_of_getElem? (i := 1509) (by decide +kernel), List.mem_of_getElem? (i := 1822) (by decide +kernel), List.mem_of_getElem? (i := 1823) (by decide +kernel)⟩
theorem lw_p87 : lw_okq (⟨"DryDoorsModel", "roomTo", "(I)Z"⟩, 44) := ⟨⟨by decide +kernel, by decide +kernel⟩, List.mem_of_getElem? (i := 1509) (by decide +kernel), List.mem_of_getElem? (i := 1826) (by decide +kernel), List.mem_of_getElem? (i := 1827) (by decide +kernel)⟩
theorem lw_p88 : lw_okq (⟨"DryDoorsModel", "test", "(I)Z"⟩, 44) := ⟨⟨by decide +kernel, by decide +kernel⟩, List.mem_of_getElem? (i := 1509) (by decide +kernel), List.mem_of_getElem? (i := 1830) (by decide +kernel), List.mem_of_getElem? (i := 1831) (by decide +kernel)⟩
theorem lw_p89 : lw_okq (⟨"DryDoorsModel", "allWater", "()I"⟩, 44) := ⟨⟨by decide +kernel, by decide +kernel⟩, List.mem_of_getElem? (i := 1509) (by decide +kernel), List.mem_of_getElem? (i := 1838) (by decide +kernel), List.mem_of_getElem? (i := 1839) (by decide +kernel)⟩
theorem lw_p90 : lw_okq (⟨"DryDoorsModel", "roomOf", "(II)I"⟩, 44) := ⟨⟨by decide +kernel, by decide +kernel⟩, List.mem_of_getElem? (i := 1509) (by decide +kernel), List.mem_of_getElem? (i := 1842) (by decide +kernel), List.mem_of_getElem? (i := 1843) (by decide +kernel)⟩
theorem lw_p91 : lw_okq (⟨"DryDoorsModel", "setOf", "(I)I"⟩, 44) := ⟨⟨by decide +kernel, by decide +kernel⟩, List.mem_of_getElem? (i := 1509) (by decide +kernel), List.mem_of_getElem? (i := 1849) (by decide +kernel), List.mem_of_getElem? (i := 1850) (by decide +kernel)⟩
theorem lw_p92 : lw_okq (⟨"DryDoorsModel", "depthOf", "(I)I"⟩, 44) := ⟨⟨by decide +kernel, by decide +kernel⟩, List.mem_of_getElem? (i := 1509) (by decide +kernel), List.mem_of_getElem? (i := 1853) (by decide +kernel), List.mem_of_getElem? (i := 1854) (by decide +kernel)⟩
theorem lw_p93 : lw_okq (⟨"DryDoorsModel", "isOpen", "(I)Z"⟩, 44) := ⟨⟨by decide +kernel, by decide +kernel⟩, List.mem_of_getElem? (i := 1509) (by decide +kernel), List.mem_of_getElem? (i := 1857) (by decide +kernel), List.mem_of_getElem? (i := 1858) (by decide +kernel)⟩
theorem lw_p94 : lw_okq (⟨"DryDoorsModel", "doorOf", "(II)I"⟩, 44) := ⟨⟨by decide +kernel, by decide +kernel⟩, List.mem_of_getElem? (i := 1509) (by decide +kernel), List.mem_of_getElem? (i := 1861) (by decide +kernel), List.mem_of_getElem? (i := 1862) (by decide +kernel)⟩
theorem lw_p95 : lw_okq (⟨"DryDoorsModel", "isIn", "(II)Z"⟩, 44) := ⟨⟨by decide +kernel, by decide +kernel⟩, List.mem_of_getElem? (i := 1509) (by decide +kernel), List.mem_of_getElem? (i := 1868) (by decide +kernel), List.mem_of_getElem? (i := 1869) (by decide +kernel)⟩
def lw_privs_6 : List (MethodName × Nat) := [(⟨"DryDoorsModel", "wantSign", "(I)Z"⟩, 44), (⟨"DryDoorsModel", "isSign", "(I)Z"⟩, 44), (⟨"DryDoorsModel", "taken", "(I)I"⟩, 44), (⟨"DryDoorsModel", "gives", "(I)I"⟩, 44), (⟨"DryDoorsModel", "nightStep", "()Z"⟩, 44), (⟨"DryDoorsModel", "nightOrder", "(II)Z"⟩, 44), (⟨"DryDoorsModel", "doorTo", "(I)Z"⟩, 44), (⟨"DryDoorsModel", "roomTo", "(I)Z"⟩, 44), (⟨"DryDoorsModel", "test", "(I)Z"⟩, 44), (⟨"DryDoorsModel", "allWater", "()I"⟩, 44), (⟨"DryDoorsModel", "roomOf", "(II)I"⟩, 44), (⟨"DryDoorsModel", "setOf", "(I)I"⟩, 44), (⟨"DryDoorsModel", "depthOf", "(I)I"⟩, 44), (⟨"DryDoorsModel", "isOpen", "(I)Z"⟩, 44), (⟨"DryDoorsModel", "doorOf", "(II)I"⟩, 44), (⟨"DryDoorsModel", "isIn", "(II)Z"⟩, 44)]
theorem lw_r6 : ∀ q ∈ lw_privs_6, lw_okq q := List.forall_mem_cons.mpr ⟨lw_p80, List.forall_mem_cons.mpr ⟨lw_p81, List.forall_mem_cons.mpr ⟨lw_p82, List.forall_mem_cons.mpr ⟨lw_p83, List.forall_mem_cons.mpr ⟨lw_p84, List.forall_mem_cons.mpr ⟨lw_p85, List.forall_mem_cons.mpr ⟨lw_p86, List.forall_mem_cons.mpr ⟨lw_p87, List.forall_mem_cons.mpr ⟨lw_p88, List.forall_mem_cons.mpr ⟨lw_p89, List.forall_mem_cons.mpr ⟨lw_p90, List.forall_mem_cons.mpr ⟨lw_p91, List.forall_mem_cons.mpr ⟨lw_p92, List.forall_mem_cons.mpr ⟨lw_p93, List.forall_mem_cons.mpr ⟨lw_p94, List.forall_mem_cons.mpr ⟨lw_p95, fun _ h => absurd h List.not_mem_nil⟩⟩⟩⟩⟩⟩⟩⟩⟩⟩⟩⟩⟩⟩⟩⟩
theorem lw_p96 : lw_okq (⟨"DryDoorsModel", "now", "()I"⟩, 44) := ⟨⟨by decide +kernel, by decide +kernel⟩, List.mem_of_getElem? (i := 1509) (by decide +kernel), List.mem_of_getElem? (i := 1872) (by decide +kernel), List.mem_of_getElem? (i := 1873) (by decide +kernel)⟩
theorem lw_p97 : lw_okq (⟨"DryDoorsModel", "isRoom", "(I)Z"⟩, 44) := ⟨⟨by decide +kernel, by decide +kernel⟩, List.mem_of_getElem? (i := 1509) (by decide +kernel), List.mem_of_getElem? (i := 1880) (by decide +kernel), List.mem_of_getElem? (i := 1881) (by decide +kernel)⟩
theorem lw_p98 : lw_okq (⟨"DryDoorsModel", "surfaceOf", "(I)I"⟩, 44) := ⟨⟨by decide +kernel, by decide +kernel⟩, List.mem_of_getElem? (i := 1509) (by decide +kernel), List.mem_of_getElem? (i := 1884) (by decide +kernel), List.mem_of_getElem? (i := 1885) (by decide +kernel)⟩
theorem lw_p99 : lw_okq (⟨"DryDoorsModel", "isDoor", "(I)Z"⟩, 44) := ⟨⟨by decide +kernel, by decide +kernel⟩, List.mem_of_getElem? (i := 1509) (by decide +kernel), List.mem_of_getElem? (i := 1892) (by decide +kernel), List.mem_of_getElem? (i := 1893) (by decide +kernel)⟩
theorem lw_p100 : lw_okq (⟨"DryDoorsModel", "isErrand", "(I)Z"⟩, 44) := ⟨⟨by decide +kernel, by decide +kernel⟩, List.mem_of_getElem? (i := 1509) (by decide +kernel), List.mem_of_getElem? (i := 1900) (by decide +kernel), List.mem_of_getElem? (i := 1901) (by decide +kernel)⟩
theorem lw_p101 : lw_okq (⟨"DryDoorsModel", "driveOf", "(I)I"⟩, 44) := ⟨⟨by decide +kernel, by decide +kernel⟩, List.mem_of_getElem? (i := 1509) (by decide +kernel), List.mem_of_getElem? (i := 1915) (by decide +kernel), List.mem_of_getElem? (i := 1916) (by decide +kernel)⟩
theorem lw_p102 : lw_okq (⟨"DryDoorsModel", "flowOf", "(I)I"⟩, 44) := ⟨⟨by decide +kernel, by decide +kernel⟩, List.mem_of_getElem? (i := 1509) (by decide +kernel), List.mem_of_getElem? (i := 1925) (by decide +kernel), List.mem_of_getElem? (i := 1926) (by decide +kernel)⟩
theorem lw_p103 : lw_okq (⟨"DryDoorsModel", "flowBy", "(IZ)I"⟩, 44) := ⟨⟨by decide +kernel, by decide +kernel⟩, List.mem_of_getElem? (i := 1509) (by decide +kernel), List.mem_of_getElem? (i := 1929) (by decide +kernel), List.mem_of_getElem? (i := 1930) (by decide +kernel)⟩
theorem lw_p104 : lw_okq (⟨"DryDoorsModel", "orNone", "(I)I"⟩, 44) := ⟨⟨by decide +kernel, by decide +kernel⟩, List.mem_of_getElem? (i := 1509) (by decide +kernel), List.mem_of_getElem? (i := 1941) (by decide +kernel), List.mem_of_getElem? (i := 1942) (by decide +kernel)⟩
theorem lw_p105 : lw_okq (⟨"DryDoorsModel", "linkedFrom", "(IIZ)I"⟩, 44) := ⟨⟨by decide +kernel, by decide +kernel⟩, List.mem_of_getElem? (i := 1509) (by decide +kernel), List.mem_of_getElem? (i := 1965) (by decide +kernel), List.mem_of_getElem? (i := 1966) (by decide +kernel)⟩
theorem lw_p106 : lw_okq (⟨"DryDoorsModel", "goes", "(I)I"⟩, 44) := ⟨⟨by decide +kernel, by decide +kernel⟩, List.mem_of_getElem? (i := 1509) (by decide +kernel), List.mem_of_getElem? (i := 1977) (by decide +kernel), List.mem_of_getElem? (i := 1978) (by decide +kernel)⟩
theorem lw_p107 : lw_okq (⟨"DryDoorsModel", "goesBy", "()I"⟩, 44) := ⟨⟨by decide +kernel, by decide +kernel⟩, List.mem_of_getElem? (i := 1509) (by decide +kernel), List.mem_of_getElem? (i := 1981) (by decide +kernel), List.mem_of_getElem? (i := 1982) (by decide +kernel)⟩
theorem lw_p108 : lw_okq (⟨"DryDoorsModel", "pours", "(II)V"⟩, 44) := ⟨⟨by decide +kernel, by decide +kernel⟩, List.mem_of_getElem? (i := 1509) (by decide +kernel), List.mem_of_getElem? (i := 1985) (by decide +kernel), List.mem_of_getElem? (i := 1986) (by decide +kernel)⟩
theorem lw_p109 : lw_okq (⟨"DryDoorsModel", "turns", "(IIZ)Z"⟩, 44) := ⟨⟨by decide +kernel, by decide +kernel⟩, List.mem_of_getElem? (i := 1509) (by decide +kernel), List.mem_of_getElem? (i := 1993) (by decide +kernel), List.mem_of_getElem? (i := 1994) (by decide +kernel)⟩
theorem lw_p110 : lw_okq (⟨"DryDoorsModel", "bails", "(II)Z"⟩, 44) := ⟨⟨by decide +kernel, by decide +kernel⟩, List.mem_of_getElem? (i := 1509) (by decide +kernel), List.mem_of_getElem? (i := 2006) (by decide +kernel), List.mem_of_getElem? (i := 2007) (by decide +kernel)⟩
theorem lw_p111 : lw_okq (⟨"DryDoorsModel", "wipes", "()I"⟩, 44) := ⟨⟨by decide +kernel, by decide +kernel⟩, List.mem_of_getElem? (i := 1509) (by decide +kernel), List.mem_of_getElem? (i := 2014) (by decide +kernel), List.mem_of_getElem? (i := 2015) (by decide +kernel)⟩
def lw_privs_7 : List (MethodName × Nat) := [(⟨"DryDoorsModel", "now", "()I"⟩, 44), (⟨"DryDoorsModel", "isRoom", "(I)Z"⟩, 44), (⟨"DryDoorsModel", "surfaceOf", "(I)I"⟩, 44), (⟨"DryDoorsModel", "isDoor", "(I)Z"⟩, 44), (⟨"DryDoorsModel", "isErrand", "(I)Z"⟩, 44), (⟨"DryDoorsModel", "driveOf", "(I)I"⟩, 44), (⟨"DryDoorsModel", "flowOf", "(I)I"⟩, 44), (⟨"DryDoorsModel", "flowBy", "(IZ)I"⟩, 44), (⟨"DryDoorsModel", "orNone", "(I)I"⟩, 44), (⟨"DryDoorsModel", "linkedFrom", "(IIZ)I"⟩, 44), (⟨"DryDoorsModel", "goes", "(I)I"⟩, 44), (⟨"DryDoorsModel", "goesBy", "()I"⟩, 44), (⟨"DryDoorsModel", "pours", "(II)V"⟩, 44), (⟨"DryDoorsModel", "turns", "(IIZ)Z"⟩, 44), (⟨"DryDoorsModel", "bails", "(II)Z"⟩, 44), (⟨"DryDoorsModel", "wipes", "()I"⟩, 44)]
theorem lw_r7 : ∀ q ∈ lw_privs_7, lw_okq q := List.forall_mem_cons.mpr ⟨lw_p96, List.forall_mem_cons.mpr ⟨lw_p97, List.forall_mem_cons.mpr ⟨lw_p98, List.forall_mem_cons.mpr ⟨lw_p99, List.forall_mem_cons.mpr ⟨lw_p100, List.forall_mem_cons.mpr ⟨lw_p101, List.forall_mem_cons.mpr ⟨lw_p102, List.forall_mem_cons.mpr ⟨lw_p103, List.forall_mem_cons.mpr ⟨lw_p104, List.forall_mem_cons.mpr ⟨lw_p105, List.forall_mem_cons.mpr ⟨lw_p106, List.forall_mem_cons.mpr ⟨lw_p107, List.forall_mem_cons.mpr ⟨lw_p108, List.forall_mem_cons.mpr ⟨lw_p109, List.forall_mem_cons.mpr ⟨lw_p110, List.forall_mem_cons.mpr ⟨lw_p111, fun _ h => absurd h List.not_mem_nil⟩⟩⟩⟩⟩⟩⟩⟩⟩⟩⟩⟩⟩⟩⟩⟩
theorem lw_p112 : lw_okq (⟨"DryDoorsModel", "waterIn", "(II)I"⟩, 44) := ⟨⟨by decide +kernel, by decide +kernel⟩, List.mem_of_getElem? (i := 1509) (by decide +kernel), List.mem_of_getElem? (i := 2049) (by decide +kernel), List.mem_of_getElem? (i := 2050) (by decide +kernel)⟩
theorem lw_p113 : lw_okq (⟨"DryDoorsModel", "keeps", "(I)V"⟩, 44) := ⟨⟨by decide +kernel, by decide +kernel⟩, List.mem_of_getElem? (i := 1509) (by decide +kernel), List.mem_of_getElem? (i := 2053) (by decide +kernel), List.mem_of_getElem? (i := 2054) (by decide +kernel)⟩
theorem lw_p114 : lw_okq (⟨"DryDoorsModel", "restores", "(I)V"⟩, 44) := ⟨⟨by decide +kernel, by decide +kernel⟩, List.mem_of_getElem? (i := 1509) (by decide +kernel), List.mem_of_getElem? (i := 2057) (by decide +kernel), List.mem_of_getElem? (i := 2058) (by decide +kernel)⟩
theorem lw_p115 : lw_okq (⟨"DryDoorsModel", "hoursTill", "(II)I"⟩, 44) := ⟨⟨by decide +kernel, by decide +kernel⟩, List.mem_of_getElem? (i := 1509) (by decide +kernel), List.mem_of_getElem? (i := 2069) (by decide +kernel), List.mem_of_getElem? (i := 2070) (by decide +kernel)⟩
theorem lw_p116 : lw_okq (⟨"DryDoorsModel", "triesOpen", "(II)V"⟩, 44) := ⟨⟨by decide +kernel, by decide +kernel⟩, List.mem_of_getElem? (i := 1509) (by decide +kernel), List.mem_of_getElem? (i := 2085) (by decide +kernel), List.mem_of_getElem? (i := 2086) (by decide +kernel)⟩
theorem lw_p117 : lw_okq (⟨"DryDoorsModel", "waterWalled", "(II)I"⟩, 44) := ⟨⟨by decide +kernel, by decide +kernel⟩, List.mem_of_getElem? (i := 1509) (by decide +kernel), List.mem_of_getElem? (i := 2126) (by decide +kernel), List.mem_of_getElem? (i := 2127) (by decide +kernel)⟩
theorem lw_p118 : lw_okq (⟨"DryDoorsModel", "siegeOf", "(I)I"⟩, 44) := ⟨⟨by decide +kernel, by decide +kernel⟩, List.mem_of_getElem? (i := 1509) (by decide +kernel), List.mem_of_getElem? (i := 2143) (by decide +kernel), List.mem_of_getElem? (i := 2144) (by decide +kernel)⟩
theorem lw_p119 : lw_okq (⟨"DryDoorsModel", "keepOf", "(I)I"⟩, 44) := ⟨⟨by decide +kernel, by decide +kernel⟩, List.mem_of_getElem? (i := 1509) (by decide +kernel), List.mem_of_getElem? (i := 2155) (by decide +kernel), List.mem_of_getElem? (i := 2156) (by decide +kernel)⟩
theorem lw_p120 : lw_okq (⟨"DryDoorsModel", "plans", "()V"⟩, 44) := ⟨⟨by decide +kernel, by decide +kernel⟩, List.mem_of_getElem? (i := 1509) (by decide +kernel), List.mem_of_getElem? (i := 2167) (by decide +kernel), List.mem_of_getElem? (i := 2168) (by decide +kernel)⟩
theorem lw_p121 : lw_okq (⟨"DryDoorsModel", "errandOf", "(II)I"⟩, 44) := ⟨⟨by decide +kernel, by decide +kernel⟩, List.mem_of_getElem? (i := 1509) (by decide +kernel), List.mem_of_getElem? (i := 2171) (by decide +kernel), List.mem_of_getElem? (i := 2172) (by decide +kernel)⟩
theorem lw_p122 : lw_okq (⟨"DryDoorsModel", "hoursOn", "()Z"⟩, 44) := ⟨⟨by decide +kernel, by decide +kernel⟩, List.mem_of_getElem? (i := 1509) (by decide +kernel), List.mem_of_getElem? (i := 2175) (by decide +kernel), List.mem_of_getElem? (i := 2176) (by decide +kernel)⟩
theorem lw_p123 : lw_okq (⟨"DryDoorsModel", "saveOf", "(I)I"⟩, 44) := ⟨⟨by decide +kernel, by decide +kernel⟩, List.mem_of_getElem? (i := 1509) (by decide +kernel), List.mem_of_getElem? (i := 2188) (by decide +kernel), List.mem_of_getElem? (i := 2189) (by decide +kernel)⟩
theorem lw_p124 : lw_okq (⟨"DryDoorsModel", "isSet", "(I)Z"⟩, 44) := ⟨⟨by decide +kernel, by decide +kernel⟩, List.mem_of_getElem? (i := 1509) (by decide +kernel), List.mem_of_getElem? (i := 2200) (by decide +kernel), List.mem_of_getElem? (i := 2201) (by decide +kernel)⟩
theorem lw_p125 : lw_okq (⟨"DryDoorsModel", "damageOf", "(I)I"⟩, 44) := ⟨⟨by decide +kernel, by decide +kernel⟩, List.mem_of_getElem? (i := 1509) (by decide +kernel), List.mem_of_getElem? (i := 2204) (by decide +kernel), List.mem_of_getElem? (i := 2205) (by decide +kernel)⟩
theorem lw_p126 : lw_okq (⟨"DryDoorsModel", "tellsBy", "(JJ)Z"⟩, 44) := ⟨⟨by decide +kernel, by decide +kernel⟩, List.mem_of_getElem? (i := 1509) (by decide +kernel), List.mem_of_getElem? (i := 2215) (by decide +kernel), List.mem_of_getElem? (i := 2216) (by decide +kernel)⟩
theorem lw_p127 : lw_okq (⟨"DryDoorsModel", "wrongPrint", "(I)I"⟩, 44) := ⟨⟨by decide +kernel, by decide +kernel⟩, List.mem_of_getElem? (i := 1509) (by decide +kernel), List.mem_of_getElem? (i := 2226) (by decide +kernel), List.mem_of_getElem? (i := 2227) (by decide +kernel)⟩
def lw_privs_8 : List (MethodName × Nat) := [(⟨"DryDoorsModel", "waterIn", "(II)I"⟩, 44), (⟨"DryDoorsModel", "keeps", "(I)V"⟩, 44), (⟨"DryDoorsModel", "restores", "(I)V"⟩, 44), (⟨"DryDoorsModel", "hoursTill", "(II)I"⟩, 44), (⟨"DryDoorsModel", "triesOpen", "(II)V"⟩, 44), (⟨"DryDoorsModel", "waterWalled", "(II)I"⟩, 44), (⟨"DryDoorsModel", "siegeOf", "(I)I"⟩, 44), (⟨"DryDoorsModel", "keepOf", "(I)I"⟩, 44), (⟨"DryDoorsModel", "plans", "()V"⟩, 44), (⟨"DryDoorsModel", "errandOf", "(II)I"⟩, 44), (⟨"DryDoorsModel", "hoursOn", "()Z"⟩, 44), (⟨"DryDoorsModel", "saveOf", "(I)I"⟩, 44), (⟨"DryDoorsModel", "isSet", "(I)Z"⟩, 44), (⟨"DryDoorsModel", "damageOf", "(I)I"⟩, 44), (⟨"DryDoorsModel", "tellsBy", "(JJ)Z"⟩, 44), (⟨"DryDoorsModel", "wrongPrint", "(I)I"⟩, 44)]
theorem lw_r8 : ∀ q ∈ lw_privs_8, lw_okq q := List.forall_mem_cons.mpr ⟨lw_p112, List.forall_mem_cons.mpr ⟨lw_p113, List.forall_mem_cons.mpr ⟨lw_p114, List.forall_mem_cons.mpr ⟨lw_p115, List.forall_mem_cons.mpr ⟨lw_p116, List.forall_mem_cons.mpr ⟨lw_p117, List.forall_mem_cons.mpr ⟨lw_p118, List.forall_mem_cons.mpr ⟨lw_p119, List.forall_mem_cons.mpr ⟨lw_p120, List.forall_mem_cons.mpr ⟨lw_p121, List.forall_mem_cons.mpr ⟨lw_p122, List.forall_mem_cons.mpr ⟨lw_p123, List.forall_mem_cons.mpr ⟨lw_p124, List.forall_mem_cons.mpr ⟨lw_p125, List.forall_mem_cons.mpr ⟨lw_p126, List.forall_mem_cons.mpr ⟨lw_p127, fun _ h => absurd h List.not_mem_nil⟩⟩⟩⟩⟩⟩⟩⟩⟩⟩⟩⟩⟩⟩⟩⟩
theorem lw_p128 : lw_okq (⟨"DryDoorsModel", "laysPrint", "(I)V"⟩, 44) := ⟨⟨by decide +kernel, by decide +kernel⟩, List.mem_of_getElem? (i := 1509) (by decide +kernel), List.mem_of_getElem? (i := 2230) (by decide +kernel), List.mem_of_getElem? (i := 2231) (by decide +kernel)⟩
theorem lw_p129 : lw_okq (⟨"DryDoorsModel", "printsOf", "(I)I"⟩, 44) := ⟨⟨by decide +kernel, by decide +kernel⟩, List.mem_of_getElem? (i := 1509) (by decide +kernel), List.mem_of_getElem? (i := 2242) (by decide +kernel), List.mem_of_getElem? (i := 2243) (by decide +kernel)⟩
theorem lw_p130 : lw_okq (⟨"DryDoorsModel", "lives", "(I)V"⟩, 44) := ⟨⟨by decide +kernel, by decide +kernel⟩, List.mem_of_getElem? (i := 1509) (by decide +kernel), List.mem_of_getElem? (i := 2255) (by decide +kernel), List.mem_of_getElem? (i := 2256) (by decide +kernel)⟩
theorem lw_p131 : lw_okq (⟨"DryDoorsModel", "does", "(I)Z"⟩, 44) := ⟨⟨by decide +kernel, by decide +kernel⟩, List.mem_of_getElem? (i := 1509) (by decide +kernel), List.mem_of_getElem? (i := 2259) (by decide +kernel), List.mem_of_getElem? (i := 2260) (by decide +kernel)⟩
theorem lw_p132 : lw_okq (⟨"DryDoorsModel", "hoursGo", "(I)Z"⟩, 44) := ⟨⟨by decide +kernel, by decide +kernel⟩, List.mem_of_getElem? (i := 1509) (by decide +kernel), List.mem_of_getElem? (i := 2263) (by decide +kernel), List.mem_of_getElem? (i := 2264) (by decide +kernel)⟩
theorem lw_p133 : lw_okq (⟨"DryDoorsModel", "bailsBy", "(II)Z"⟩, 44) := ⟨⟨by decide +kernel, by decide +kernel⟩, List.mem_of_getElem? (i := 1509) (by decide +kernel), List.mem_of_getElem? (i := 2267) (by decide +kernel), List.mem_of_getElem? (i := 2268) (by decide +kernel)⟩
theorem lw_p134 : lw_okq (⟨"DryDoorsModel", "turnsAny", "()Z"⟩, 44) := ⟨⟨by decide +kernel, by decide +kernel⟩, List.mem_of_getElem? (i := 1509) (by decide +kernel), List.mem_of_getElem? (i := 2271) (by decide +kernel), List.mem_of_getElem? (i := 2272) (by decide +kernel)⟩
theorem lw_p135 : lw_okq (⟨"DryDoorsModel", "draw", "(I)I"⟩, 44) := ⟨⟨by decide +kernel, by decide +kernel⟩, List.mem_of_getElem? (i := 1509) (by decide +kernel), List.mem_of_getElem? (i := 2275) (by decide +kernel), List.mem_of_getElem? (i := 2276) (by decide +kernel)⟩
theorem lw_p136 : lw_okq (⟨"DryDoorsModel", "holds", "(I)Z"⟩, 44) := ⟨⟨by decide +kernel, by decide +kernel⟩, List.mem_of_getElem? (i := 1509) (by decide +kernel), List.mem_of_getElem? (i := 2280) (by decide +kernel), List.mem_of_getElem? (i := 2281) (by decide +kernel)⟩
theorem lw_p137 : lw_okq (⟨"DryDoorsModel", "behindEnds", "(I)I"⟩, 44) := ⟨⟨by decide +kernel, by decide +kernel⟩, List.mem_of_getElem? (i := 1509) (by decide +kernel), List.mem_of_getElem? (i := 2284) (by decide +kernel), List.mem_of_getElem? (i := 2285) (by decide +kernel)⟩
theorem lw_p138 : lw_okq (⟨"DryDoorsModel", "copies", "(II)V"⟩, 44) := ⟨⟨by decide +kernel, by decide +kernel⟩, List.mem_of_getElem? (i := 1509) (by decide +kernel), List.mem_of_getElem? (i := 2301) (by decide +kernel), List.mem_of_getElem? (i := 2302) (by decide +kernel)⟩
def lw_privs_9 : List (MethodName × Nat) := [(⟨"DryDoorsModel", "laysPrint", "(I)V"⟩, 44), (⟨"DryDoorsModel", "printsOf", "(I)I"⟩, 44), (⟨"DryDoorsModel", "lives", "(I)V"⟩, 44), (⟨"DryDoorsModel", "does", "(I)Z"⟩, 44), (⟨"DryDoorsModel", "hoursGo", "(I)Z"⟩, 44), (⟨"DryDoorsModel", "bailsBy", "(II)Z"⟩, 44), (⟨"DryDoorsModel", "turnsAny", "()Z"⟩, 44), (⟨"DryDoorsModel", "draw", "(I)I"⟩, 44), (⟨"DryDoorsModel", "holds", "(I)Z"⟩, 44), (⟨"DryDoorsModel", "behindEnds", "(I)I"⟩, 44), (⟨"DryDoorsModel", "copies", "(II)V"⟩, 44)]
theorem lw_r9 : ∀ q ∈ lw_privs_9, lw_okq q := List.forall_mem_cons.mpr ⟨lw_p128, List.forall_mem_cons.mpr ⟨lw_p129, List.forall_mem_cons.mpr ⟨lw_p130, List.forall_mem_cons.mpr ⟨lw_p131, List.forall_mem_cons.mpr ⟨lw_p132, List.forall_mem_cons.mpr ⟨lw_p133, List.forall_mem_cons.mpr ⟨lw_p134, List.forall_mem_cons.mpr ⟨lw_p135, List.forall_mem_cons.mpr ⟨lw_p136, List.forall_mem_cons.mpr ⟨lw_p137, List.forall_mem_cons.mpr ⟨lw_p138, fun _ h => absurd h List.not_mem_nil⟩⟩⟩⟩⟩⟩⟩⟩⟩⟩⟩
def lw_privs : List (MethodName × Nat) := lw_privs_1 ++ (lw_privs_2 ++ (lw_privs_3 ++ (lw_privs_4 ++ (lw_privs_5 ++ (lw_privs_6 ++ (lw_privs_7 ++ (lw_privs_8 ++ (lw_privs_9))))))))
def lw_tbl : List Cond := k2_sels lw_privs ++ tables_1
theorem lw_privs_ok : ∀ q ∈ lw_privs, lw_okq q := by
  show ∀ q ∈ lw_privs_1 ++ (lw_privs_2 ++ (lw_privs_3 ++ (lw_privs_4 ++ (lw_privs_5 ++ (lw_privs_6 ++ (lw_privs_7 ++ (lw_privs_8 ++ (lw_privs_9)))))))), lw_okq q
  exact List.forall_mem_append.mpr ⟨lw_r1, List.forall_mem_append.mpr ⟨lw_r2, List.forall_mem_append.mpr ⟨lw_r3, List.forall_mem_append.mpr ⟨lw_r4, List.forall_mem_append.mpr ⟨lw_r5, List.forall_mem_append.mpr ⟨lw_r6, List.forall_mem_append.mpr ⟨lw_r7, List.forall_mem_append.mpr ⟨lw_r8, lw_r9⟩⟩⟩⟩⟩⟩⟩⟩
-- ===== end of PART A; then your names; then what follows =====
/-! ===== BEGIN words of one list among another's, by their places ===== -/
theorem goodIn_r {big : List Cond} (ws : List Cond) (ps : List Nat) (hp : ws = ps.filterMap (fun i => big[i]?)) (h : ws.all goodWord = true) : GoodIn big ws := by
  intro w hw
  have h1 := List.all_eq_true.mp h w hw
  rw [hp] at hw
  obtain ⟨i, -, hi⟩ := List.mem_filterMap.mp hw
  have hm : w ∈ big := by first | exact List.mem_of_getElem? hi | exact List.getElem?_mem hi
  exact ⟨hm, good_of_word h1⟩
theorem goodIn_app {big a b : List Cond} (ha : GoodIn big a) (hb : GoodIn big b) : GoodIn big (a ++ b) := fun w h => (List.mem_append.mp h).elim (ha w) (hb w)
theorem goodIn_ca {big a b : List Cond} {c : Cond} (ha : GoodIn big (c :: a)) (hb : GoodIn big b) : GoodIn big (c :: (a ++ b)) := fun w h => (List.mem_cons.mp h).elim (fun e => ha w (List.mem_cons.mpr (Or.inl e))) (fun h => (List.mem_append.mp h).elim (fun h => ha w (List.mem_cons.mpr (Or.inr h))) (hb w))
theorem goodIn_sub {big ws : List Cond} (hm : ∀ w ∈ ws, w ∈ big) (h : ws.all goodWord = true) : GoodIn big ws := fun w hw => ⟨hm w hw, good_of_word (List.all_eq_true.mp h w hw)⟩
/-! ===== BEGIN printed: names, fields, word lists, decode rows ===== -/
def RX0 : String := "DryDoors$Doors"
def TX0 : u_T := fun k => match k with
  | 0 => ("DryDoors$Doors", "count", "I", false)
  | 1 => ("DryDoors$Doors", "held", "I", false)
  | 2 => ("DryDoors$Doors", "walled", "I", false)
  | 3 => ("DryDoors$Doors", "name", "[J", true)
  | 4 => ("DryDoors$Doors", "first", "[I", true)
  | 5 => ("DryDoors$Doors", "second", "[I", true)
  | 6 => ("DryDoors$Doors", "sill", "[I", true)
  | 7 => ("DryDoors$Doors", "wide", "[I", true)
  | 8 => ("DryDoors$Doors", "leaks", "[I", true)
  | _ => ("DryDoors$Doors", "rotaAt", "[I", true)
def tyX0 : Nat → FieldType := fun k => match k with
  | 0 => .int
  | 1 => .int
  | 2 => .int
  | 3 => .array .long
  | 4 => .array .int
  | 5 => .array .int
  | 6 => .array .int
  | 7 => .array .int
  | 8 => .array .int
  | _ => .array .int
abbrev wsX00 : List Cond := u_ws RX0 TX0 10
theorem nmX0 : ∀ a, a < 10 → ∀ b, b < 10 → a ≠ b → (TX0 a).2.1 ≠ (TX0 b).2.1 := by decide +kernel
theorem tyX0_ok : ∀ k, k < 10 → parseFieldDescriptor (TX0 k).2.2.1 = some (tyX0 k) := by decide +kernel
abbrev cX0_init : ByteArray := prog_2_method_1_code
def yX0_init : MethodName := ⟨RX0, "<init>", "()V"⟩
abbrev cX0_clear : ByteArray := prog_2_method_2_code
def yX0_clear : MethodName := ⟨RX0, "clear", "()V"⟩
abbrev cX0_clearRota : ByteArray := prog_2_method_3_code
def yX0_clearRota : MethodName := ⟨RX0, "clearRota", "()V"⟩
abbrev cX0_add : ByteArray := prog_2_method_4_code
def yX0_add : MethodName := ⟨RX0, "add", "(JIIIII)V"⟩
abbrev cX0_copyFrom : ByteArray := prog_2_method_5_code
def yX0_copyFrom : MethodName := ⟨RX0, "copyFrom", "(LDryDoors$Doors;)V"⟩
abbrev cX0_indexOf : ByteArray := prog_2_method_6_code
def yX0_indexOf : MethodName := ⟨RX0, "indexOf", "(J)I"⟩
abbrev cX0_all : ByteArray := prog_2_method_7_code
def yX0_all : MethodName := ⟨RX0, "all", "()I"⟩
abbrev cX0_isHeld : ByteArray := prog_2_method_8_code
def yX0_isHeld : MethodName := ⟨RX0, "isHeld", "(I)Z"⟩
abbrev cX0_isWalled : ByteArray := prog_2_method_9_code
def yX0_isWalled : MethodName := ⟨RX0, "isWalled", "(I)Z"⟩
abbrev cX0_openJust : ByteArray := prog_2_method_10_code
def yX0_openJust : MethodName := ⟨RX0, "openJust", "(I)V"⟩
abbrev cX0_hoursOnRota : ByteArray := prog_2_method_11_code
def yX0_hoursOnRota : MethodName := ⟨RX0, "hoursOnRota", "(I)I"⟩
abbrev cX0_toSea : ByteArray := prog_2_method_12_code
def yX0_toSea : MethodName := ⟨RX0, "toSea", "()I"⟩
abbrev cX0_reached : ByteArray := prog_2_method_13_code
def yX0_reached : MethodName := ⟨RX0, "reached", "(II)I"⟩
def RX1 : String := "DryDoors$Land"
def TX1 : u_T := fun k => match k with
  | 0 => ("DryDoors$Land", "rooms", "LDryDoors$Rooms;", true)
  | 1 => ("DryDoors$Land", "doors", "LDryDoors$Doors;", true)
  | 2 => ("DryDoors$Land", "errands", "I", false)
  | 3 => ("DryDoors$Land", "errandName", "[J", true)
  | 4 => ("DryDoors$Land", "errandDoor", "[I", true)
  | 5 => ("DryDoors$Land", "errandFrom", "[I", true)
  | 6 => ("DryDoors$Land", "errandTo", "[I", true)
  | 7 => ("DryDoors$Land", "tide", "[I", true)
  | 8 => ("DryDoors$Land", "hour", "I", false)
  | 9 => ("DryDoors$Land", "pumpHours", "I", false)
  | 10 => ("DryDoors$Land", "surface", "[I", true)
  | 11 => ("DryDoors$Land", "drives", "[I", true)
  | 12 => ("DryDoors$Land", "openFlows", "[I", true)
  | 13 => ("DryDoors$Land", "flows", "[I", true)
  | _ => ("DryDoors$Land", "passed", "[I", true)
def tyX1 : Nat → FieldType := fun k => match k with
  | 0 => .object "DryDoors$Rooms"
  | 1 => .object "DryDoors$Doors"
  | 2 => .int
  | 3 => .array .long
  | 4 => .array .int
  | 5 => .array .int
  | 6 => .array .int
  | 7 => .array .int
  | 8 => .int
  | 9 => .int
  | 10 => .array .int
  | 11 => .array .int
  | 12 => .array .int
  | 13 => .array .int
  | _ => .array .int
abbrev wsX10 : List Cond := u_ws RX1 TX1 15
theorem nmX1 : ∀ a, a < 15 → ∀ b, b < 15 → a ≠ b → (TX1 a).2.1 ≠ (TX1 b).2.1 := by decide +kernel
theorem tyX1_ok : ∀ k, k < 15 → parseFieldDescriptor (TX1 k).2.2.1 = some (tyX1 k) := by decide +kernel
abbrev cX1_init : ByteArray := prog_3_method_1_code
def yX1_init : MethodName := ⟨RX1, "<init>", "()V"⟩
abbrev cX1_clear : ByteArray := prog_3_method_2_code
def yX1_clear : MethodName := ⟨RX1, "clear", "()V"⟩
abbrev cX1_setAllTides : ByteArray := prog_3_method_3_code
def yX1_setAllTides : MethodName := ⟨RX1, "setAllTides", "(I)V"⟩
abbrev cX1_addErrand : ByteArray := prog_3_method_4_code
def yX1_addErrand : MethodName := ⟨RX1, "addErrand", "(JIII)V"⟩
abbrev cX1_copyFrom : ByteArray := prog_3_method_5_code
def yX1_copyFrom : MethodName := ⟨RX1, "copyFrom", "(LDryDoors$Land;)V"⟩
abbrev cX1_copyWaterFrom : ByteArray := prog_3_method_6_code
def yX1_copyWaterFrom : MethodName := ⟨RX1, "copyWaterFrom", "(LDryDoors$Land;)V"⟩
abbrev cX1_isNameTaken : ByteArray := prog_3_method_7_code
def yX1_isNameTaken : MethodName := ⟨RX1, "isNameTaken", "(J)Z"⟩
abbrev cX1_hourOfDay : ByteArray := prog_3_method_8_code
def yX1_hourOfDay : MethodName := ⟨RX1, "hourOfDay", "()I"⟩
abbrev cX1_openNow : ByteArray := prog_3_method_9_code
def yX1_openNow : MethodName := ⟨RX1, "openNow", "()I"⟩
abbrev cX1_findSurfaces : ByteArray := prog_3_method_10_code
def yX1_findSurfaces : MethodName := ⟨RX1, "findSurfaces", "()V"⟩
abbrev cX1_findFlows : ByteArray := prog_3_method_11_code
def yX1_findFlows : MethodName := ⟨RX1, "findFlows", "()V"⟩
abbrev cX1_surfaceOf : ByteArray := prog_3_method_12_code
def yX1_surfaceOf : MethodName := ⟨RX1, "surfaceOf", "(I)I"⟩
abbrev cX1_letThrough : ByteArray := prog_3_method_13_code
def yX1_letThrough : MethodName := ⟨RX1, "letThrough", "()V"⟩
abbrev cX1_isRoomEnd : ByteArray := prog_3_method_14_code
def yX1_isRoomEnd : MethodName := ⟨RX1, "isRoomEnd", "(I)Z"⟩
abbrev cX1_goOneHour : ByteArray := prog_3_method_15_code
def yX1_goOneHour : MethodName := ⟨RX1, "goOneHour", "()V"⟩
abbrev cX1_goOn : ByteArray := prog_3_method_16_code
def yX1_goOn : MethodName := ⟨RX1, "goOn", "(I)V"⟩
abbrev cX1_waterIn : ByteArray := prog_3_method_17_code
def yX1_waterIn : MethodName := ⟨RX1, "waterIn", "(I)I"⟩
def RX2 : String := "DryDoors$LandReader"
def TX2 : u_T := fun k => match k with
  | 0 => ("DryDoors$LandReader", "text", "LDryDoors$Text;", true)
  | _ => ("DryDoors$LandReader", "draft", "LDryDoors$Land;", true)
def tyX2 : Nat → FieldType := fun k => match k with
  | 0 => .object "DryDoors$Text"
  | _ => .object "DryDoors$Land"
abbrev wsX20 : List Cond := u_ws RX2 TX2 2
theorem nmX2 : ∀ a, a < 2 → ∀ b, b < 2 → a ≠ b → (TX2 a).2.1 ≠ (TX2 b).2.1 := by decide +kernel
theorem tyX2_ok : ∀ k, k < 2 → parseFieldDescriptor (TX2 k).2.2.1 = some (tyX2 k) := by decide +kernel
abbrev cX2_init : ByteArray := prog_4_method_1_code
def yX2_init : MethodName := ⟨RX2, "<init>", "()V"⟩
abbrev cX2_readAll : ByteArray := prog_4_method_2_code
def yX2_readAll : MethodName := ⟨RX2, "readAll", "([BI)Z"⟩
abbrev cX2_readPart : ByteArray := prog_4_method_3_code
def yX2_readPart : MethodName := ⟨RX2, "readPart", "()Z"⟩
abbrev cX2_readRoom : ByteArray := prog_4_method_4_code
def yX2_readRoom : MethodName := ⟨RX2, "readRoom", "()Z"⟩
abbrev cX2_readDoor : ByteArray := prog_4_method_5_code
def yX2_readDoor : MethodName := ⟨RX2, "readDoor", "()Z"⟩
abbrev cX2_readTide : ByteArray := prog_4_method_6_code
def yX2_readTide : MethodName := ⟨RX2, "readTide", "()Z"⟩
abbrev cX2_readPump : ByteArray := prog_4_method_7_code
def yX2_readPump : MethodName := ⟨RX2, "readPump", "()Z"⟩
abbrev cX2_readRota : ByteArray := prog_4_method_8_code
def yX2_readRota : MethodName := ⟨RX2, "readRota", "()Z"⟩
abbrev cX2_readErrand : ByteArray := prog_4_method_9_code
def yX2_readErrand : MethodName := ⟨RX2, "readErrand", "()Z"⟩
def RX3 : String := "DryDoors$Life"
def TX3 : u_T := fun k => match k with
  | 0 => ("DryDoors$Life", "passed", "Z", false)
  | 1 => ("DryDoors$Life", "steps", "I", false)
  | 2 => ("DryDoors$Life", "missed", "I", false)
  | 3 => ("DryDoors$Life", "hours", "I", false)
  | 4 => ("DryDoors$Life", "bailed", "I", false)
  | 5 => ("DryDoors$Life", "drowned", "I", false)
  | 6 => ("DryDoors$Life", "left", "I", false)
  | 7 => ("DryDoors$Life", "draw", "I", false)
  | _ => ("DryDoors$Life", "rounds", "[I", true)
def tyX3 : Nat → FieldType := fun k => match k with
  | 0 => .boolean
  | 1 => .int
  | 2 => .int
  | 3 => .int
  | 4 => .int
  | 5 => .int
  | 6 => .int
  | 7 => .int
  | _ => .array .int
abbrev wsX30 : List Cond := u_ws RX3 TX3 9
theorem nmX3 : ∀ a, a < 9 → ∀ b, b < 9 → a ≠ b → (TX3 a).2.1 ≠ (TX3 b).2.1 := by decide +kernel
theorem tyX3_ok : ∀ k, k < 9 → parseFieldDescriptor (TX3 k).2.2.1 = some (tyX3 k) := by decide +kernel
abbrev cX3_init : ByteArray := prog_5_method_1_code
def yX3_init : MethodName := ⟨RX3, "<init>", "()V"⟩
abbrev cX3_pass : ByteArray := prog_5_method_2_code
def yX3_pass : MethodName := ⟨RX3, "pass", "(LDryDoors$Nights;LDryDoors$Land;I)V"⟩
abbrev cX3_behindEnd : ByteArray := prog_5_method_3_code
def yX3_behindEnd : MethodName := ⟨RX3, "behindEnd", "(LDryDoors$Nights;I)I"⟩
abbrev cX3_behindStep : ByteArray := prog_5_method_4_code
def yX3_behindStep : MethodName := ⟨RX3, "behindStep", "(LDryDoors$Nights;LDryDoors$Land;I)I"⟩
abbrev cX3_goOn : ByteArray := prog_5_method_5_code
def yX3_goOn : MethodName := ⟨RX3, "goOn", "(LDryDoors$Land;I)V"⟩
abbrev cX3_turn : ByteArray := prog_5_method_6_code
def yX3_turn : MethodName := ⟨RX3, "turn", "(LDryDoors$Land;IZ)V"⟩
abbrev cX3_turnAny : ByteArray := prog_5_method_7_code
def yX3_turnAny : MethodName := ⟨RX3, "turnAny", "(LDryDoors$Land;)V"⟩
abbrev cX3_drawBy : ByteArray := prog_5_method_8_code
def yX3_drawBy : MethodName := ⟨RX3, "drawBy", "(I)I"⟩
abbrev cX3_bailOut : ByteArray := prog_5_method_9_code
def yX3_bailOut : MethodName := ⟨RX3, "bailOut", "(LDryDoors$Land;II)V"⟩
abbrev cX3_isSo : ByteArray := prog_5_method_10_code
def yX3_isSo : MethodName := ⟨RX3, "isSo", "(ILDryDoors$Land;II)Z"⟩
def RX4 : String := "DryDoors$Nights"
def TX4 : u_T := fun k => match k with
  | 0 => ("DryDoors$Nights", "given", "Z", false)
  | 1 => ("DryDoors$Nights", "steps", "I", false)
  | 2 => ("DryDoors$Nights", "lines", "I", false)
  | 3 => ("DryDoors$Nights", "kind", "[I", true)
  | 4 => ("DryDoors$Nights", "thing", "[I", true)
  | 5 => ("DryDoors$Nights", "number", "[I", true)
  | _ => ("DryDoors$Nights", "partner", "[I", true)
def tyX4 : Nat → FieldType := fun k => match k with
  | 0 => .boolean
  | 1 => .int
  | 2 => .int
  | 3 => .array .int
  | 4 => .array .int
  | 5 => .array .int
  | _ => .array .int
abbrev wsX40 : List Cond := u_ws RX4 TX4 7
theorem nmX4 : ∀ a, a < 7 → ∀ b, b < 7 → a ≠ b → (TX4 a).2.1 ≠ (TX4 b).2.1 := by decide +kernel
theorem tyX4_ok : ∀ k, k < 7 → parseFieldDescriptor (TX4 k).2.2.1 = some (tyX4 k) := by decide +kernel
abbrev cX4_init : ByteArray := prog_6_method_1_code
def yX4_init : MethodName := ⟨RX4, "<init>", "()V"⟩
abbrev cX4_forget : ByteArray := prog_6_method_2_code
def yX4_forget : MethodName := ⟨RX4, "forget", "()V"⟩
abbrev cX4_add : ByteArray := prog_6_method_3_code
def yX4_add : MethodName := ⟨RX4, "add", "(III)V"⟩
abbrev cX4_pair : ByteArray := prog_6_method_4_code
def yX4_pair : MethodName := ⟨RX4, "pair", "(II)V"⟩
abbrev cX4_copyFrom : ByteArray := prog_6_method_5_code
def yX4_copyFrom : MethodName := ⟨RX4, "copyFrom", "(LDryDoors$Nights;)V"⟩
def RX5 : String := "DryDoors$NightsReader"
def TX5 : u_T := fun k => match k with
  | 0 => ("DryDoors$NightsReader", "text", "LDryDoors$Text;", true)
  | 1 => ("DryDoors$NightsReader", "draft", "LDryDoors$Nights;", true)
  | 2 => ("DryDoors$NightsReader", "begun", "[I", true)
  | _ => ("DryDoors$NightsReader", "within", "I", false)
def tyX5 : Nat → FieldType := fun k => match k with
  | 0 => .object "DryDoors$Text"
  | 1 => .object "DryDoors$Nights"
  | 2 => .array .int
  | _ => .int
abbrev wsX50 : List Cond := u_ws RX5 TX5 4
theorem nmX5 : ∀ a, a < 4 → ∀ b, b < 4 → a ≠ b → (TX5 a).2.1 ≠ (TX5 b).2.1 := by decide +kernel
theorem tyX5_ok : ∀ k, k < 4 → parseFieldDescriptor (TX5 k).2.2.1 = some (tyX5 k) := by decide +kernel
abbrev cX5_init : ByteArray := prog_7_method_1_code
def yX5_init : MethodName := ⟨RX5, "<init>", "()V"⟩
abbrev cX5_readAll : ByteArray := prog_7_method_2_code
def yX5_readAll : MethodName := ⟨RX5, "readAll", "([BILDryDoors$Land;)Z"⟩
abbrev cX5_mayBegin : ByteArray := prog_7_method_3_code
def yX5_mayBegin : MethodName := ⟨RX5, "mayBegin", "()Z"⟩
abbrev cX5_goWithin : ByteArray := prog_7_method_4_code
def yX5_goWithin : MethodName := ⟨RX5, "goWithin", "()Z"⟩
abbrev cX5_beginsStep : ByteArray := prog_7_method_5_code
def yX5_beginsStep : MethodName := ⟨RX5, "beginsStep", "(I)Z"⟩
abbrev cX5_readEnd : ByteArray := prog_7_method_6_code
def yX5_readEnd : MethodName := ⟨RX5, "readEnd", "()Z"⟩
abbrev cX5_readStep : ByteArray := prog_7_method_7_code
def yX5_readStep : MethodName := ⟨RX5, "readStep", "(LDryDoors$Land;)Z"⟩
abbrev cX5_addBare : ByteArray := prog_7_method_8_code
def yX5_addBare : MethodName := ⟨RX5, "addBare", "(I)Z"⟩
abbrev cX5_addNumber : ByteArray := prog_7_method_9_code
def yX5_addNumber : MethodName := ⟨RX5, "addNumber", "(II)Z"⟩
abbrev cX5_addDoor : ByteArray := prog_7_method_10_code
def yX5_addDoor : MethodName := ⟨RX5, "addDoor", "(ILDryDoors$Land;)Z"⟩
abbrev cX5_addBail : ByteArray := prog_7_method_11_code
def yX5_addBail : MethodName := ⟨RX5, "addBail", "(LDryDoors$Land;)Z"⟩
abbrev cX5_readTest : ByteArray := prog_7_method_12_code
def yX5_readTest : MethodName := ⟨RX5, "readTest", "(LDryDoors$Land;)Z"⟩
abbrev cX5_addDepth : ByteArray := prog_7_method_13_code
def yX5_addDepth : MethodName := ⟨RX5, "addDepth", "(I)Z"⟩
abbrev cX5_kindOf : ByteArray := prog_7_method_14_code
def yX5_kindOf : MethodName := ⟨RX5, "kindOf", "(I)I"⟩
def RX6 : String := "DryDoors$Planner"
def TX6 : u_T := fun k => match k with
  | 0 => ("DryDoors$Planner", "then", "LDryDoors$Land;", true)
  | 1 => ("DryDoors$Planner", "prints", "[[I", true)
  | 2 => ("DryDoors$Planner", "waterAt", "[[I", true)
  | 3 => ("DryDoors$Planner", "drownedAt", "[I", true)
  | 4 => ("DryDoors$Planner", "bestDrowned", "I", false)
  | 5 => ("DryDoors$Planner", "bestWater", "I", false)
  | _ => ("DryDoors$Planner", "bestSet", "I", false)
def tyX6 : Nat → FieldType := fun k => match k with
  | 0 => .object "DryDoors$Land"
  | 1 => .array (.array .int)
  | 2 => .array (.array .int)
  | 3 => .array .int
  | 4 => .int
  | 5 => .int
  | _ => .int
abbrev wsX60 : List Cond := u_ws RX6 TX6 7
theorem nmX6 : ∀ a, a < 7 → ∀ b, b < 7 → a ≠ b → (TX6 a).2.1 ≠ (TX6 b).2.1 := by decide +kernel
theorem tyX6_ok : ∀ k, k < 7 → parseFieldDescriptor (TX6 k).2.2.1 = some (tyX6 k) := by decide +kernel
abbrev cX6_init : ByteArray := prog_8_method_1_code
def yX6_init : MethodName := ⟨RX6, "<init>", "()V"⟩
abbrev cX6_wallsFor : ByteArray := prog_8_method_2_code
def yX6_wallsFor : MethodName := ⟨RX6, "wallsFor", "(LDryDoors$Doors;I)I"⟩
abbrev cX6_planErrands : ByteArray := prog_8_method_3_code
def yX6_planErrands : MethodName := ⟨RX6, "planErrands", "(LDryDoors$Land;)V"⟩
abbrev cX6_shiftOf : ByteArray := prog_8_method_4_code
def yX6_shiftOf : MethodName := ⟨RX6, "shiftOf", "(I)I"⟩
abbrev cX6_plannedHour : ByteArray := prog_8_method_5_code
def yX6_plannedHour : MethodName := ⟨RX6, "plannedHour", "(I)I"⟩
abbrev cX6_tryErrands : ByteArray := prog_8_method_6_code
def yX6_tryErrands : MethodName := ⟨RX6, "tryErrands", "(LDryDoors$Planner;III)V"⟩
abbrev cX6_weighPlan : ByteArray := prog_8_method_7_code
def yX6_weighPlan : MethodName := ⟨RX6, "weighPlan", "(I)V"⟩
abbrev cX6_keepWater : ByteArray := prog_8_method_8_code
def yX6_keepWater : MethodName := ⟨RX6, "keepWater", "(I)V"⟩
abbrev cX6_takeWaterBack : ByteArray := prog_8_method_9_code
def yX6_takeWaterBack : MethodName := ⟨RX6, "takeWaterBack", "(I)V"⟩
abbrev cX6_errandsAt : ByteArray := prog_8_method_10_code
def yX6_errandsAt : MethodName := ⟨RX6, "errandsAt", "(II)I"⟩
abbrev cX6_errandsLater : ByteArray := prog_8_method_11_code
def yX6_errandsLater : MethodName := ⟨RX6, "errandsLater", "(III)I"⟩
abbrev cX6_doorsOf : ByteArray := prog_8_method_12_code
def yX6_doorsOf : MethodName := ⟨RX6, "doorsOf", "(I)I"⟩
abbrev cX6_hoursOf : ByteArray := prog_8_method_13_code
def yX6_hoursOf : MethodName := ⟨RX6, "hoursOf", "(II)I"⟩
abbrev cX6_planPumps : ByteArray := prog_8_method_14_code
def yX6_planPumps : MethodName := ⟨RX6, "planPumps", "(LDryDoors$Land;I)V"⟩
abbrev cX6_damageBy : ByteArray := prog_8_method_15_code
def yX6_damageBy : MethodName := ⟨RX6, "damageBy", "(LDryDoors$Land;I)I"⟩
abbrev cX6_ordersOf : ByteArray := prog_8_method_16_code
def yX6_ordersOf : MethodName := ⟨RX6, "ordersOf", "(I)I"⟩
abbrev cX6_shareOfOrders : ByteArray := prog_8_method_17_code
def yX6_shareOfOrders : MethodName := ⟨RX6, "shareOfOrders", "(LDryDoors$Land;II)J"⟩
abbrev cX6_findPrints : ByteArray := prog_8_method_18_code
def yX6_findPrints : MethodName := ⟨RX6, "findPrints", "(LDryDoors$Land;)V"⟩
abbrev cX6_unlikeMarks : ByteArray := prog_8_method_19_code
def yX6_unlikeMarks : MethodName := ⟨RX6, "unlikeMarks", "(LDryDoors$Doors;I)I"⟩
abbrev cX6_isAmong : ByteArray := prog_8_method_20_code
def yX6_isAmong : MethodName := ⟨RX6, "isAmong", "(LDryDoors$Doors;II)Z"⟩
def RX7 : String := "DryDoors$Rooms"
def TX7 : u_T := fun k => match k with
  | 0 => ("DryDoors$Rooms", "count", "I", false)
  | 1 => ("DryDoors$Rooms", "drowned", "I", false)
  | 2 => ("DryDoors$Rooms", "name", "[J", true)
  | 3 => ("DryDoors$Rooms", "floor", "[I", true)
  | 4 => ("DryDoors$Rooms", "area", "[I", true)
  | 5 => ("DryDoors$Rooms", "bears", "[I", true)
  | 6 => ("DryDoors$Rooms", "pump", "[I", true)
  | 7 => ("DryDoors$Rooms", "water", "[I", true)
  | _ => ("DryDoors$Rooms", "mark", "[I", true)
def tyX7 : Nat → FieldType := fun k => match k with
  | 0 => .int
  | 1 => .int
  | 2 => .array .long
  | 3 => .array .int
  | 4 => .array .int
  | 5 => .array .int
  | 6 => .array .int
  | 7 => .array .int
  | _ => .array .int
abbrev wsX70 : List Cond := u_ws RX7 TX7 9
theorem nmX7 : ∀ a, a < 9 → ∀ b, b < 9 → a ≠ b → (TX7 a).2.1 ≠ (TX7 b).2.1 := by decide +kernel
theorem tyX7_ok : ∀ k, k < 9 → parseFieldDescriptor (TX7 k).2.2.1 = some (tyX7 k) := by decide +kernel
abbrev cX7_init : ByteArray := prog_9_method_1_code
def yX7_init : MethodName := ⟨RX7, "<init>", "()V"⟩
abbrev cX7_clear : ByteArray := prog_9_method_2_code
def yX7_clear : MethodName := ⟨RX7, "clear", "()V"⟩
abbrev cX7_add : ByteArray := prog_9_method_3_code
def yX7_add : MethodName := ⟨RX7, "add", "(JIIII)V"⟩
abbrev cX7_copyFrom : ByteArray := prog_9_method_4_code
def yX7_copyFrom : MethodName := ⟨RX7, "copyFrom", "(LDryDoors$Rooms;)V"⟩
abbrev cX7_indexOf : ByteArray := prog_9_method_5_code
def yX7_indexOf : MethodName := ⟨RX7, "indexOf", "(J)I"⟩
abbrev cX7_depth : ByteArray := prog_9_method_6_code
def yX7_depth : MethodName := ⟨RX7, "depth", "(I)I"⟩
abbrev cX7_isDrowned : ByteArray := prog_9_method_7_code
def yX7_isDrowned : MethodName := ⟨RX7, "isDrowned", "(I)Z"⟩
abbrev cX7_allWater : ByteArray := prog_9_method_8_code
def yX7_allWater : MethodName := ⟨RX7, "allWater", "()I"⟩
abbrev cX7_wetOnes : ByteArray := prog_9_method_9_code
def yX7_wetOnes : MethodName := ⟨RX7, "wetOnes", "()I"⟩
abbrev cX7_wipeMarks : ByteArray := prog_9_method_10_code
def yX7_wipeMarks : MethodName := ⟨RX7, "wipeMarks", "()I"⟩
abbrev cX7_pumpOut : ByteArray := prog_9_method_11_code
def yX7_pumpOut : MethodName := ⟨RX7, "pumpOut", "()V"⟩
abbrev cX7_lookAtDepths : ByteArray := prog_9_method_12_code
def yX7_lookAtDepths : MethodName := ⟨RX7, "lookAtDepths", "()V"⟩
def RX8 : String := "DryDoors$Text"
def TX8 : u_T := fun k => match k with
  | 0 => ("DryDoors$Text", "reserved", "[J", true)
  | 1 => ("DryDoors$Text", "mostTokens", "I", true)
  | 2 => ("DryDoors$Text", "kinds", "[I", true)
  | 3 => ("DryDoors$Text", "places", "[I", true)
  | 4 => ("DryDoors$Text", "codes", "[J", true)
  | 5 => ("DryDoors$Text", "words", "[I", true)
  | 6 => ("DryDoors$Text", "tokens", "I", false)
  | 7 => ("DryDoors$Text", "at", "I", false)
  | 8 => ("DryDoors$Text", "kind", "I", false)
  | 9 => ("DryDoors$Text", "place", "I", false)
  | 10 => ("DryDoors$Text", "letters", "J", false)
  | 11 => ("DryDoors$Text", "word", "I", false)
  | 12 => ("DryDoors$Text", "number", "I", false)
  | 13 => ("DryDoors$Text", "sign", "I", false)
  | 14 => ("DryDoors$Text", "fault", "I", false)
  | _ => ("DryDoors$Text", "faultPlace", "I", false)
def tyX8 : Nat → FieldType := fun k => match k with
  | 0 => .array .long
  | 1 => .int
  | 2 => .array .int
  | 3 => .array .int
  | 4 => .array .long
  | 5 => .array .int
  | 6 => .int
  | 7 => .int
  | 8 => .int
  | 9 => .int
  | 10 => .long
  | 11 => .int
  | 12 => .int
  | 13 => .int
  | 14 => .int
  | _ => .int
abbrev wsX80 : List Cond := u_ws RX8 TX8 16
theorem nmX8 : ∀ a, a < 16 → ∀ b, b < 16 → a ≠ b → (TX8 a).2.1 ≠ (TX8 b).2.1 := by decide +kernel
theorem tyX8_ok : ∀ k, k < 16 → parseFieldDescriptor (TX8 k).2.2.1 = some (tyX8 k) := by decide +kernel
abbrev cX8_init : ByteArray := prog_10_method_1_code
def yX8_init : MethodName := ⟨RX8, "<init>", "(I)V"⟩
abbrev cX8_reserve : ByteArray := prog_10_method_2_code
def yX8_reserve : MethodName := ⟨RX8, "reserve", "(Ljava/lang/String;I)I"⟩
abbrev cX8_withLetter : ByteArray := prog_10_method_3_code
def yX8_withLetter : MethodName := ⟨RX8, "withLetter", "(JI)J"⟩
abbrev cX8_isLetter : ByteArray := prog_10_method_4_code
def yX8_isLetter : MethodName := ⟨RX8, "isLetter", "(I)Z"⟩
abbrev cX8_isDigit : ByteArray := prog_10_method_5_code
def yX8_isDigit : MethodName := ⟨RX8, "isDigit", "(I)Z"⟩
abbrev cX8_isBlank : ByteArray := prog_10_method_6_code
def yX8_isBlank : MethodName := ⟨RX8, "isBlank", "(I)Z"⟩
abbrev cX8_isSign : ByteArray := prog_10_method_7_code
def yX8_isSign : MethodName := ⟨RX8, "isSign", "(I)Z"⟩
abbrev cX8_begin : ByteArray := prog_10_method_8_code
def yX8_begin : MethodName := ⟨RX8, "begin", "([BI)V"⟩
abbrev cX8_add : ByteArray := prog_10_method_9_code
def yX8_add : MethodName := ⟨RX8, "add", "(IIJ)V"⟩
abbrev cX8_behindToken : ByteArray := prog_10_method_10_code
def yX8_behindToken : MethodName := ⟨RX8, "behindToken", "([BII)I"⟩
abbrev cX8_behindWord : ByteArray := prog_10_method_11_code
def yX8_behindWord : MethodName := ⟨RX8, "behindWord", "([BII)I"⟩
abbrev cX8_behindNumber : ByteArray := prog_10_method_12_code
def yX8_behindNumber : MethodName := ⟨RX8, "behindNumber", "([BII)I"⟩
abbrev cX8_advance : ByteArray := prog_10_method_13_code
def yX8_advance : MethodName := ⟨RX8, "advance", "()V"⟩
abbrev cX8_isAtEnd : ByteArray := prog_10_method_14_code
def yX8_isAtEnd : MethodName := ⟨RX8, "isAtEnd", "()Z"⟩
abbrev cX8_wrong : ByteArray := prog_10_method_15_code
def yX8_wrong : MethodName := ⟨RX8, "wrong", "(I)Z"⟩
abbrev cX8_takeWord : ByteArray := prog_10_method_16_code
def yX8_takeWord : MethodName := ⟨RX8, "takeWord", "(I)Z"⟩
abbrev cX8_takeStop : ByteArray := prog_10_method_17_code
def yX8_takeStop : MethodName := ⟨RX8, "takeStop", "()Z"⟩
abbrev cX8_takeNumber : ByteArray := prog_10_method_18_code
def yX8_takeNumber : MethodName := ⟨RX8, "takeNumber", "(II)I"⟩
abbrev cX8_takeNumberBehind : ByteArray := prog_10_method_19_code
def yX8_takeNumberBehind : MethodName := ⟨RX8, "takeNumberBehind", "(IIII)I"⟩
abbrev cX8_isName : ByteArray := prog_10_method_20_code
def yX8_isName : MethodName := ⟨RX8, "isName", "()Z"⟩
abbrev cX8_takeNewName : ByteArray := prog_10_method_21_code
def yX8_takeNewName : MethodName := ⟨RX8, "takeNewName", "(LDryDoors$Land;)J"⟩
abbrev cX8_takeRoom : ByteArray := prog_10_method_22_code
def yX8_takeRoom : MethodName := ⟨RX8, "takeRoom", "(LDryDoors$Land;)I"⟩
abbrev cX8_takeDoor : ByteArray := prog_10_method_23_code
def yX8_takeDoor : MethodName := ⟨RX8, "takeDoor", "(LDryDoors$Land;)I"⟩
abbrev cX8_takeThing : ByteArray := prog_10_method_24_code
def yX8_takeThing : MethodName := ⟨RX8, "takeThing", "(I)I"⟩
abbrev cX8_takeEnd : ByteArray := prog_10_method_25_code
def yX8_takeEnd : MethodName := ⟨RX8, "takeEnd", "(LDryDoors$Land;I)I"⟩
def RX9 : String := "DryDoors$Tray"
def TX9 : u_T := fun k => match k with
  | 0 => ("DryDoors$Tray", "numbers", "[J", true)
  | 1 => ("DryDoors$Tray", "sort", "I", false)
  | _ => ("DryDoors$Tray", "many", "I", false)
def tyX9 : Nat → FieldType := fun k => match k with
  | 0 => .array .long
  | 1 => .int
  | _ => .int
abbrev wsX90 : List Cond := u_ws RX9 TX9 3
theorem nmX9 : ∀ a, a < 3 → ∀ b, b < 3 → a ≠ b → (TX9 a).2.1 ≠ (TX9 b).2.1 := by decide +kernel
theorem tyX9_ok : ∀ k, k < 3 → parseFieldDescriptor (TX9 k).2.2.1 = some (tyX9 k) := by decide +kernel
abbrev cX9_init : ByteArray := prog_11_method_1_code
def yX9_init : MethodName := ⟨RX9, "<init>", "()V"⟩
abbrev cX9_lay : ByteArray := prog_11_method_2_code
def yX9_lay : MethodName := ⟨RX9, "lay", "(II)V"⟩
abbrev cX9_isMissing : ByteArray := prog_11_method_3_code
def yX9_isMissing : MethodName := ⟨RX9, "isMissing", "()Z"⟩
abbrev cX9_has : ByteArray := prog_11_method_4_code
def yX9_has : MethodName := ⟨RX9, "has", "(I)Z"⟩
abbrev cX9_hasRow : ByteArray := prog_11_method_5_code
def yX9_hasRow : MethodName := ⟨RX9, "hasRow", "(II)Z"⟩
abbrev cX9_at : ByteArray := prog_11_method_6_code
def yX9_at : MethodName := ⟨RX9, "at", "(I)J"⟩
abbrev cX9_put : ByteArray := prog_11_method_7_code
def yX9_put : MethodName := ⟨RX9, "put", "(IJ)V"⟩
abbrev cX9_cut : ByteArray := prog_11_method_8_code
def yX9_cut : MethodName := ⟨RX9, "cut", "(J)J"⟩
abbrev cX9_startsWith : ByteArray := prog_11_method_9_code
def yX9_startsWith : MethodName := ⟨RX9, "startsWith", "([II)Z"⟩
def RX10 : String := "DryDoors"
def TX10 : u_T := fun k => match k with
  | 0 => ("DryDoors", "land", "LDryDoors$Land;", true)
  | 1 => ("DryDoors", "nights", "LDryDoors$Nights;", true)
  | 2 => ("DryDoors", "trial", "LDryDoors$Land;", true)
  | 3 => ("DryDoors", "planner", "LDryDoors$Planner;", true)
  | 4 => ("DryDoors", "landReader", "LDryDoors$LandReader;", true)
  | 5 => ("DryDoors", "nightsReader", "LDryDoors$NightsReader;", true)
  | 6 => ("DryDoors", "life", "LDryDoors$Life;", true)
  | 7 => ("DryDoors", "dreamt", "LDryDoors$Life;", true)
  | 8 => ("DryDoors", "markedLands", "[LDryDoors$Land;", true)
  | 9 => ("DryDoors", "markedNights", "[LDryDoors$Nights;", true)
  | 10 => ("DryDoors", "marked", "I", false)
  | 11 => ("DryDoors", "trays", "[LDryDoors$Tray;", true)
  | 12 => ("DryDoors", "tape", "[B", true)
  | 13 => ("DryDoors", "taped", "I", false)
  | 14 => ("DryDoors", "status", "I", false)
  | 15 => ("DryDoors", "top", "J", false)
  | 16 => ("DryDoors", "bottom", "J", false)
  | 17 => ("DryDoors", "faultKind", "I", false)
  | _ => ("DryDoors", "faultPlace", "I", false)
def tyX10 : Nat → FieldType := fun k => match k with
  | 0 => .object "DryDoors$Land"
  | 1 => .object "DryDoors$Nights"
  | 2 => .object "DryDoors$Land"
  | 3 => .object "DryDoors$Planner"
  | 4 => .object "DryDoors$LandReader"
  | 5 => .object "DryDoors$NightsReader"
  | 6 => .object "DryDoors$Life"
  | 7 => .object "DryDoors$Life"
  | 8 => .array (.object "DryDoors$Land")
  | 9 => .array (.object "DryDoors$Nights")
  | 10 => .int
  | 11 => .array (.object "DryDoors$Tray")
  | 12 => .array .byte
  | 13 => .int
  | 14 => .int
  | 15 => .long
  | 16 => .long
  | 17 => .int
  | _ => .int
abbrev wsX100 : List Cond := u_ws RX10 TX10 19
theorem nmX10 : ∀ a, a < 19 → ∀ b, b < 19 → a ≠ b → (TX10 a).2.1 ≠ (TX10 b).2.1 := by decide +kernel
theorem tyX10_ok : ∀ k, k < 19 → parseFieldDescriptor (TX10 k).2.2.1 = some (tyX10 k) := by decide +kernel
abbrev cX10_init : ByteArray := prog_1_method_1_code
def yX10_init : MethodName := ⟨RX10, "<init>", "()V"⟩
abbrev cX10_fine : ByteArray := prog_1_method_2_code
def yX10_fine : MethodName := ⟨RX10, "fine", "(I)I"⟩
abbrev cX10_none : ByteArray := prog_1_method_3_code
def yX10_none : MethodName := ⟨RX10, "none", "(I)I"⟩
abbrev cX10_done : ByteArray := prog_1_method_4_code
def yX10_done : MethodName := ⟨RX10, "done", "()Z"⟩
abbrev cX10_refused : ByteArray := prog_1_method_5_code
def yX10_refused : MethodName := ⟨RX10, "refused", "(I)Z"⟩
abbrev cX10_isRoom : ByteArray := prog_1_method_6_code
def yX10_isRoom : MethodName := ⟨RX10, "isRoom", "(I)Z"⟩
abbrev cX10_isDoor : ByteArray := prog_1_method_7_code
def yX10_isDoor : MethodName := ⟨RX10, "isDoor", "(I)Z"⟩
abbrev cX10_isHourOfDay : ByteArray := prog_1_method_8_code
def yX10_isHourOfDay : MethodName := ⟨RX10, "isHourOfDay", "(I)Z"⟩
abbrev cX10_isWithin : ByteArray := prog_1_method_9_code
def yX10_isWithin : MethodName := ⟨RX10, "isWithin", "(III)Z"⟩
abbrev cX10_status : ByteArray := prog_1_method_10_code
def yX10_status : MethodName := ⟨RX10, "status", "()I"⟩
abbrev cX10_top : ByteArray := prog_1_method_11_code
def yX10_top : MethodName := ⟨RX10, "top", "()J"⟩
abbrev cX10_bottom : ByteArray := prog_1_method_12_code
def yX10_bottom : MethodName := ⟨RX10, "bottom", "()J"⟩
abbrev cX10_tellFraction : ByteArray := prog_1_method_13_code
def yX10_tellFraction : MethodName := ⟨RX10, "tellFraction", "(JJ)V"⟩
abbrev cX10_commonDivisor : ByteArray := prog_1_method_14_code
def yX10_commonDivisor : MethodName := ⟨RX10, "commonDivisor", "(JJ)J"⟩
abbrev cX10_trayAt : ByteArray := prog_1_method_15_code
def yX10_trayAt : MethodName := ⟨RX10, "trayAt", "(I)LDryDoors$Tray;"⟩
abbrev cX10_tray : ByteArray := prog_1_method_16_code
def yX10_tray : MethodName := ⟨RX10, "tray", "(III)Z"⟩
abbrev cX10_write : ByteArray := prog_1_method_17_code
def yX10_write : MethodName := ⟨RX10, "write", "(IIJ)Z"⟩
abbrev cX10_read : ByteArray := prog_1_method_18_code
def yX10_read : MethodName := ⟨RX10, "read", "(II)J"⟩
abbrev cX10_pour : ByteArray := prog_1_method_19_code
def yX10_pour : MethodName := ⟨RX10, "pour", "(IIIII)Z"⟩
abbrev cX10_feed : ByteArray := prog_1_method_20_code
def yX10_feed : MethodName := ⟨RX10, "feed", "(IIIII)I"⟩
abbrev cX10_putOnTape : ByteArray := prog_1_method_21_code
def yX10_putOnTape : MethodName := ⟨RX10, "putOnTape", "(I)V"⟩
abbrev cX10_land : ByteArray := prog_1_method_22_code
def yX10_land : MethodName := ⟨RX10, "land", "(I)I"⟩
abbrev cX10_nights : ByteArray := prog_1_method_23_code
def yX10_nights : MethodName := ⟨RX10, "nights", "(I)I"⟩
abbrev cX10_emptyTape : ByteArray := prog_1_method_24_code
def yX10_emptyTape : MethodName := ⟨RX10, "emptyTape", "(LDryDoors$Text;)V"⟩
abbrev cX10_fault : ByteArray := prog_1_method_25_code
def yX10_fault : MethodName := ⟨RX10, "fault", "(I)I"⟩
abbrev cX10_told : ByteArray := prog_1_method_26_code
def yX10_told : MethodName := ⟨RX10, "told", "(I)I"⟩
abbrev cX10_room : ByteArray := prog_1_method_27_code
def yX10_room : MethodName := ⟨RX10, "room", "(II)I"⟩
abbrev cX10_door : ByteArray := prog_1_method_28_code
def yX10_door : MethodName := ⟨RX10, "door", "(II)I"⟩
abbrev cX10_endAsTold : ByteArray := prog_1_method_29_code
def yX10_endAsTold : MethodName := ⟨RX10, "endAsTold", "(I)I"⟩
abbrev cX10_errand : ByteArray := prog_1_method_30_code
def yX10_errand : MethodName := ⟨RX10, "errand", "(II)I"⟩
abbrev cX10_tide : ByteArray := prog_1_method_31_code
def yX10_tide : MethodName := ⟨RX10, "tide", "(I)I"⟩
abbrev cX10_asItFlows : ByteArray := prog_1_method_32_code
def yX10_asItFlows : MethodName := ⟨RX10, "asItFlows", "()LDryDoors$Land;"⟩
abbrev cX10_drive : ByteArray := prog_1_method_33_code
def yX10_drive : MethodName := ⟨RX10, "drive", "(I)I"⟩
abbrev cX10_flow : ByteArray := prog_1_method_34_code
def yX10_flow : MethodName := ⟨RX10, "flow", "(I)I"⟩
abbrev cX10_flowOpen : ByteArray := prog_1_method_35_code
def yX10_flowOpen : MethodName := ⟨RX10, "flowOpen", "(I)I"⟩
abbrev cX10_deepest : ByteArray := prog_1_method_36_code
def yX10_deepest : MethodName := ⟨RX10, "deepest", "()I"⟩
abbrev cX10_busiest : ByteArray := prog_1_method_37_code
def yX10_busiest : MethodName := ⟨RX10, "busiest", "()I"⟩
abbrev cX10_spare : ByteArray := prog_1_method_38_code
def yX10_spare : MethodName := ⟨RX10, "spare", "(I)I"⟩
abbrev cX10_low : ByteArray := prog_1_method_39_code
def yX10_low : MethodName := ⟨RX10, "low", "()I"⟩
abbrev cX10_high : ByteArray := prog_1_method_40_code
def yX10_high : MethodName := ⟨RX10, "high", "(I)I"⟩
abbrev cX10_linked : ByteArray := prog_1_method_41_code
def yX10_linked : MethodName := ⟨RX10, "linked", "(I)I"⟩
abbrev cX10_hour : ByteArray := prog_1_method_42_code
def yX10_hour : MethodName := ⟨RX10, "hour", "(I)I"⟩
abbrev cX10_hold : ByteArray := prog_1_method_43_code
def yX10_hold : MethodName := ⟨RX10, "hold", "(IZ)Z"⟩
abbrev cX10_wall : ByteArray := prog_1_method_44_code
def yX10_wall : MethodName := ⟨RX10, "wall", "(IZ)Z"⟩
abbrev cX10_bail : ByteArray := prog_1_method_45_code
def yX10_bail : MethodName := ⟨RX10, "bail", "(II)I"⟩
abbrev cX10_wipe : ByteArray := prog_1_method_46_code
def yX10_wipe : MethodName := ⟨RX10, "wipe", "()I"⟩
abbrev cX10_rota : ByteArray := prog_1_method_47_code
def yX10_rota : MethodName := ⟨RX10, "rota", "(IIZ)Z"⟩
abbrev cX10_moon : ByteArray := prog_1_method_48_code
def yX10_moon : MethodName := ⟨RX10, "moon", "(II)Z"⟩
abbrev cX10_pump : ByteArray := prog_1_method_49_code
def yX10_pump : MethodName := ⟨RX10, "pump", "(II)Z"⟩
abbrev cX10_raise : ByteArray := prog_1_method_50_code
def yX10_raise : MethodName := ⟨RX10, "raise", "(II)I"⟩
abbrev cX10_build : ByteArray := prog_1_method_51_code
def yX10_build : MethodName := ⟨RX10, "build", "(I)I"⟩
abbrev cX10_asItIs : ByteArray := prog_1_method_52_code
def yX10_asItIs : MethodName := ⟨RX10, "asItIs", "()LDryDoors$Land;"⟩
abbrev cX10_drownedMore : ByteArray := prog_1_method_53_code
def yX10_drownedMore : MethodName := ⟨RX10, "drownedMore", "(LDryDoors$Land;)I"⟩
abbrev cX10_later : ByteArray := prog_1_method_54_code
def yX10_later : MethodName := ⟨RX10, "later", "(II)I"⟩
abbrev cX10_allLater : ByteArray := prog_1_method_55_code
def yX10_allLater : MethodName := ⟨RX10, "allLater", "(I)I"⟩
abbrev cX10_wetIn : ByteArray := prog_1_method_56_code
def yX10_wetIn : MethodName := ⟨RX10, "wetIn", "(I)I"⟩
abbrev cX10_drownsIn : ByteArray := prog_1_method_57_code
def yX10_drownsIn : MethodName := ⟨RX10, "drownsIn", "(I)I"⟩
abbrev cX10_dryIn : ByteArray := prog_1_method_58_code
def yX10_dryIn : MethodName := ⟨RX10, "dryIn", "()I"⟩
abbrev cX10_fails : ByteArray := prog_1_method_59_code
def yX10_fails : MethodName := ⟨RX10, "fails", "(I)I"⟩
abbrev cX10_worst : ByteArray := prog_1_method_60_code
def yX10_worst : MethodName := ⟨RX10, "worst", "()I"⟩
abbrev cX10_sillFor : ByteArray := prog_1_method_61_code
def yX10_sillFor : MethodName := ⟨RX10, "sillFor", "(I)I"⟩
abbrev cX10_through : ByteArray := prog_1_method_62_code
def yX10_through : MethodName := ⟨RX10, "through", "(II)I"⟩
abbrev cX10_greatest : ByteArray := prog_1_method_63_code
def yX10_greatest : MethodName := ⟨RX10, "greatest", "(II)I"⟩
abbrev cX10_firstDrowned : ByteArray := prog_1_method_64_code
def yX10_firstDrowned : MethodName := ⟨RX10, "firstDrowned", "()I"⟩
abbrev cX10_bestHour : ByteArray := prog_1_method_65_code
def yX10_bestHour : MethodName := ⟨RX10, "bestHour", "(I)I"⟩
abbrev cX10_pumpFor : ByteArray := prog_1_method_66_code
def yX10_pumpFor : MethodName := ⟨RX10, "pumpFor", "(I)I"⟩
abbrev cX10_pumpAt : ByteArray := prog_1_method_67_code
def yX10_pumpAt : MethodName := ⟨RX10, "pumpAt", "(I)I"⟩
abbrev cX10_twoWalls : ByteArray := prog_1_method_68_code
def yX10_twoWalls : MethodName := ⟨RX10, "twoWalls", "()I"⟩
abbrev cX10_waterWalled : ByteArray := prog_1_method_69_code
def yX10_waterWalled : MethodName := ⟨RX10, "waterWalled", "(I)I"⟩
abbrev cX10_gain : ByteArray := prog_1_method_70_code
def yX10_gain : MethodName := ⟨RX10, "gain", "(I)I"⟩
abbrev cX10_bailFor : ByteArray := prog_1_method_71_code
def yX10_bailFor : MethodName := ⟨RX10, "bailFor", "(II)I"⟩
abbrev cX10_besieged : ByteArray := prog_1_method_72_code
def yX10_besieged : MethodName := ⟨RX10, "besieged", "(I)LDryDoors$Land;"⟩
abbrev cX10_siege : ByteArray := prog_1_method_73_code
def yX10_siege : MethodName := ⟨RX10, "siege", "(I)I"⟩
abbrev cX10_borne : ByteArray := prog_1_method_74_code
def yX10_borne : MethodName := ⟨RX10, "borne", "()I"⟩
abbrev cX10_keep : ByteArray := prog_1_method_75_code
def yX10_keep : MethodName := ⟨RX10, "keep", "(I)I"⟩
abbrev cX10_keepSet : ByteArray := prog_1_method_76_code
def yX10_keepSet : MethodName := ⟨RX10, "keepSet", "(I)I"⟩
abbrev cX10_plan : ByteArray := prog_1_method_77_code
def yX10_plan : MethodName := ⟨RX10, "plan", "(I)I"⟩
abbrev cX10_planned : ByteArray := prog_1_method_78_code
def yX10_planned : MethodName := ⟨RX10, "planned", "(I)I"⟩
abbrev cX10_save : ByteArray := prog_1_method_79_code
def yX10_save : MethodName := ⟨RX10, "save", "(I)I"⟩
abbrev cX10_saveSet : ByteArray := prog_1_method_80_code
def yX10_saveSet : MethodName := ⟨RX10, "saveSet", "(I)I"⟩
abbrev cX10_isSetOfDoors : ByteArray := prog_1_method_81_code
def yX10_isSetOfDoors : MethodName := ⟨RX10, "isSetOfDoors", "(I)Z"⟩
abbrev cX10_damage : ByteArray := prog_1_method_82_code
def yX10_damage : MethodName := ⟨RX10, "damage", "(I)I"⟩
abbrev cX10_guilt : ByteArray := prog_1_method_83_code
def yX10_guilt : MethodName := ⟨RX10, "guilt", "(II)Z"⟩
abbrev cX10_print : ByteArray := prog_1_method_84_code
def yX10_print : MethodName := ⟨RX10, "print", "(II)I"⟩
abbrev cX10_suspects : ByteArray := prog_1_method_85_code
def yX10_suspects : MethodName := ⟨RX10, "suspects", "(I)I"⟩
abbrev cX10_telling : ByteArray := prog_1_method_86_code
def yX10_telling : MethodName := ⟨RX10, "telling", "()I"⟩
abbrev cX10_prints : ByteArray := prog_1_method_87_code
def yX10_prints : MethodName := ⟨RX10, "prints", "(I)I"⟩
abbrev cX10_live : ByteArray := prog_1_method_88_code
def yX10_live : MethodName := ⟨RX10, "live", "(I)I"⟩
abbrev cX10_lived : ByteArray := prog_1_method_89_code
def yX10_lived : MethodName := ⟨RX10, "lived", "(I)I"⟩
abbrev cX10_mean : ByteArray := prog_1_method_90_code
def yX10_mean : MethodName := ⟨RX10, "mean", "(II)Z"⟩
abbrev cX10_mark : ByteArray := prog_1_method_91_code
def yX10_mark : MethodName := ⟨RX10, "mark", "()I"⟩
abbrev cX10_undo : ByteArray := prog_1_method_92_code
def yX10_undo : MethodName := ⟨RX10, "undo", "()I"⟩
abbrev cX10_indexIn : ByteArray := prog_1_method_93_code
def yX10_indexIn : MethodName := ⟨RX10, "indexIn", "([JIJ)I"⟩
def RX11 : String := "DryDoorsModel"
def TX11 : u_T := fun k => match k with
  | 0 => ("DryDoorsModel", "at", "[I", true)
  | 1 => ("DryDoorsModel", "names", "[J", true)
  | 2 => ("DryDoorsModel", "status", "I", false)
  | 3 => ("DryDoorsModel", "top", "J", false)
  | 4 => ("DryDoorsModel", "bottom", "J", false)
  | 5 => ("DryDoorsModel", "sort", "[I", true)
  | 6 => ("DryDoorsModel", "trayMany", "[I", true)
  | 7 => ("DryDoorsModel", "trays", "[J", true)
  | 8 => ("DryDoorsModel", "tape", "[B", true)
  | 9 => ("DryDoorsModel", "text", "[B", true)
  | 10 => ("DryDoorsModel", "taped", "I", false)
  | 11 => ("DryDoorsModel", "size", "I", false)
  | 12 => ("DryDoorsModel", "token", "I", false)
  | 13 => ("DryDoorsModel", "from", "I", false)
  | 14 => ("DryDoorsModel", "end", "I", false)
  | 15 => ("DryDoorsModel", "value", "I", false)
  | 16 => ("DryDoorsModel", "faultKind", "I", false)
  | 17 => ("DryDoorsModel", "faultPlace", "I", false)
  | 18 => ("DryDoorsModel", "faults", "I", false)
  | 19 => ("DryDoorsModel", "seen", "I", false)
  | 20 => ("DryDoorsModel", "opened", "[I", true)
  | 21 => ("DryDoorsModel", "depth", "I", false)
  | 22 => ("DryDoorsModel", "counted", "I", false)
  | 23 => ("DryDoorsModel", "just", "I", false)
  | 24 => ("DryDoorsModel", "byHands", "I", false)
  | 25 => ("DryDoorsModel", "still", "Z", false)
  | 26 => ("DryDoorsModel", "flows", "[I", true)
  | 27 => ("DryDoorsModel", "moved", "[I", true)
  | 28 => ("DryDoorsModel", "triedWater", "I", false)
  | 29 => ("DryDoorsModel", "triedDrowned", "I", false)
  | 30 => ("DryDoorsModel", "hourOf", "[I", true)
  | 31 => ("DryDoorsModel", "bestHour", "[I", true)
  | 32 => ("DryDoorsModel", "planDrowned", "I", false)
  | 33 => ("DryDoorsModel", "planWater", "I", false)
  | 34 => ("DryDoorsModel", "savedWater", "I", false)
  | 35 => ("DryDoorsModel", "marks0", "[I", true)
  | 36 => ("DryDoorsModel", "markBy", "[I", true)
  | 37 => ("DryDoorsModel", "drawn", "I", false)
  | 38 => ("DryDoorsModel", "ranSteps", "I", false)
  | 39 => ("DryDoorsModel", "loops", "[I", true)
  | 40 => ("DryDoorsModel", "ran", "[I", true)
  | 41 => ("DryDoorsModel", "told1", "[I", true)
  | 42 => ("DryDoorsModel", "isTold", "Z", false)
  | _ => ("DryDoorsModel", "marks", "I", false)
def tyX11 : Nat → FieldType := fun k => match k with
  | 0 => .array .int
  | 1 => .array .long
  | 2 => .int
  | 3 => .long
  | 4 => .long
  | 5 => .array .int
  | 6 => .array .int
  | 7 => .array .long
  | 8 => .array .byte
  | 9 => .array .byte
  | 10 => .int
  | 11 => .int
  | 12 => .int
  | 13 => .int
  | 14 => .int
  | 15 => .int
  | 16 => .int
  | 17 => .int
  | 18 => .int
  | 19 => .int
  | 20 => .array .int
  | 21 => .int
  | 22 => .int
  | 23 => .int
  | 24 => .int
  | 25 => .boolean
  | 26 => .array .int
  | 27 => .array .int
  | 28 => .int
  | 29 => .int
  | 30 => .array .int
  | 31 => .array .int
  | 32 => .int
  | 33 => .int
  | 34 => .int
  | 35 => .array .int
  | 36 => .array .int
  | 37 => .int
  | 38 => .int
  | 39 => .array .int
  | 40 => .array .int
  | 41 => .array .int
  | 42 => .boolean
  | _ => .int
abbrev wsX110 : List Cond := u_ws RX11 TX11 44
theorem nmX11 : ∀ a, a < 44 → ∀ b, b < 44 → a ≠ b → (TX11 a).2.1 ≠ (TX11 b).2.1 := by decide +kernel
theorem tyX11_ok : ∀ k, k < 44 → parseFieldDescriptor (TX11 k).2.2.1 = some (tyX11 k) := by decide +kernel
abbrev cX11_init : ByteArray := prog_13_method_1_code
def yX11_init : MethodName := ⟨RX11, "<init>", "()V"⟩
abbrev cX11_plain : ByteArray := prog_13_method_2_code
def yX11_plain : MethodName := ⟨RX11, "plain", "(I)V"⟩
abbrev cX11_status : ByteArray := prog_13_method_3_code
def yX11_status : MethodName := ⟨RX11, "status", "()I"⟩
abbrev cX11_top : ByteArray := prog_13_method_4_code
def yX11_top : MethodName := ⟨RX11, "top", "()J"⟩
abbrev cX11_bottom : ByteArray := prog_13_method_5_code
def yX11_bottom : MethodName := ⟨RX11, "bottom", "()J"⟩
abbrev cX11_is : ByteArray := prog_13_method_6_code
def yX11_is : MethodName := ⟨RX11, "is", "(I)Z"⟩
abbrev cX11_refuse : ByteArray := prog_13_method_7_code
def yX11_refuse : MethodName := ⟨RX11, "refuse", "(I)I"⟩
abbrev cX11_gives : ByteArray := prog_13_method_8_code
def yX11_gives : MethodName := ⟨RX11, "gives", "(I)I"⟩
abbrev cX11_orNone : ByteArray := prog_13_method_9_code
def yX11_orNone : MethodName := ⟨RX11, "orNone", "(I)I"⟩
abbrev cX11_tellsBy : ByteArray := prog_13_method_10_code
def yX11_tellsBy : MethodName := ⟨RX11, "tellsBy", "(JJ)Z"⟩
abbrev cX11_isTray : ByteArray := prog_13_method_11_code
def yX11_isTray : MethodName := ⟨RX11, "isTray", "(I)Z"⟩
abbrev cX11_cut : ByteArray := prog_13_method_12_code
def yX11_cut : MethodName := ⟨RX11, "cut", "(JI)J"⟩
abbrev cX11_tray : ByteArray := prog_13_method_13_code
def yX11_tray : MethodName := ⟨RX11, "tray", "(III)Z"⟩
abbrev cX11_wrongPlace : ByteArray := prog_13_method_14_code
def yX11_wrongPlace : MethodName := ⟨RX11, "wrongPlace", "(II)I"⟩
abbrev cX11_write : ByteArray := prog_13_method_15_code
def yX11_write : MethodName := ⟨RX11, "write", "(IIJ)Z"⟩
abbrev cX11_read : ByteArray := prog_13_method_16_code
def yX11_read : MethodName := ⟨RX11, "read", "(II)J"⟩
abbrev cX11_pour : ByteArray := prog_13_method_17_code
def yX11_pour : MethodName := ⟨RX11, "pour", "(IIIII)Z"⟩
abbrev cX11_isFrom : ByteArray := prog_13_method_18_code
def yX11_isFrom : MethodName := ⟨RX11, "isFrom", "(JJJ)Z"⟩
abbrev cX11_feed : ByteArray := prog_13_method_19_code
def yX11_feed : MethodName := ⟨RX11, "feed", "(IIIII)I"⟩
abbrev cX11_four : ByteArray := prog_13_method_20_code
def yX11_four : MethodName := ⟨RX11, "four", "(I)V"⟩
abbrev cX11_byteAt : ByteArray := prog_13_method_21_code
def yX11_byteAt : MethodName := ⟨RX11, "byteAt", "(I)I"⟩
abbrev cX11_isSmall : ByteArray := prog_13_method_22_code
def yX11_isSmall : MethodName := ⟨RX11, "isSmall", "(I)Z"⟩
abbrev cX11_isDigit : ByteArray := prog_13_method_23_code
def yX11_isDigit : MethodName := ⟨RX11, "isDigit", "(I)Z"⟩
abbrev cX11_ahead : ByteArray := prog_13_method_24_code
def yX11_ahead : MethodName := ⟨RX11, "ahead", "()V"⟩
abbrev cX11_isSign : ByteArray := prog_13_method_25_code
def yX11_isSign : MethodName := ⟨RX11, "isSign", "(I)Z"⟩
abbrev cX11_inWords : ByteArray := prog_13_method_26_code
def yX11_inWords : MethodName := ⟨RX11, "inWords", "(Ljava/lang/String;)I"⟩
abbrev cX11_errs : ByteArray := prog_13_method_27_code
def yX11_errs : MethodName := ⟨RX11, "errs", "(I)Z"⟩
abbrev cX11_begins : ByteArray := prog_13_method_28_code
def yX11_begins : MethodName := ⟨RX11, "begins", "(II)Z"⟩
abbrev cX11_wantSign : ByteArray := prog_13_method_29_code
def yX11_wantSign : MethodName := ⟨RX11, "wantSign", "(I)Z"⟩
abbrev cX11_wantWord : ByteArray := prog_13_method_30_code
def yX11_wantWord : MethodName := ⟨RX11, "wantWord", "(Ljava/lang/String;I)Z"⟩
abbrev cX11_number : ByteArray := prog_13_method_31_code
def yX11_number : MethodName := ⟨RX11, "number", "(III)Z"⟩
abbrev cX11_isName : ByteArray := prog_13_method_32_code
def yX11_isName : MethodName := ⟨RX11, "isName", "(Ljava/lang/String;)Z"⟩
abbrev cX11_nameHere : ByteArray := prog_13_method_33_code
def yX11_nameHere : MethodName := ⟨RX11, "nameHere", "()J"⟩
abbrev cX11_findHere : ByteArray := prog_13_method_34_code
def yX11_findHere : MethodName := ⟨RX11, "findHere", "(II)I"⟩
abbrev cX11_fault : ByteArray := prog_13_method_35_code
def yX11_fault : MethodName := ⟨RX11, "fault", "(I)I"⟩
abbrev cX11_taken : ByteArray := prog_13_method_36_code
def yX11_taken : MethodName := ⟨RX11, "taken", "(I)I"⟩
abbrev cX11_isThere : ByteArray := prog_13_method_37_code
def yX11_isThere : MethodName := ⟨RX11, "isThere", "(I)Z"⟩
abbrev cX11_newOne : ByteArray := prog_13_method_38_code
def yX11_newOne : MethodName := ⟨RX11, "newOne", "(III)Z"⟩
abbrev cX11_oldOne : ByteArray := prog_13_method_39_code
def yX11_oldOne : MethodName := ⟨RX11, "oldOne", "(III)Z"⟩
abbrev cX11_aRoom : ByteArray := prog_13_method_40_code
def yX11_aRoom : MethodName := ⟨RX11, "aRoom", "()Z"⟩
abbrev cX11_endTo : ByteArray := prog_13_method_41_code
def yX11_endTo : MethodName := ⟨RX11, "endTo", "(I)Z"⟩
abbrev cX11_aDoor : ByteArray := prog_13_method_42_code
def yX11_aDoor : MethodName := ⟨RX11, "aDoor", "()Z"⟩
abbrev cX11_landPart : ByteArray := prog_13_method_43_code
def yX11_landPart : MethodName := ⟨RX11, "landPart", "()Z"⟩
abbrev cX11_land : ByteArray := prog_13_method_44_code
def yX11_land : MethodName := ⟨RX11, "land", "(I)I"⟩
abbrev cX11_roomTo : ByteArray := prog_13_method_45_code
def yX11_roomTo : MethodName := ⟨RX11, "roomTo", "(I)Z"⟩
abbrev cX11_doorTo : ByteArray := prog_13_method_46_code
def yX11_doorTo : MethodName := ⟨RX11, "doorTo", "(I)Z"⟩
abbrev cX11_test : ByteArray := prog_13_method_47_code
def yX11_test : MethodName := ⟨RX11, "test", "(I)Z"⟩
abbrev cX11_nightOrder : ByteArray := prog_13_method_48_code
def yX11_nightOrder : MethodName := ⟨RX11, "nightOrder", "(II)Z"⟩
abbrev cX11_nightStep : ByteArray := prog_13_method_49_code
def yX11_nightStep : MethodName := ⟨RX11, "nightStep", "()Z"⟩
abbrev cX11_nights : ByteArray := prog_13_method_50_code
def yX11_nights : MethodName := ⟨RX11, "nights", "(I)I"⟩
abbrev cX11_roomRow : ByteArray := prog_13_method_51_code
def yX11_roomRow : MethodName := ⟨RX11, "roomRow", "(I)I"⟩
abbrev cX11_doorRow : ByteArray := prog_13_method_52_code
def yX11_doorRow : MethodName := ⟨RX11, "doorRow", "(I)I"⟩
abbrev cX11_isRoom : ByteArray := prog_13_method_53_code
def yX11_isRoom : MethodName := ⟨RX11, "isRoom", "(I)Z"⟩
abbrev cX11_isDoor : ByteArray := prog_13_method_54_code
def yX11_isDoor : MethodName := ⟨RX11, "isDoor", "(I)Z"⟩
abbrev cX11_isHour : ByteArray := prog_13_method_55_code
def yX11_isHour : MethodName := ⟨RX11, "isHour", "(I)Z"⟩
abbrev cX11_isIn : ByteArray := prog_13_method_56_code
def yX11_isIn : MethodName := ⟨RX11, "isIn", "(II)Z"⟩
abbrev cX11_bits : ByteArray := prog_13_method_57_code
def yX11_bits : MethodName := ⟨RX11, "bits", "(I)I"⟩
abbrev cX11_roomOf : ByteArray := prog_13_method_58_code
def yX11_roomOf : MethodName := ⟨RX11, "roomOf", "(II)I"⟩
abbrev cX11_doorOf : ByteArray := prog_13_method_59_code
def yX11_doorOf : MethodName := ⟨RX11, "doorOf", "(II)I"⟩
abbrev cX11_now : ByteArray := prog_13_method_60_code
def yX11_now : MethodName := ⟨RX11, "now", "()I"⟩
abbrev cX11_depthOf : ByteArray := prog_13_method_61_code
def yX11_depthOf : MethodName := ⟨RX11, "depthOf", "(I)I"⟩
abbrev cX11_surfaceOf : ByteArray := prog_13_method_62_code
def yX11_surfaceOf : MethodName := ⟨RX11, "surfaceOf", "(I)I"⟩
abbrev cX11_isOpen : ByteArray := prog_13_method_63_code
def yX11_isOpen : MethodName := ⟨RX11, "isOpen", "(I)Z"⟩
abbrev cX11_driveOf : ByteArray := prog_13_method_64_code
def yX11_driveOf : MethodName := ⟨RX11, "driveOf", "(I)I"⟩
abbrev cX11_flowBy : ByteArray := prog_13_method_65_code
def yX11_flowBy : MethodName := ⟨RX11, "flowBy", "(IZ)I"⟩
abbrev cX11_flowOf : ByteArray := prog_13_method_66_code
def yX11_flowOf : MethodName := ⟨RX11, "flowOf", "(I)I"⟩
abbrev cX11_allWater : ByteArray := prog_13_method_67_code
def yX11_allWater : MethodName := ⟨RX11, "allWater", "()I"⟩
abbrev cX11_setOf : ByteArray := prog_13_method_68_code
def yX11_setOf : MethodName := ⟨RX11, "setOf", "(I)I"⟩
abbrev cX11_told : ByteArray := prog_13_method_69_code
def yX11_told : MethodName := ⟨RX11, "told", "(I)I"⟩
abbrev cX11_room : ByteArray := prog_13_method_70_code
def yX11_room : MethodName := ⟨RX11, "room", "(II)I"⟩
abbrev cX11_door : ByteArray := prog_13_method_71_code
def yX11_door : MethodName := ⟨RX11, "door", "(II)I"⟩
abbrev cX11_isErrand : ByteArray := prog_13_method_72_code
def yX11_isErrand : MethodName := ⟨RX11, "isErrand", "(I)Z"⟩
abbrev cX11_errand : ByteArray := prog_13_method_73_code
def yX11_errand : MethodName := ⟨RX11, "errand", "(II)I"⟩
abbrev cX11_tide : ByteArray := prog_13_method_74_code
def yX11_tide : MethodName := ⟨RX11, "tide", "(I)I"⟩
abbrev cX11_drive : ByteArray := prog_13_method_75_code
def yX11_drive : MethodName := ⟨RX11, "drive", "(I)I"⟩
abbrev cX11_flow : ByteArray := prog_13_method_76_code
def yX11_flow : MethodName := ⟨RX11, "flow", "(I)I"⟩
abbrev cX11_flowOpen : ByteArray := prog_13_method_77_code
def yX11_flowOpen : MethodName := ⟨RX11, "flowOpen", "(I)I"⟩
abbrev cX11_deepest : ByteArray := prog_13_method_78_code
def yX11_deepest : MethodName := ⟨RX11, "deepest", "()I"⟩
abbrev cX11_busiest : ByteArray := prog_13_method_79_code
def yX11_busiest : MethodName := ⟨RX11, "busiest", "()I"⟩
abbrev cX11_spare : ByteArray := prog_13_method_80_code
def yX11_spare : MethodName := ⟨RX11, "spare", "(I)I"⟩
abbrev cX11_low : ByteArray := prog_13_method_81_code
def yX11_low : MethodName := ⟨RX11, "low", "()I"⟩
abbrev cX11_high : ByteArray := prog_13_method_82_code
def yX11_high : MethodName := ⟨RX11, "high", "(I)I"⟩
abbrev cX11_linkedFrom : ByteArray := prog_13_method_83_code
def yX11_linkedFrom : MethodName := ⟨RX11, "linkedFrom", "(IIZ)I"⟩
abbrev cX11_linked : ByteArray := prog_13_method_84_code
def yX11_linked : MethodName := ⟨RX11, "linked", "(I)I"⟩
abbrev cX11_pours : ByteArray := prog_13_method_85_code
def yX11_pours : MethodName := ⟨RX11, "pours", "(II)V"⟩
abbrev cX11_goesBy : ByteArray := prog_13_method_86_code
def yX11_goesBy : MethodName := ⟨RX11, "goesBy", "()I"⟩
abbrev cX11_goes : ByteArray := prog_13_method_87_code
def yX11_goes : MethodName := ⟨RX11, "goes", "(I)I"⟩
abbrev cX11_hour : ByteArray := prog_13_method_88_code
def yX11_hour : MethodName := ⟨RX11, "hour", "(I)I"⟩
abbrev cX11_turns : ByteArray := prog_13_method_89_code
def yX11_turns : MethodName := ⟨RX11, "turns", "(IIZ)Z"⟩
abbrev cX11_hold : ByteArray := prog_13_method_90_code
def yX11_hold : MethodName := ⟨RX11, "hold", "(IZ)Z"⟩
abbrev cX11_wall : ByteArray := prog_13_method_91_code
def yX11_wall : MethodName := ⟨RX11, "wall", "(IZ)Z"⟩
abbrev cX11_bails : ByteArray := prog_13_method_92_code
def yX11_bails : MethodName := ⟨RX11, "bails", "(II)Z"⟩
abbrev cX11_bail : ByteArray := prog_13_method_93_code
def yX11_bail : MethodName := ⟨RX11, "bail", "(II)I"⟩
abbrev cX11_wipes : ByteArray := prog_13_method_94_code
def yX11_wipes : MethodName := ⟨RX11, "wipes", "()I"⟩
abbrev cX11_wipe : ByteArray := prog_13_method_95_code
def yX11_wipe : MethodName := ⟨RX11, "wipe", "()I"⟩
abbrev cX11_rota : ByteArray := prog_13_method_96_code
def yX11_rota : MethodName := ⟨RX11, "rota", "(IIZ)Z"⟩
abbrev cX11_moon : ByteArray := prog_13_method_97_code
def yX11_moon : MethodName := ⟨RX11, "moon", "(II)Z"⟩
abbrev cX11_pump : ByteArray := prog_13_method_98_code
def yX11_pump : MethodName := ⟨RX11, "pump", "(II)Z"⟩
abbrev cX11_raise : ByteArray := prog_13_method_99_code
def yX11_raise : MethodName := ⟨RX11, "raise", "(II)I"⟩
abbrev cX11_build : ByteArray := prog_13_method_100_code
def yX11_build : MethodName := ⟨RX11, "build", "(I)I"⟩
abbrev cX11_keeps : ByteArray := prog_13_method_101_code
def yX11_keeps : MethodName := ⟨RX11, "keeps", "(I)V"⟩
abbrev cX11_restores : ByteArray := prog_13_method_102_code
def yX11_restores : MethodName := ⟨RX11, "restores", "(I)V"⟩
abbrev cX11_isSpan : ByteArray := prog_13_method_103_code
def yX11_isSpan : MethodName := ⟨RX11, "isSpan", "(I)Z"⟩
abbrev cX11_waterIn : ByteArray := prog_13_method_104_code
def yX11_waterIn : MethodName := ⟨RX11, "waterIn", "(II)I"⟩
abbrev cX11_later : ByteArray := prog_13_method_105_code
def yX11_later : MethodName := ⟨RX11, "later", "(II)I"⟩
abbrev cX11_allLater : ByteArray := prog_13_method_106_code
def yX11_allLater : MethodName := ⟨RX11, "allLater", "(I)I"⟩
abbrev cX11_hoursTill : ByteArray := prog_13_method_107_code
def yX11_hoursTill : MethodName := ⟨RX11, "hoursTill", "(II)I"⟩
abbrev cX11_wetIn : ByteArray := prog_13_method_108_code
def yX11_wetIn : MethodName := ⟨RX11, "wetIn", "(I)I"⟩
abbrev cX11_drownsIn : ByteArray := prog_13_method_109_code
def yX11_drownsIn : MethodName := ⟨RX11, "drownsIn", "(I)I"⟩
abbrev cX11_dryIn : ByteArray := prog_13_method_110_code
def yX11_dryIn : MethodName := ⟨RX11, "dryIn", "()I"⟩
abbrev cX11_triesOpen : ByteArray := prog_13_method_111_code
def yX11_triesOpen : MethodName := ⟨RX11, "triesOpen", "(II)V"⟩
abbrev cX11_fails : ByteArray := prog_13_method_112_code
def yX11_fails : MethodName := ⟨RX11, "fails", "(I)I"⟩
abbrev cX11_worst : ByteArray := prog_13_method_113_code
def yX11_worst : MethodName := ⟨RX11, "worst", "()I"⟩
abbrev cX11_sillFor : ByteArray := prog_13_method_114_code
def yX11_sillFor : MethodName := ⟨RX11, "sillFor", "(I)I"⟩
abbrev cX11_through : ByteArray := prog_13_method_115_code
def yX11_through : MethodName := ⟨RX11, "through", "(II)I"⟩
abbrev cX11_greatest : ByteArray := prog_13_method_116_code
def yX11_greatest : MethodName := ⟨RX11, "greatest", "(II)I"⟩
abbrev cX11_firstDrowned : ByteArray := prog_13_method_117_code
def yX11_firstDrowned : MethodName := ⟨RX11, "firstDrowned", "()I"⟩
abbrev cX11_bestHour : ByteArray := prog_13_method_118_code
def yX11_bestHour : MethodName := ⟨RX11, "bestHour", "(I)I"⟩
abbrev cX11_pumpFor : ByteArray := prog_13_method_119_code
def yX11_pumpFor : MethodName := ⟨RX11, "pumpFor", "(I)I"⟩
abbrev cX11_pumpAt : ByteArray := prog_13_method_120_code
def yX11_pumpAt : MethodName := ⟨RX11, "pumpAt", "(I)I"⟩
abbrev cX11_waterWalled : ByteArray := prog_13_method_121_code
def yX11_waterWalled : MethodName := ⟨RX11, "waterWalled", "(II)I"⟩
abbrev cX11_twoWalls : ByteArray := prog_13_method_122_code
def yX11_twoWalls : MethodName := ⟨RX11, "twoWalls", "()I"⟩
abbrev cX11_gain : ByteArray := prog_13_method_123_code
def yX11_gain : MethodName := ⟨RX11, "gain", "(I)I"⟩
abbrev cX11_bailFor : ByteArray := prog_13_method_124_code
def yX11_bailFor : MethodName := ⟨RX11, "bailFor", "(II)I"⟩
abbrev cX11_siegeOf : ByteArray := prog_13_method_125_code
def yX11_siegeOf : MethodName := ⟨RX11, "siegeOf", "(I)I"⟩
abbrev cX11_siege : ByteArray := prog_13_method_126_code
def yX11_siege : MethodName := ⟨RX11, "siege", "(I)I"⟩
abbrev cX11_borne : ByteArray := prog_13_method_127_code
def yX11_borne : MethodName := ⟨RX11, "borne", "()I"⟩
abbrev cX11_keepOf : ByteArray := prog_13_method_128_code
def yX11_keepOf : MethodName := ⟨RX11, "keepOf", "(I)I"⟩
abbrev cX11_keep : ByteArray := prog_13_method_129_code
def yX11_keep : MethodName := ⟨RX11, "keep", "(I)I"⟩
abbrev cX11_keepSet : ByteArray := prog_13_method_130_code
def yX11_keepSet : MethodName := ⟨RX11, "keepSet", "(I)I"⟩
abbrev cX11_errandOf : ByteArray := prog_13_method_131_code
def yX11_errandOf : MethodName := ⟨RX11, "errandOf", "(II)I"⟩
abbrev cX11_hoursOn : ByteArray := prog_13_method_132_code
def yX11_hoursOn : MethodName := ⟨RX11, "hoursOn", "()Z"⟩
abbrev cX11_plans : ByteArray := prog_13_method_133_code
def yX11_plans : MethodName := ⟨RX11, "plans", "()V"⟩
abbrev cX11_plan : ByteArray := prog_13_method_134_code
def yX11_plan : MethodName := ⟨RX11, "plan", "(I)I"⟩
abbrev cX11_planned : ByteArray := prog_13_method_135_code
def yX11_planned : MethodName := ⟨RX11, "planned", "(I)I"⟩
abbrev cX11_saveOf : ByteArray := prog_13_method_136_code
def yX11_saveOf : MethodName := ⟨RX11, "saveOf", "(I)I"⟩
abbrev cX11_save : ByteArray := prog_13_method_137_code
def yX11_save : MethodName := ⟨RX11, "save", "(I)I"⟩
abbrev cX11_saveSet : ByteArray := prog_13_method_138_code
def yX11_saveSet : MethodName := ⟨RX11, "saveSet", "(I)I"⟩
abbrev cX11_damageOf : ByteArray := prog_13_method_139_code
def yX11_damageOf : MethodName := ⟨RX11, "damageOf", "(I)I"⟩
abbrev cX11_isSet : ByteArray := prog_13_method_140_code
def yX11_isSet : MethodName := ⟨RX11, "isSet", "(I)Z"⟩
abbrev cX11_damage : ByteArray := prog_13_method_141_code
def yX11_damage : MethodName := ⟨RX11, "damage", "(I)I"⟩
abbrev cX11_orders : ByteArray := prog_13_method_142_code
def yX11_orders : MethodName := ⟨RX11, "orders", "(I)J"⟩
abbrev cX11_guilt : ByteArray := prog_13_method_143_code
def yX11_guilt : MethodName := ⟨RX11, "guilt", "(II)Z"⟩
abbrev cX11_laysPrint : ByteArray := prog_13_method_144_code
def yX11_laysPrint : MethodName := ⟨RX11, "laysPrint", "(I)V"⟩
abbrev cX11_wrongPrint : ByteArray := prog_13_method_145_code
def yX11_wrongPrint : MethodName := ⟨RX11, "wrongPrint", "(I)I"⟩
abbrev cX11_print : ByteArray := prog_13_method_146_code
def yX11_print : MethodName := ⟨RX11, "print", "(II)I"⟩
abbrev cX11_suspects : ByteArray := prog_13_method_147_code
def yX11_suspects : MethodName := ⟨RX11, "suspects", "(I)I"⟩
abbrev cX11_printsOf : ByteArray := prog_13_method_148_code
def yX11_printsOf : MethodName := ⟨RX11, "printsOf", "(I)I"⟩
abbrev cX11_telling : ByteArray := prog_13_method_149_code
def yX11_telling : MethodName := ⟨RX11, "telling", "()I"⟩
abbrev cX11_prints : ByteArray := prog_13_method_150_code
def yX11_prints : MethodName := ⟨RX11, "prints", "(I)I"⟩
abbrev cX11_draw : ByteArray := prog_13_method_151_code
def yX11_draw : MethodName := ⟨RX11, "draw", "(I)I"⟩
abbrev cX11_hoursGo : ByteArray := prog_13_method_152_code
def yX11_hoursGo : MethodName := ⟨RX11, "hoursGo", "(I)Z"⟩
abbrev cX11_bailsBy : ByteArray := prog_13_method_153_code
def yX11_bailsBy : MethodName := ⟨RX11, "bailsBy", "(II)Z"⟩
abbrev cX11_turnsAny : ByteArray := prog_13_method_154_code
def yX11_turnsAny : MethodName := ⟨RX11, "turnsAny", "()Z"⟩
abbrev cX11_does : ByteArray := prog_13_method_155_code
def yX11_does : MethodName := ⟨RX11, "does", "(I)Z"⟩
abbrev cX11_holds : ByteArray := prog_13_method_156_code
def yX11_holds : MethodName := ⟨RX11, "holds", "(I)Z"⟩
abbrev cX11_behindEnds : ByteArray := prog_13_method_157_code
def yX11_behindEnds : MethodName := ⟨RX11, "behindEnds", "(I)I"⟩
abbrev cX11_lives : ByteArray := prog_13_method_158_code
def yX11_lives : MethodName := ⟨RX11, "lives", "(I)V"⟩
abbrev cX11_live : ByteArray := prog_13_method_159_code
def yX11_live : MethodName := ⟨RX11, "live", "(I)I"⟩
abbrev cX11_lived : ByteArray := prog_13_method_160_code
def yX11_lived : MethodName := ⟨RX11, "lived", "(I)I"⟩
abbrev cX11_mean : ByteArray := prog_13_method_161_code
def yX11_mean : MethodName := ⟨RX11, "mean", "(II)Z"⟩
abbrev cX11_copies : ByteArray := prog_13_method_162_code
def yX11_copies : MethodName := ⟨RX11, "copies", "(II)V"⟩
abbrev cX11_mark : ByteArray := prog_13_method_163_code
def yX11_mark : MethodName := ⟨RX11, "mark", "()I"⟩
abbrev cX11_undo : ByteArray := prog_13_method_164_code
def yX11_undo : MethodName := ⟨RX11, "undo", "()I"⟩
def RJ6 : String := "java/lang/Integer"
def TJ6 : u_T := fun k => match k with
  | _ => ("", "", "", false)
def tyJ6 : Nat → FieldType := fun k => match k with
  | _ => .int
abbrev wsJ60 : List Cond := u_ws RJ6 TJ6 0
theorem nmJ6 : ∀ a, a < 0 → ∀ b, b < 0 → a ≠ b → (TJ6 a).2.1 ≠ (TJ6 b).2.1 := by decide +kernel
theorem tyJ6_ok : ∀ k, k < 0 → parseFieldDescriptor (TJ6 k).2.2.1 = some (tyJ6 k) := by decide +kernel
abbrev cJ6_numberOfTrailingZeros_0f7a4 : ByteArray := prog_14_method_48_code
def yJ6_numberOfTrailingZeros_0f7a4 : MethodName := ⟨RJ6, "numberOfTrailingZeros", "(I)I"⟩
abbrev cJ6_bitCount_0f7a4 : ByteArray := prog_14_method_49_code
def yJ6_bitCount_0f7a4 : MethodName := ⟨RJ6, "bitCount", "(I)I"⟩
def RJ9 : String := "java/lang/Math"
def TJ9 : u_T := fun k => match k with
  | _ => ("", "", "", false)
def tyJ9 : Nat → FieldType := fun k => match k with
  | _ => .int
abbrev wsJ90 : List Cond := u_ws RJ9 TJ9 0
theorem nmJ9 : ∀ a, a < 0 → ∀ b, b < 0 → a ≠ b → (TJ9 a).2.1 ≠ (TJ9 b).2.1 := by decide +kernel
theorem tyJ9_ok : ∀ k, k < 0 → parseFieldDescriptor (TJ9 k).2.2.1 = some (tyJ9 k) := by decide +kernel
abbrev cJ9_abs_0f7a4 : ByteArray := prog_15_method_59_code
def yJ9_abs_0f7a4 : MethodName := ⟨RJ9, "abs", "(I)I"⟩
abbrev cJ9_abs_067f4 : ByteArray := prog_15_method_61_code
def yJ9_abs_067f4 : MethodName := ⟨RJ9, "abs", "(J)J"⟩
abbrev cJ9_max_7cf53 : ByteArray := prog_15_method_65_code
def yJ9_max_7cf53 : MethodName := ⟨RJ9, "max", "(II)I"⟩
abbrev cJ9_min_7cf53 : ByteArray := prog_15_method_69_code
def yJ9_min_7cf53 : MethodName := ⟨RJ9, "min", "(II)I"⟩
def RJ0 : String := "java/lang/String"
def TJ0 : u_T := fun k => match k with
  | _ => ("", "", "", false)
def tyJ0 : Nat → FieldType := fun k => match k with
  | _ => .int
abbrev wsJ00 : List Cond := u_ws RJ0 TJ0 0
theorem nmJ0 : ∀ a, a < 0 → ∀ b, b < 0 → a ≠ b → (TJ0 a).2.1 ≠ (TJ0 b).2.1 := by decide +kernel
theorem tyJ0_ok : ∀ k, k < 0 → parseFieldDescriptor (TJ0 k).2.2.1 = some (tyJ0 k) := by decide +kernel
abbrev cJ0_length_8abf5 : ByteArray := prog_16_method_54_code
def yJ0_length_8abf5 : MethodName := ⟨RJ0, "length", "()I"⟩
abbrev cJ0_charAt_5068e : ByteArray := prog_16_method_56_code
def yJ0_charAt_5068e : MethodName := ⟨RJ0, "charAt", "(I)C"⟩
abbrev cJ0_coder_7d493 : ByteArray := prog_16_method_152_code
def yJ0_coder_7d493 : MethodName := ⟨RJ0, "coder", "()B"⟩
abbrev cJ0_isLatin1_aae02 : ByteArray := prog_16_method_154_code
def yJ0_isLatin1_aae02 : MethodName := ⟨RJ0, "isLatin1", "()Z"⟩
abbrev cJ0_checkIndex_df160 : ByteArray := prog_16_method_155_code
def yJ0_checkIndex_df160 : MethodName := ⟨RJ0, "checkIndex", "(II)V"⟩
def RJ1 : String := "java/lang/StringLatin1"
def TJ1 : u_T := fun k => match k with
  | _ => ("", "", "", false)
def tyJ1 : Nat → FieldType := fun k => match k with
  | _ => .int
abbrev wsJ10 : List Cond := u_ws RJ1 TJ1 0
theorem nmJ1 : ∀ a, a < 0 → ∀ b, b < 0 → a ≠ b → (TJ1 a).2.1 ≠ (TJ1 b).2.1 := by decide +kernel
theorem tyJ1_ok : ∀ k, k < 0 → parseFieldDescriptor (TJ1 k).2.2.1 = some (tyJ1 k) := by decide +kernel
abbrev cJ1_charAt_3b067 : ByteArray := prog_17_method_2_code
def yJ1_charAt_3b067 : MethodName := ⟨RJ1, "charAt", "([BI)C"⟩
def RJ2 : String := "java/lang/StringUTF16"
def TJ2 : u_T := fun k => match k with
  | _ => ("", "", "", false)
def tyJ2 : Nat → FieldType := fun k => match k with
  | _ => .int
abbrev wsJ20 : List Cond := u_ws RJ2 TJ2 0
theorem nmJ2 : ∀ a, a < 0 → ∀ b, b < 0 → a ≠ b → (TJ2 a).2.1 ≠ (TJ2 b).2.1 := by decide +kernel
theorem tyJ2_ok : ∀ k, k < 0 → parseFieldDescriptor (TJ2 k).2.2.1 = some (tyJ2 k) := by decide +kernel
abbrev cJ2_getChar_3b067 : ByteArray := prog_18_method_5_code
def yJ2_getChar_3b067 : MethodName := ⟨RJ2, "getChar", "([BI)C"⟩
abbrev cJ2_length_9d52b : ByteArray := prog_18_method_6_code
def yJ2_length_9d52b : MethodName := ⟨RJ2, "length", "([B)I"⟩
abbrev cJ2_charAt_3b067 : ByteArray := prog_18_method_83_code
def yJ2_charAt_3b067 : MethodName := ⟨RJ2, "charAt", "([BI)C"⟩
abbrev cJ2_checkIndex_2214a : ByteArray := prog_18_method_91_code
def yJ2_checkIndex_2214a : MethodName := ⟨RJ2, "checkIndex", "(I[B)V"⟩
def RJ10 : String := "java/lang/System"
def TJ10 : u_T := fun k => match k with
  | _ => ("", "", "", false)
def tyJ10 : Nat → FieldType := fun k => match k with
  | _ => .int
abbrev wsJ100 : List Cond := u_ws RJ10 TJ10 0
theorem nmJ10 : ∀ a, a < 0 → ∀ b, b < 0 → a ≠ b → (TJ10 a).2.1 ≠ (TJ10 b).2.1 := by decide +kernel
theorem tyJ10_ok : ∀ k, k < 0 → parseFieldDescriptor (TJ10 k).2.2.1 = some (tyJ10 k) := by decide +kernel
def RJ3 : String := "jdk/internal/util/Preconditions"
def TJ3 : u_T := fun k => match k with
  | _ => ("", "", "", false)
def tyJ3 : Nat → FieldType := fun k => match k with
  | _ => .int
abbrev wsJ30 : List Cond := u_ws RJ3 TJ3 0
theorem nmJ3 : ∀ a, a < 0 → ∀ b, b < 0 → a ≠ b → (TJ3 a).2.1 ≠ (TJ3 b).2.1 := by decide +kernel
theorem tyJ3_ok : ∀ k, k < 0 → parseFieldDescriptor (TJ3 k).2.2.1 = some (tyJ3 k) := by decide +kernel
abbrev cJ3_checkIndex_8e157 : ByteArray := prog_20_method_11_code
def yJ3_checkIndex_8e157 : MethodName := ⟨RJ3, "checkIndex", "(IILjava/util/function/BiFunction;)I"⟩
def RL : String := "DryDoorsLaw"
abbrev cL_law : ByteArray := code
def yL_law : MethodName := ⟨RL, "law", "([I)Z"⟩
abbrev vwCl : List vw_C := [(RX0, TX0, 10), (RX1, TX1, 15), (RX2, TX2, 2), (RX3, TX3, 9), (RX4, TX4, 7), (RX5, TX5, 4), (RX6, TX6, 7), (RX7, TX7, 9), (RX8, TX8, 16), (RX9, TX9, 3), (RX10, TX10, 19), (RX11, TX11, 44)]
