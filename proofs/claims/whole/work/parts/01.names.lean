/-- a private method of a class that the tables say can be made, by its rows of tables_1 -/
def lw_okq (q : MethodName × Nat) : Prop := (q.1.cls ≠ "java/lang/invoke/MethodHandle" ∧ q.1.cls ≠ "java/lang/invoke/VarHandle") ∧ Cond.instantiable q.1.cls q.2 ∈ tables_1 ∧ Cond.privateMethod q.1 ∈ tables_1 ∧ Cond.instanceMethod q.1 ∈ tables_1
theorem lw_p0 : lw_okq (⟨"BoathouseKey$RuleReader", "takes", "(ILBoathouseKey$Rule;)Z"⟩, 3) := ⟨⟨by decide +kernel, by decide +kernel⟩, List.mem_of_getElem? (i := 170) (by decide +kernel), List.mem_of_getElem? (i := 511) (by decide +kernel), List.mem_of_getElem? (i := 512) (by decide +kernel)⟩
theorem lw_p1 : lw_okq (⟨"BoathouseKey$RuleReader", "takesPlace", "(ILBoathouseKey$Rule;)Z"⟩, 3) := ⟨⟨by decide +kernel, by decide +kernel⟩, List.mem_of_getElem? (i := 170) (by decide +kernel), List.mem_of_getElem? (i := 515) (by decide +kernel), List.mem_of_getElem? (i := 516) (by decide +kernel)⟩
theorem lw_p2 : lw_okq (⟨"BoathouseKey$RuleReader", "endAct", "(ILBoathouseKey$Rule;)V"⟩, 3) := ⟨⟨by decide +kernel, by decide +kernel⟩, List.mem_of_getElem? (i := 170) (by decide +kernel), List.mem_of_getElem? (i := 519) (by decide +kernel), List.mem_of_getElem? (i := 520) (by decide +kernel)⟩
theorem lw_p3 : lw_okq (⟨"BoathouseKey$RuleReader", "takesHour", "(ILBoathouseKey$Rule;)Z"⟩, 3) := ⟨⟨by decide +kernel, by decide +kernel⟩, List.mem_of_getElem? (i := 170) (by decide +kernel), List.mem_of_getElem? (i := 532) (by decide +kernel), List.mem_of_getElem? (i := 533) (by decide +kernel)⟩
theorem lw_p4 : lw_okq (⟨"BoathouseKey$ClubReader", "takes", "(ILBoathouseKey$Club;)Z"⟩, 7) := ⟨⟨by decide +kernel, by decide +kernel⟩, List.mem_of_getElem? (i := 126) (by decide +kernel), List.mem_of_getElem? (i := 550) (by decide +kernel), List.mem_of_getElem? (i := 551) (by decide +kernel)⟩
theorem lw_p5 : lw_okq (⟨"BoathouseKey$ClubReader", "mayFollow", "(ILBoathouseKey$Club;)Z"⟩, 7) := ⟨⟨by decide +kernel, by decide +kernel⟩, List.mem_of_getElem? (i := 126) (by decide +kernel), List.mem_of_getElem? (i := 554) (by decide +kernel), List.mem_of_getElem? (i := 555) (by decide +kernel)⟩
theorem lw_p6 : lw_okq (⟨"BoathouseKey$ClubReader", "somebodyHasTime", "(LBoathouseKey$Club;)Z"⟩, 7) := ⟨⟨by decide +kernel, by decide +kernel⟩, List.mem_of_getElem? (i := 126) (by decide +kernel), List.mem_of_getElem? (i := 558) (by decide +kernel), List.mem_of_getElem? (i := 559) (by decide +kernel)⟩
theorem lw_p7 : lw_okq (⟨"BoathouseKey$ClubReader", "hasTime", "(ILBoathouseKey$Club;)Z"⟩, 7) := ⟨⟨by decide +kernel, by decide +kernel⟩, List.mem_of_getElem? (i := 126) (by decide +kernel), List.mem_of_getElem? (i := 562) (by decide +kernel), List.mem_of_getElem? (i := 563) (by decide +kernel)⟩
theorem lw_p8 : lw_okq (⟨"BoathouseKey$ClubReader", "isRight", "(ILBoathouseKey$Club;)Z"⟩, 7) := ⟨⟨by decide +kernel, by decide +kernel⟩, List.mem_of_getElem? (i := 126) (by decide +kernel), List.mem_of_getElem? (i := 570) (by decide +kernel), List.mem_of_getElem? (i := 571) (by decide +kernel)⟩
theorem lw_p9 : lw_okq (⟨"BoathouseKey$ClubReader", "isRightInSession", "(ILBoathouseKey$Club;)Z"⟩, 7) := ⟨⟨by decide +kernel, by decide +kernel⟩, List.mem_of_getElem? (i := 126) (by decide +kernel), List.mem_of_getElem? (i := 574) (by decide +kernel), List.mem_of_getElem? (i := 575) (by decide +kernel)⟩
theorem lw_p10 : lw_okq (⟨"BoathouseKey$ClubReader", "isRightInOpen", "(ILBoathouseKey$Club;)Z"⟩, 7) := ⟨⟨by decide +kernel, by decide +kernel⟩, List.mem_of_getElem? (i := 126) (by decide +kernel), List.mem_of_getElem? (i := 585) (by decide +kernel), List.mem_of_getElem? (i := 586) (by decide +kernel)⟩
theorem lw_p11 : lw_okq (⟨"BoathouseKey$ClubReader", "noteFigure", "(ILBoathouseKey$Club;)V"⟩, 7) := ⟨⟨by decide +kernel, by decide +kernel⟩, List.mem_of_getElem? (i := 126) (by decide +kernel), List.mem_of_getElem? (i := 589) (by decide +kernel), List.mem_of_getElem? (i := 590) (by decide +kernel)⟩
theorem lw_p12 : lw_okq (⟨"BoathouseKey$ClubReader", "endPart", "(ILBoathouseKey$Club;)V"⟩, 7) := ⟨⟨by decide +kernel, by decide +kernel⟩, List.mem_of_getElem? (i := 126) (by decide +kernel), List.mem_of_getElem? (i := 596) (by decide +kernel), List.mem_of_getElem? (i := 597) (by decide +kernel)⟩
theorem lw_p13 : lw_okq (⟨"BoathouseKey$Live", "somebodyOpens", "(LBoathouseKey$Club;)Z"⟩, 9) := ⟨⟨by decide +kernel, by decide +kernel⟩, List.mem_of_getElem? (i := 186) (by decide +kernel), List.mem_of_getElem? (i := 673) (by decide +kernel), List.mem_of_getElem? (i := 674) (by decide +kernel)⟩
theorem lw_p14 : lw_okq (⟨"BoathouseKey$Live", "letGo", "(LBoathouseKey$Club;)I"⟩, 9) := ⟨⟨by decide +kernel, by decide +kernel⟩, List.mem_of_getElem? (i := 186) (by decide +kernel), List.mem_of_getElem? (i := 692) (by decide +kernel), List.mem_of_getElem? (i := 693) (by decide +kernel)⟩
theorem lw_p15 : lw_okq (⟨"BoathouseKey$Live", "handOn", "(LBoathouseKey$Club;IIZ)V"⟩, 9) := ⟨⟨by decide +kernel, by decide +kernel⟩, List.mem_of_getElem? (i := 186) (by decide +kernel), List.mem_of_getElem? (i := 700) (by decide +kernel), List.mem_of_getElem? (i := 701) (by decide +kernel)⟩
def lw_privs_1 : List (MethodName × Nat) := [(⟨"BoathouseKey$RuleReader", "takes", "(ILBoathouseKey$Rule;)Z"⟩, 3), (⟨"BoathouseKey$RuleReader", "takesPlace", "(ILBoathouseKey$Rule;)Z"⟩, 3), (⟨"BoathouseKey$RuleReader", "endAct", "(ILBoathouseKey$Rule;)V"⟩, 3), (⟨"BoathouseKey$RuleReader", "takesHour", "(ILBoathouseKey$Rule;)Z"⟩, 3), (⟨"BoathouseKey$ClubReader", "takes", "(ILBoathouseKey$Club;)Z"⟩, 7), (⟨"BoathouseKey$ClubReader", "mayFollow", "(ILBoathouseKey$Club;)Z"⟩, 7), (⟨"BoathouseKey$ClubReader", "somebodyHasTime", "(LBoathouseKey$Club;)Z"⟩, 7), (⟨"BoathouseKey$ClubReader", "hasTime", "(ILBoathouseKey$Club;)Z"⟩, 7), (⟨"BoathouseKey$ClubReader", "isRight", "(ILBoathouseKey$Club;)Z"⟩, 7), (⟨"BoathouseKey$ClubReader", "isRightInSession", "(ILBoathouseKey$Club;)Z"⟩, 7), (⟨"BoathouseKey$ClubReader", "isRightInOpen", "(ILBoathouseKey$Club;)Z"⟩, 7), (⟨"BoathouseKey$ClubReader", "noteFigure", "(ILBoathouseKey$Club;)V"⟩, 7), (⟨"BoathouseKey$ClubReader", "endPart", "(ILBoathouseKey$Club;)V"⟩, 7), (⟨"BoathouseKey$Live", "somebodyOpens", "(LBoathouseKey$Club;)Z"⟩, 9), (⟨"BoathouseKey$Live", "letGo", "(LBoathouseKey$Club;)I"⟩, 9), (⟨"BoathouseKey$Live", "handOn", "(LBoathouseKey$Club;IIZ)V"⟩, 9)]
theorem lw_r1 : ∀ q ∈ lw_privs_1, lw_okq q := List.forall_mem_cons.mpr ⟨lw_p0, List.forall_mem_cons.mpr ⟨lw_p1, List.forall_mem_cons.mpr ⟨lw_p2, List.forall_mem_cons.mpr ⟨lw_p3, List.forall_mem_cons.mpr ⟨lw_p4, List.forall_mem_cons.mpr ⟨lw_p5, List.forall_mem_cons.mpr ⟨lw_p6, List.forall_mem_cons.mpr ⟨lw_p7, List.forall_mem_cons.mpr ⟨lw_p8, List.forall_mem_cons.mpr ⟨lw_p9, List.forall_mem_cons.mpr ⟨lw_p10, List.forall_mem_cons.mpr ⟨lw_p11, List.forall_mem_cons.mpr ⟨lw_p12, List.forall_mem_cons.mpr ⟨lw_p13, List.forall_mem_cons.mpr ⟨lw_p14, List.forall_mem_cons.mpr ⟨lw_p15, fun _ h => absurd h List.not_mem_nil⟩⟩⟩⟩⟩⟩⟩⟩⟩⟩⟩⟩⟩⟩⟩⟩
theorem lw_p16 : lw_okq (⟨"BoathouseKey", "canBegin", "(II)Z"⟩, 18) := ⟨⟨by decide +kernel, by decide +kernel⟩, List.mem_of_getElem? (i := 19) (by decide +kernel), List.mem_of_getElem? (i := 745) (by decide +kernel), List.mem_of_getElem? (i := 746) (by decide +kernel)⟩
theorem lw_p17 : lw_okq (⟨"BoathouseKey$Ring", "followWeeks", "(LBoathouseKey$Club;LBoathouseKey$Rule;I)I"⟩, 7) := ⟨⟨by decide +kernel, by decide +kernel⟩, List.mem_of_getElem? (i := 267) (by decide +kernel), List.mem_of_getElem? (i := 773) (by decide +kernel), List.mem_of_getElem? (i := 774) (by decide +kernel)⟩
theorem lw_p18 : lw_okq (⟨"BoathouseKey$Ring", "weeksBetween", "(II)I"⟩, 7) := ⟨⟨by decide +kernel, by decide +kernel⟩, List.mem_of_getElem? (i := 267) (by decide +kernel), List.mem_of_getElem? (i := 784) (by decide +kernel), List.mem_of_getElem? (i := 785) (by decide +kernel)⟩
theorem lw_p19 : lw_okq (⟨"BoathouseKey$Steps", "prepareActs", "(LBoathouseKey$Club;III)V"⟩, 5) := ⟨⟨by decide +kernel, by decide +kernel⟩, List.mem_of_getElem? (i := 302) (by decide +kernel), List.mem_of_getElem? (i := 827) (by decide +kernel), List.mem_of_getElem? (i := 828) (by decide +kernel)⟩
theorem lw_p20 : lw_okq (⟨"BoathouseKey$Ways", "priceAllTo", "(I)V"⟩, 7) := ⟨⟨by decide +kernel, by decide +kernel⟩, List.mem_of_getElem? (i := 326) (by decide +kernel), List.mem_of_getElem? (i := 837) (by decide +kernel), List.mem_of_getElem? (i := 838) (by decide +kernel)⟩
theorem lw_p21 : lw_okq (⟨"BoathouseKey$Ways", "leastAt", "(II)I"⟩, 7) := ⟨⟨by decide +kernel, by decide +kernel⟩, List.mem_of_getElem? (i := 326) (by decide +kernel), List.mem_of_getElem? (i := 841) (by decide +kernel), List.mem_of_getElem? (i := 842) (by decide +kernel)⟩
theorem lw_p22 : lw_okq (⟨"BoathouseKey$Ways", "priceBy", "(III)I"⟩, 7) := ⟨⟨by decide +kernel, by decide +kernel⟩, List.mem_of_getElem? (i := 326) (by decide +kernel), List.mem_of_getElem? (i := 852) (by decide +kernel), List.mem_of_getElem? (i := 853) (by decide +kernel)⟩
theorem lw_p23 : lw_okq (⟨"BoathouseKey$Ways", "chooseActs", "(I)V"⟩, 7) := ⟨⟨by decide +kernel, by decide +kernel⟩, List.mem_of_getElem? (i := 326) (by decide +kernel), List.mem_of_getElem? (i := 867) (by decide +kernel), List.mem_of_getElem? (i := 868) (by decide +kernel)⟩
theorem lw_p24 : lw_okq (⟨"BoathouseKey$Ways", "reachedAfter", "(II)I"⟩, 7) := ⟨⟨by decide +kernel, by decide +kernel⟩, List.mem_of_getElem? (i := 326) (by decide +kernel), List.mem_of_getElem? (i := 887) (by decide +kernel), List.mem_of_getElem? (i := 888) (by decide +kernel)⟩
theorem lw_p25 : lw_okq (⟨"BoathouseKey$ShortRules", "nobodyStands", "(I)Z"⟩, 11) := ⟨⟨by decide +kernel, by decide +kernel⟩, List.mem_of_getElem? (i := 357) (by decide +kernel), List.mem_of_getElem? (i := 908) (by decide +kernel), List.mem_of_getElem? (i := 909) (by decide +kernel)⟩
theorem lw_p26 : lw_okq (⟨"BoathouseKey", "fewestKeys", "(LBoathouseKey$Rule;I)I"⟩, 18) := ⟨⟨by decide +kernel, by decide +kernel⟩, List.mem_of_getElem? (i := 19) (by decide +kernel), List.mem_of_getElem? (i := 938) (by decide +kernel), List.mem_of_getElem? (i := 939) (by decide +kernel)⟩
theorem lw_p27 : lw_okq (⟨"BoathouseKey", "helpsToMove", "(IILBoathouseKey$Rule;I)Z"⟩, 18) := ⟨⟨by decide +kernel, by decide +kernel⟩, List.mem_of_getElem? (i := 19) (by decide +kernel), List.mem_of_getElem? (i := 948) (by decide +kernel), List.mem_of_getElem? (i := 949) (by decide +kernel)⟩
theorem lw_p28 : lw_okq (⟨"BoathouseKey$Chances", "addWeek", "(JI)V"⟩, 4) := ⟨⟨by decide +kernel, by decide +kernel⟩, List.mem_of_getElem? (i := 402) (by decide +kernel), List.mem_of_getElem? (i := 986) (by decide +kernel), List.mem_of_getElem? (i := 987) (by decide +kernel)⟩
theorem lw_p29 : lw_okq (⟨"BoathouseKey$Chances", "mayLieOpen", "(LBoathouseKey$Club;II)Z"⟩, 4) := ⟨⟨by decide +kernel, by decide +kernel⟩, List.mem_of_getElem? (i := 402) (by decide +kernel), List.mem_of_getElem? (i := 1007) (by decide +kernel), List.mem_of_getElem? (i := 1008) (by decide +kernel)⟩
theorem lw_p30 : lw_okq (⟨"BoathouseKey$Chances", "aheadOf", "(LBoathouseKey$Club;II)I"⟩, 4) := ⟨⟨by decide +kernel, by decide +kernel⟩, List.mem_of_getElem? (i := 402) (by decide +kernel), List.mem_of_getElem? (i := 1012) (by decide +kernel), List.mem_of_getElem? (i := 1013) (by decide +kernel)⟩
theorem lw_p31 : lw_okq (⟨"BoathouseKeyModel", "begin", "()V"⟩, 59) := ⟨⟨by decide +kernel, by decide +kernel⟩, List.mem_of_getElem? (i := 1020) (by decide +kernel), List.mem_of_getElem? (i := 1026) (by decide +kernel), List.mem_of_getElem? (i := 1027) (by decide +kernel)⟩
def lw_privs_2 : List (MethodName × Nat) := [(⟨"BoathouseKey", "canBegin", "(II)Z"⟩, 18), (⟨"BoathouseKey$Ring", "followWeeks", "(LBoathouseKey$Club;LBoathouseKey$Rule;I)I"⟩, 7), (⟨"BoathouseKey$Ring", "weeksBetween", "(II)I"⟩, 7), (⟨"BoathouseKey$Steps", "prepareActs", "(LBoathouseKey$Club;III)V"⟩, 5), (⟨"BoathouseKey$Ways", "priceAllTo", "(I)V"⟩, 7), (⟨"BoathouseKey$Ways", "leastAt", "(II)I"⟩, 7), (⟨"BoathouseKey$Ways", "priceBy", "(III)I"⟩, 7), (⟨"BoathouseKey$Ways", "chooseActs", "(I)V"⟩, 7), (⟨"BoathouseKey$Ways", "reachedAfter", "(II)I"⟩, 7), (⟨"BoathouseKey$ShortRules", "nobodyStands", "(I)Z"⟩, 11), (⟨"BoathouseKey", "fewestKeys", "(LBoathouseKey$Rule;I)I"⟩, 18), (⟨"BoathouseKey", "helpsToMove", "(IILBoathouseKey$Rule;I)Z"⟩, 18), (⟨"BoathouseKey$Chances", "addWeek", "(JI)V"⟩, 4), (⟨"BoathouseKey$Chances", "mayLieOpen", "(LBoathouseKey$Club;II)Z"⟩, 4), (⟨"BoathouseKey$Chances", "aheadOf", "(LBoathouseKey$Club;II)I"⟩, 4), (⟨"BoathouseKeyModel", "begin", "()V"⟩, 59)]
theorem lw_r2 : ∀ q ∈ lw_privs_2, lw_okq q := List.forall_mem_cons.mpr ⟨lw_p16, List.forall_mem_cons.mpr ⟨lw_p17, List.forall_mem_cons.mpr ⟨lw_p18, List.forall_mem_cons.mpr ⟨lw_p19, List.forall_mem_cons.mpr ⟨lw_p20, List.forall_mem_cons.mpr ⟨lw_p21, List.forall_mem_cons.mpr ⟨lw_p22, List.forall_mem_cons.mpr ⟨lw_p23, List.forall_mem_cons.mpr ⟨lw_p24, List.forall_mem_cons.mpr ⟨lw_p25, List.forall_mem_cons.mpr ⟨lw_p26, List.forall_mem_cons.mpr ⟨lw_p27, List.forall_mem_cons.mpr ⟨lw_p28, List.forall_mem_cons.mpr ⟨lw_p29, List.forall_mem_cons.mpr ⟨lw_p30, List.forall_mem_cons.mpr ⟨lw_p31, fun _ h => absurd h List.not_mem_nil⟩⟩⟩⟩⟩⟩⟩⟩⟩⟩⟩⟩⟩⟩⟩⟩
theorem lw_p32 : lw_okq (⟨"BoathouseKeyModel", "readRule", "()I"⟩, 59) := ⟨⟨by decide +kernel, by decide +kernel⟩, List.mem_of_getElem? (i := 1020) (by decide +kernel), List.mem_of_getElem? (i := 1224) (by decide +kernel), List.mem_of_getElem? (i := 1225) (by decide +kernel)⟩
theorem lw_p33 : lw_okq (⟨"BoathouseKeyModel", "oneOf", "(I)I"⟩, 59) := ⟨⟨by decide +kernel, by decide +kernel⟩, List.mem_of_getElem? (i := 1020) (by decide +kernel), List.mem_of_getElem? (i := 1228) (by decide +kernel), List.mem_of_getElem? (i := 1229) (by decide +kernel)⟩
theorem lw_p34 : lw_okq (⟨"BoathouseKeyModel", "readAct", "()I"⟩, 59) := ⟨⟨by decide +kernel, by decide +kernel⟩, List.mem_of_getElem? (i := 1020) (by decide +kernel), List.mem_of_getElem? (i := 1233) (by decide +kernel), List.mem_of_getElem? (i := 1234) (by decide +kernel)⟩
theorem lw_p35 : lw_okq (⟨"BoathouseKeyModel", "sign", "(I)Z"⟩, 59) := ⟨⟨by decide +kernel, by decide +kernel⟩, List.mem_of_getElem? (i := 1020) (by decide +kernel), List.mem_of_getElem? (i := 1237) (by decide +kernel), List.mem_of_getElem? (i := 1238) (by decide +kernel)⟩
theorem lw_p36 : lw_okq (⟨"BoathouseKeyModel", "figure", "(II)I"⟩, 59) := ⟨⟨by decide +kernel, by decide +kernel⟩, List.mem_of_getElem? (i := 1020) (by decide +kernel), List.mem_of_getElem? (i := 1241) (by decide +kernel), List.mem_of_getElem? (i := 1242) (by decide +kernel)⟩
theorem lw_p37 : lw_okq (⟨"BoathouseKeyModel", "readClub", "()I"⟩, 59) := ⟨⟨by decide +kernel, by decide +kernel⟩, List.mem_of_getElem? (i := 1020) (by decide +kernel), List.mem_of_getElem? (i := 1245) (by decide +kernel), List.mem_of_getElem? (i := 1246) (by decide +kernel)⟩
theorem lw_p38 : lw_okq (⟨"BoathouseKeyModel", "readPart", "()Z"⟩, 59) := ⟨⟨by decide +kernel, by decide +kernel⟩, List.mem_of_getElem? (i := 1020) (by decide +kernel), List.mem_of_getElem? (i := 1249) (by decide +kernel), List.mem_of_getElem? (i := 1250) (by decide +kernel)⟩
theorem lw_p39 : lw_okq (⟨"BoathouseKeyModel", "freePeople", "()I"⟩, 59) := ⟨⟨by decide +kernel, by decide +kernel⟩, List.mem_of_getElem? (i := 1020) (by decide +kernel), List.mem_of_getElem? (i := 1253) (by decide +kernel), List.mem_of_getElem? (i := 1254) (by decide +kernel)⟩
theorem lw_p40 : lw_okq (⟨"BoathouseKeyModel", "free", "(I)I"⟩, 59) := ⟨⟨by decide +kernel, by decide +kernel⟩, List.mem_of_getElem? (i := 1020) (by decide +kernel), List.mem_of_getElem? (i := 1257) (by decide +kernel), List.mem_of_getElem? (i := 1258) (by decide +kernel)⟩
theorem lw_p41 : lw_okq (⟨"BoathouseKeyModel", "readSession", "(I)Z"⟩, 59) := ⟨⟨by decide +kernel, by decide +kernel⟩, List.mem_of_getElem? (i := 1020) (by decide +kernel), List.mem_of_getElem? (i := 1261) (by decide +kernel), List.mem_of_getElem? (i := 1262) (by decide +kernel)⟩
theorem lw_p42 : lw_okq (⟨"BoathouseKeyModel", "places", "(Z)I"⟩, 59) := ⟨⟨by decide +kernel, by decide +kernel⟩, List.mem_of_getElem? (i := 1020) (by decide +kernel), List.mem_of_getElem? (i := 1265) (by decide +kernel), List.mem_of_getElem? (i := 1266) (by decide +kernel)⟩
theorem lw_p43 : lw_okq (⟨"BoathouseKeyModel", "readPlace", "()Z"⟩, 59) := ⟨⟨by decide +kernel, by decide +kernel⟩, List.mem_of_getElem? (i := 1020) (by decide +kernel), List.mem_of_getElem? (i := 1269) (by decide +kernel), List.mem_of_getElem? (i := 1270) (by decide +kernel)⟩
theorem lw_p44 : lw_okq (⟨"BoathouseKeyModel", "readHours", "()Z"⟩, 59) := ⟨⟨by decide +kernel, by decide +kernel⟩, List.mem_of_getElem? (i := 1020) (by decide +kernel), List.mem_of_getElem? (i := 1273) (by decide +kernel), List.mem_of_getElem? (i := 1274) (by decide +kernel)⟩
theorem lw_p45 : lw_okq (⟨"BoathouseKeyModel", "homeless", "()I"⟩, 59) := ⟨⟨by decide +kernel, by decide +kernel⟩, List.mem_of_getElem? (i := 1020) (by decide +kernel), List.mem_of_getElem? (i := 1277) (by decide +kernel), List.mem_of_getElem? (i := 1278) (by decide +kernel)⟩
theorem lw_p46 : lw_okq (⟨"BoathouseKeyModel", "readHome", "()Z"⟩, 59) := ⟨⟨by decide +kernel, by decide +kernel⟩, List.mem_of_getElem? (i := 1020) (by decide +kernel), List.mem_of_getElem? (i := 1281) (by decide +kernel), List.mem_of_getElem? (i := 1282) (by decide +kernel)⟩
theorem lw_p47 : lw_okq (⟨"BoathouseKeyModel", "noSession", "(I)Z"⟩, 59) := ⟨⟨by decide +kernel, by decide +kernel⟩, List.mem_of_getElem? (i := 1020) (by decide +kernel), List.mem_of_getElem? (i := 1308) (by decide +kernel), List.mem_of_getElem? (i := 1309) (by decide +kernel)⟩
def lw_privs_3 : List (MethodName × Nat) := [(⟨"BoathouseKeyModel", "readRule", "()I"⟩, 59), (⟨"BoathouseKeyModel", "oneOf", "(I)I"⟩, 59), (⟨"BoathouseKeyModel", "readAct", "()I"⟩, 59), (⟨"BoathouseKeyModel", "sign", "(I)Z"⟩, 59), (⟨"BoathouseKeyModel", "figure", "(II)I"⟩, 59), (⟨"BoathouseKeyModel", "readClub", "()I"⟩, 59), (⟨"BoathouseKeyModel", "readPart", "()Z"⟩, 59), (⟨"BoathouseKeyModel", "freePeople", "()I"⟩, 59), (⟨"BoathouseKeyModel", "free", "(I)I"⟩, 59), (⟨"BoathouseKeyModel", "readSession", "(I)Z"⟩, 59), (⟨"BoathouseKeyModel", "places", "(Z)I"⟩, 59), (⟨"BoathouseKeyModel", "readPlace", "()Z"⟩, 59), (⟨"BoathouseKeyModel", "readHours", "()Z"⟩, 59), (⟨"BoathouseKeyModel", "homeless", "()I"⟩, 59), (⟨"BoathouseKeyModel", "readHome", "()Z"⟩, 59), (⟨"BoathouseKeyModel", "noSession", "(I)Z"⟩, 59)]
theorem lw_r3 : ∀ q ∈ lw_privs_3, lw_okq q := List.forall_mem_cons.mpr ⟨lw_p32, List.forall_mem_cons.mpr ⟨lw_p33, List.forall_mem_cons.mpr ⟨lw_p34, List.forall_mem_cons.mpr ⟨lw_p35, List.forall_mem_cons.mpr ⟨lw_p36, List.forall_mem_cons.mpr ⟨lw_p37, List.forall_mem_cons.mpr ⟨lw_p38, List.forall_mem_cons.mpr ⟨lw_p39, List.forall_mem_cons.mpr ⟨lw_p40, List.forall_mem_cons.mpr ⟨lw_p41, List.forall_mem_cons.mpr ⟨lw_p42, List.forall_mem_cons.mpr ⟨lw_p43, List.forall_mem_cons.mpr ⟨lw_p44, List.forall_mem_cons.mpr ⟨lw_p45, List.forall_mem_cons.mpr ⟨lw_p46, List.forall_mem_cons.mpr ⟨lw_p47, fun _ h => absurd h List.not_mem_nil⟩⟩⟩⟩⟩⟩⟩⟩⟩⟩⟩⟩⟩⟩⟩⟩
theorem lw_p48 : lw_okq (⟨"BoathouseKeyModel", "load", "()V"⟩, 59) := ⟨⟨by decide +kernel, by decide +kernel⟩, List.mem_of_getElem? (i := 1020) (by decide +kernel), List.mem_of_getElem? (i := 1329) (by decide +kernel), List.mem_of_getElem? (i := 1330) (by decide +kernel)⟩
theorem lw_p49 : lw_okq (⟨"BoathouseKeyModel", "pass", "(IIZ)I"⟩, 59) := ⟨⟨by decide +kernel, by decide +kernel⟩, List.mem_of_getElem? (i := 1020) (by decide +kernel), List.mem_of_getElem? (i := 1333) (by decide +kernel), List.mem_of_getElem? (i := 1334) (by decide +kernel)⟩
theorem lw_p50 : lw_okq (⟨"BoathouseKeyModel", "comes", "(II)Z"⟩, 59) := ⟨⟨by decide +kernel, by decide +kernel⟩, List.mem_of_getElem? (i := 1020) (by decide +kernel), List.mem_of_getElem? (i := 1337) (by decide +kernel), List.mem_of_getElem? (i := 1338) (by decide +kernel)⟩
theorem lw_p51 : lw_okq (⟨"BoathouseKeyModel", "isOpen", "(II)Z"⟩, 59) := ⟨⟨by decide +kernel, by decide +kernel⟩, List.mem_of_getElem? (i := 1020) (by decide +kernel), List.mem_of_getElem? (i := 1341) (by decide +kernel), List.mem_of_getElem? (i := 1342) (by decide +kernel)⟩
theorem lw_p52 : lw_okq (⟨"BoathouseKeyModel", "firstAt", "(I)I"⟩, 59) := ⟨⟨by decide +kernel, by decide +kernel⟩, List.mem_of_getElem? (i := 1020) (by decide +kernel), List.mem_of_getElem? (i := 1345) (by decide +kernel), List.mem_of_getElem? (i := 1346) (by decide +kernel)⟩
theorem lw_p53 : lw_okq (⟨"BoathouseKeyModel", "leave", "(IIIZ)V"⟩, 59) := ⟨⟨by decide +kernel, by decide +kernel⟩, List.mem_of_getElem? (i := 1020) (by decide +kernel), List.mem_of_getElem? (i := 1349) (by decide +kernel), List.mem_of_getElem? (i := 1350) (by decide +kernel)⟩
theorem lw_p54 : lw_okq (⟨"BoathouseKeyModel", "noBegin", "(I)Z"⟩, 59) := ⟨⟨by decide +kernel, by decide +kernel⟩, List.mem_of_getElem? (i := 1020) (by decide +kernel), List.mem_of_getElem? (i := 1361) (by decide +kernel), List.mem_of_getElem? (i := 1362) (by decide +kernel)⟩
theorem lw_p55 : lw_okq (⟨"BoathouseKeyModel", "go", "(III)V"⟩, 59) := ⟨⟨by decide +kernel, by decide +kernel⟩, List.mem_of_getElem? (i := 1020) (by decide +kernel), List.mem_of_getElem? (i := 1383) (by decide +kernel), List.mem_of_getElem? (i := 1384) (by decide +kernel)⟩
theorem lw_p56 : lw_okq (⟨"BoathouseKeyModel", "start", "(I)V"⟩, 59) := ⟨⟨by decide +kernel, by decide +kernel⟩, List.mem_of_getElem? (i := 1020) (by decide +kernel), List.mem_of_getElem? (i := 1387) (by decide +kernel), List.mem_of_getElem? (i := 1388) (by decide +kernel)⟩
theorem lw_p57 : lw_okq (⟨"BoathouseKeyModel", "runEver", "(II)V"⟩, 59) := ⟨⟨by decide +kernel, by decide +kernel⟩, List.mem_of_getElem? (i := 1020) (by decide +kernel), List.mem_of_getElem? (i := 1404) (by decide +kernel), List.mem_of_getElem? (i := 1405) (by decide +kernel)⟩
theorem lw_p58 : lw_okq (⟨"BoathouseKeyModel", "isNever", "(II)Z"⟩, 59) := ⟨⟨by decide +kernel, by decide +kernel⟩, List.mem_of_getElem? (i := 1020) (by decide +kernel), List.mem_of_getElem? (i := 1412) (by decide +kernel), List.mem_of_getElem? (i := 1413) (by decide +kernel)⟩
theorem lw_p59 : lw_okq (⟨"BoathouseKeyModel", "layWay", "(II)V"⟩, 59) := ⟨⟨by decide +kernel, by decide +kernel⟩, List.mem_of_getElem? (i := 1020) (by decide +kernel), List.mem_of_getElem? (i := 1432) (by decide +kernel), List.mem_of_getElem? (i := 1433) (by decide +kernel)⟩
theorem lw_p60 : lw_okq (⟨"BoathouseKeyModel", "layLeft", "(III)V"⟩, 59) := ⟨⟨by decide +kernel, by decide +kernel⟩, List.mem_of_getElem? (i := 1020) (by decide +kernel), List.mem_of_getElem? (i := 1436) (by decide +kernel), List.mem_of_getElem? (i := 1437) (by decide +kernel)⟩
theorem lw_p61 : lw_okq (⟨"BoathouseKeyModel", "isPlaceOfKey", "(II)Z"⟩, 59) := ⟨⟨by decide +kernel, by decide +kernel⟩, List.mem_of_getElem? (i := 1020) (by decide +kernel), List.mem_of_getElem? (i := 1441) (by decide +kernel), List.mem_of_getElem? (i := 1442) (by decide +kernel)⟩
theorem lw_p62 : lw_okq (⟨"BoathouseKeyModel", "going", "(I)I"⟩, 59) := ⟨⟨by decide +kernel, by decide +kernel⟩, List.mem_of_getElem? (i := 1020) (by decide +kernel), List.mem_of_getElem? (i := 1445) (by decide +kernel), List.mem_of_getElem? (i := 1446) (by decide +kernel)⟩
theorem lw_p63 : lw_okq (⟨"BoathouseKeyModel", "step", "(IIIII)I"⟩, 59) := ⟨⟨by decide +kernel, by decide +kernel⟩, List.mem_of_getElem? (i := 1020) (by decide +kernel), List.mem_of_getElem? (i := 1449) (by decide +kernel), List.mem_of_getElem? (i := 1450) (by decide +kernel)⟩
def lw_privs_4 : List (MethodName × Nat) := [(⟨"BoathouseKeyModel", "load", "()V"⟩, 59), (⟨"BoathouseKeyModel", "pass", "(IIZ)I"⟩, 59), (⟨"BoathouseKeyModel", "comes", "(II)Z"⟩, 59), (⟨"BoathouseKeyModel", "isOpen", "(II)Z"⟩, 59), (⟨"BoathouseKeyModel", "firstAt", "(I)I"⟩, 59), (⟨"BoathouseKeyModel", "leave", "(IIIZ)V"⟩, 59), (⟨"BoathouseKeyModel", "noBegin", "(I)Z"⟩, 59), (⟨"BoathouseKeyModel", "go", "(III)V"⟩, 59), (⟨"BoathouseKeyModel", "start", "(I)V"⟩, 59), (⟨"BoathouseKeyModel", "runEver", "(II)V"⟩, 59), (⟨"BoathouseKeyModel", "isNever", "(II)Z"⟩, 59), (⟨"BoathouseKeyModel", "layWay", "(II)V"⟩, 59), (⟨"BoathouseKeyModel", "layLeft", "(III)V"⟩, 59), (⟨"BoathouseKeyModel", "isPlaceOfKey", "(II)Z"⟩, 59), (⟨"BoathouseKeyModel", "going", "(I)I"⟩, 59), (⟨"BoathouseKeyModel", "step", "(IIIII)I"⟩, 59)]
theorem lw_r4 : ∀ q ∈ lw_privs_4, lw_okq q := List.forall_mem_cons.mpr ⟨lw_p48, List.forall_mem_cons.mpr ⟨lw_p49, List.forall_mem_cons.mpr ⟨lw_p50, List.forall_mem_cons.mpr ⟨lw_p51, List.forall_mem_cons.mpr ⟨lw_p52, List.forall_mem_cons.mpr ⟨lw_p53, List.forall_mem_cons.mpr ⟨lw_p54, List.forall_mem_cons.mpr ⟨lw_p55, List.forall_mem_cons.mpr ⟨lw_p56, List.forall_mem_cons.mpr ⟨lw_p57, List.forall_mem_cons.mpr ⟨lw_p58, List.forall_mem_cons.mpr ⟨lw_p59, List.forall_mem_cons.mpr ⟨lw_p60, List.forall_mem_cons.mpr ⟨lw_p61, List.forall_mem_cons.mpr ⟨lw_p62, List.forall_mem_cons.mpr ⟨lw_p63, fun _ h => absurd h List.not_mem_nil⟩⟩⟩⟩⟩⟩⟩⟩⟩⟩⟩⟩⟩⟩⟩⟩
theorem lw_p64 : lw_okq (⟨"BoathouseKeyModel", "layActs", "(III)V"⟩, 59) := ⟨⟨by decide +kernel, by decide +kernel⟩, List.mem_of_getElem? (i := 1020) (by decide +kernel), List.mem_of_getElem? (i := 1453) (by decide +kernel), List.mem_of_getElem? (i := 1454) (by decide +kernel)⟩
theorem lw_p65 : lw_okq (⟨"BoathouseKeyModel", "findBrief", "(III)I"⟩, 59) := ⟨⟨by decide +kernel, by decide +kernel⟩, List.mem_of_getElem? (i := 1020) (by decide +kernel), List.mem_of_getElem? (i := 1473) (by decide +kernel), List.mem_of_getElem? (i := 1474) (by decide +kernel)⟩
theorem lw_p66 : lw_okq (⟨"BoathouseKeyModel", "tryShort", "(II)V"⟩, 59) := ⟨⟨by decide +kernel, by decide +kernel⟩, List.mem_of_getElem? (i := 1020) (by decide +kernel), List.mem_of_getElem? (i := 1477) (by decide +kernel), List.mem_of_getElem? (i := 1478) (by decide +kernel)⟩
theorem lw_p67 : lw_okq (⟨"BoathouseKeyModel", "mayBegin", "(II)Z"⟩, 59) := ⟨⟨by decide +kernel, by decide +kernel⟩, List.mem_of_getElem? (i := 1020) (by decide +kernel), List.mem_of_getElem? (i := 1507) (by decide +kernel), List.mem_of_getElem? (i := 1508) (by decide +kernel)⟩
theorem lw_p68 : lw_okq (⟨"BoathouseKeyModel", "putAt", "(II)V"⟩, 59) := ⟨⟨by decide +kernel, by decide +kernel⟩, List.mem_of_getElem? (i := 1020) (by decide +kernel), List.mem_of_getElem? (i := 1511) (by decide +kernel), List.mem_of_getElem? (i := 1512) (by decide +kernel)⟩
theorem lw_p69 : lw_okq (⟨"BoathouseKeyModel", "expect", "(IIZ)J"⟩, 59) := ⟨⟨by decide +kernel, by decide +kernel⟩, List.mem_of_getElem? (i := 1020) (by decide +kernel), List.mem_of_getElem? (i := 1527) (by decide +kernel), List.mem_of_getElem? (i := 1528) (by decide +kernel)⟩
theorem lw_p70 : lw_okq (⟨"BoathouseKeyModel", "forgetting", "(IIII)J"⟩, 59) := ⟨⟨by decide +kernel, by decide +kernel⟩, List.mem_of_getElem? (i := 1020) (by decide +kernel), List.mem_of_getElem? (i := 1531) (by decide +kernel), List.mem_of_getElem? (i := 1532) (by decide +kernel)⟩
theorem lw_p71 : lw_okq (⟨"BoathouseKeyModel", "layChances", "(III)V"⟩, 59) := ⟨⟨by decide +kernel, by decide +kernel⟩, List.mem_of_getElem? (i := 1020) (by decide +kernel), List.mem_of_getElem? (i := 1546) (by decide +kernel), List.mem_of_getElem? (i := 1547) (by decide +kernel)⟩
theorem lw_p72 : lw_okq (⟨"BoathouseKeyModel", "mayLie", "(II)Z"⟩, 59) := ⟨⟨by decide +kernel, by decide +kernel⟩, List.mem_of_getElem? (i := 1020) (by decide +kernel), List.mem_of_getElem? (i := 1554) (by decide +kernel), List.mem_of_getElem? (i := 1555) (by decide +kernel)⟩
theorem lw_p73 : lw_okq (⟨"BoathouseKeyModel", "isAhead", "(II)Z"⟩, 59) := ⟨⟨by decide +kernel, by decide +kernel⟩, List.mem_of_getElem? (i := 1020) (by decide +kernel), List.mem_of_getElem? (i := 1558) (by decide +kernel), List.mem_of_getElem? (i := 1559) (by decide +kernel)⟩
def lw_privs_5 : List (MethodName × Nat) := [(⟨"BoathouseKeyModel", "layActs", "(III)V"⟩, 59), (⟨"BoathouseKeyModel", "findBrief", "(III)I"⟩, 59), (⟨"BoathouseKeyModel", "tryShort", "(II)V"⟩, 59), (⟨"BoathouseKeyModel", "mayBegin", "(II)Z"⟩, 59), (⟨"BoathouseKeyModel", "putAt", "(II)V"⟩, 59), (⟨"BoathouseKeyModel", "expect", "(IIZ)J"⟩, 59), (⟨"BoathouseKeyModel", "forgetting", "(IIII)J"⟩, 59), (⟨"BoathouseKeyModel", "layChances", "(III)V"⟩, 59), (⟨"BoathouseKeyModel", "mayLie", "(II)Z"⟩, 59), (⟨"BoathouseKeyModel", "isAhead", "(II)Z"⟩, 59)]
theorem lw_r5 : ∀ q ∈ lw_privs_5, lw_okq q := List.forall_mem_cons.mpr ⟨lw_p64, List.forall_mem_cons.mpr ⟨lw_p65, List.forall_mem_cons.mpr ⟨lw_p66, List.forall_mem_cons.mpr ⟨lw_p67, List.forall_mem_cons.mpr ⟨lw_p68, List.forall_mem_cons.mpr ⟨lw_p69, List.forall_mem_cons.mpr ⟨lw_p70, List.forall_mem_cons.mpr ⟨lw_p71, List.forall_mem_cons.mpr ⟨lw_p72, List.forall_mem_cons.mpr ⟨lw_p73, fun _ h => absurd h List.not_mem_nil⟩⟩⟩⟩⟩⟩⟩⟩⟩⟩
def lw_privs : List (MethodName × Nat) := lw_privs_1 ++ (lw_privs_2 ++ (lw_privs_3 ++ (lw_privs_4 ++ (lw_privs_5))))
def lw_tbl : List Cond := k2_sels lw_privs ++ tables_1
theorem lw_privs_ok : ∀ q ∈ lw_privs, lw_okq q := by
  show ∀ q ∈ lw_privs_1 ++ (lw_privs_2 ++ (lw_privs_3 ++ (lw_privs_4 ++ (lw_privs_5)))), lw_okq q
  exact List.forall_mem_append.mpr ⟨lw_r1, List.forall_mem_append.mpr ⟨lw_r2, List.forall_mem_append.mpr ⟨lw_r3, List.forall_mem_append.mpr ⟨lw_r4, lw_r5⟩⟩⟩⟩
def RX0 : String := "BoathouseKey$Chances"
def TX0 : u_T := fun k => match k with
  | 0 => ("BoathouseKey$Chances", "stood", "J", false)
  | 1 => ("BoathouseKey$Chances", "nobodyStood", "J", false)
  | 2 => ("BoathouseKey$Chances", "keyAt", "[J", true)
  | _ => ("BoathouseKey$Chances", "oneWeek", "LBoathouseKey$Week;", true)
def tyX0 : Nat → FieldType := fun k => match k with
  | 0 => .long
  | 1 => .long
  | 2 => .array .long
  | _ => .object "BoathouseKey$Week"
abbrev wsX00 : List Cond := u_ws RX0 TX0 4
theorem nmX0 : ∀ a, a < 4 → ∀ b, b < 4 → a ≠ b → (TX0 a).2.1 ≠ (TX0 b).2.1 := by decide +kernel
theorem tyX0_ok : ∀ k, k < 4 → parseFieldDescriptor (TX0 k).2.2.1 = some (tyX0 k) := by decide +kernel
abbrev cX0_init : ByteArray := prog_2_method_1_code
def yX0_init : MethodName := ⟨RX0, "<init>", "()V"⟩
abbrev cX0_gather : ByteArray := prog_2_method_2_code
def yX0_gather : MethodName := ⟨RX0, "gather", "(LBoathouseKey$Club;LBoathouseKey$Rule;II)V"⟩
abbrev cX0_weightOf : ByteArray := prog_2_method_3_code
def yX0_weightOf : MethodName := ⟨RX0, "weightOf", "(II)J"⟩
abbrev cX0_addWeek : ByteArray := prog_2_method_4_code
def yX0_addWeek : MethodName := ⟨RX0, "addWeek", "(JI)V"⟩
abbrev cX0_placeToLook : ByteArray := prog_2_method_5_code
def yX0_placeToLook : MethodName := ⟨RX0, "placeToLook", "(LBoathouseKey$Club;II)I"⟩
abbrev cX0_mayLieOpen : ByteArray := prog_2_method_6_code
def yX0_mayLieOpen : MethodName := ⟨RX0, "mayLieOpen", "(LBoathouseKey$Club;II)Z"⟩
abbrev cX0_aheadOf : ByteArray := prog_2_method_7_code
def yX0_aheadOf : MethodName := ⟨RX0, "aheadOf", "(LBoathouseKey$Club;II)I"⟩
def RX1 : String := "BoathouseKey$Club"
def TX1 : u_T := fun k => match k with
  | 0 => ("BoathouseKey$Club", "people", "I", false)
  | 1 => ("BoathouseKey$Club", "sessions", "I", false)
  | 2 => ("BoathouseKey$Club", "places", "I", false)
  | 3 => ("BoathouseKey$Club", "forgetTenths", "I", false)
  | 4 => ("BoathouseKey$Club", "ownKeys", "I", false)
  | 5 => ("BoathouseKey$Club", "person", "[I", true)
  | 6 => ("BoathouseKey$Club", "first", "[I", true)
  | 7 => ("BoathouseKey$Club", "last", "[I", true)
  | 8 => ("BoathouseKey$Club", "minutes", "[I", true)
  | 9 => ("BoathouseKey$Club", "risk", "[I", true)
  | 10 => ("BoathouseKey$Club", "openFirst", "[I", true)
  | 11 => ("BoathouseKey$Club", "openLast", "[I", true)
  | 12 => ("BoathouseKey$Club", "homeMinutes", "[I", true)
  | 13 => ("BoathouseKey$Club", "beginning", "[I", true)
  | 14 => ("BoathouseKey$Club", "ending", "[I", true)
  | 15 => ("BoathouseKey$Club", "comer", "[I", true)
  | _ => ("BoathouseKey$Club", "nextComer", "[I", true)
def tyX1 : Nat → FieldType := fun k => match k with
  | 0 => .int
  | 1 => .int
  | 2 => .int
  | 3 => .int
  | 4 => .int
  | 5 => .array .int
  | 6 => .array .int
  | 7 => .array .int
  | 8 => .array .int
  | 9 => .array .int
  | 10 => .array .int
  | 11 => .array .int
  | 12 => .array .int
  | 13 => .array .int
  | 14 => .array .int
  | 15 => .array .int
  | _ => .array .int
abbrev wsX10 : List Cond := u_ws RX1 TX1 17
theorem nmX1 : ∀ a, a < 17 → ∀ b, b < 17 → a ≠ b → (TX1 a).2.1 ≠ (TX1 b).2.1 := by decide +kernel
theorem tyX1_ok : ∀ k, k < 17 → parseFieldDescriptor (TX1 k).2.2.1 = some (tyX1 k) := by decide +kernel
abbrev cX1_init : ByteArray := prog_3_method_1_code
def yX1_init : MethodName := ⟨RX1, "<init>", "()V"⟩
abbrev cX1_clear : ByteArray := prog_3_method_2_code
def yX1_clear : MethodName := ⟨RX1, "clear", "()V"⟩
abbrev cX1_isPerson : ByteArray := prog_3_method_3_code
def yX1_isPerson : MethodName := ⟨RX1, "isPerson", "(I)Z"⟩
abbrev cX1_isSession : ByteArray := prog_3_method_4_code
def yX1_isSession : MethodName := ⟨RX1, "isSession", "(I)Z"⟩
abbrev cX1_isPlace : ByteArray := prog_3_method_5_code
def yX1_isPlace : MethodName := ⟨RX1, "isPlace", "(I)Z"⟩
abbrev cX1_isBegin : ByteArray := prog_3_method_6_code
def yX1_isBegin : MethodName := ⟨RX1, "isBegin", "(I)Z"⟩
abbrev cX1_isOpen : ByteArray := prog_3_method_7_code
def yX1_isOpen : MethodName := ⟨RX1, "isOpen", "(II)Z"⟩
abbrev cX1_hasOwnKey : ByteArray := prog_3_method_8_code
def yX1_hasOwnKey : MethodName := ⟨RX1, "hasOwnKey", "(I)Z"⟩
abbrev cX1_addSession : ByteArray := prog_3_method_9_code
def yX1_addSession : MethodName := ⟨RX1, "addSession", "(III)V"⟩
abbrev cX1_addPlace : ByteArray := prog_3_method_10_code
def yX1_addPlace : MethodName := ⟨RX1, "addPlace", "(III)V"⟩
abbrev cX1_openBetween : ByteArray := prog_3_method_11_code
def yX1_openBetween : MethodName := ⟨RX1, "openBetween", "(III)V"⟩
abbrev cX1_mayBegin : ByteArray := prog_3_method_12_code
def yX1_mayBegin : MethodName := ⟨RX1, "mayBegin", "(II)Z"⟩
abbrev cX1_beginAt : ByteArray := prog_3_method_13_code
def yX1_beginAt : MethodName := ⟨RX1, "beginAt", "(II)V"⟩
abbrev cX1_arrange : ByteArray := prog_3_method_14_code
def yX1_arrange : MethodName := ⟨RX1, "arrange", "()V"⟩
abbrev cX1_under : ByteArray := prog_3_method_15_code
def yX1_under : MethodName := ⟨RX1, "under", "(I)I"⟩
abbrev cX1_personOfLeast : ByteArray := prog_3_method_16_code
def yX1_personOfLeast : MethodName := ⟨RX1, "personOfLeast", "(I)I"⟩
def RX2 : String := "BoathouseKey$ClubReader"
def TX2 : u_T := fun k => match k with
  | 0 => ("BoathouseKey$ClubReader", "letter", "I", false)
  | 1 => ("BoathouseKey$ClubReader", "figures", "I", false)
  | 2 => ("BoathouseKey$ClubReader", "one", "I", false)
  | 3 => ("BoathouseKey$ClubReader", "two", "I", false)
  | 4 => ("BoathouseKey$ClubReader", "openTold", "I", false)
  | 5 => ("BoathouseKey$ClubReader", "homesTold", "I", false)
  | _ => ("BoathouseKey$ClubReader", "busy", "[I", true)
def tyX2 : Nat → FieldType := fun k => match k with
  | 0 => .int
  | 1 => .int
  | 2 => .int
  | 3 => .int
  | 4 => .int
  | 5 => .int
  | _ => .array .int
abbrev wsX20 : List Cond := u_ws RX2 TX2 7
theorem nmX2 : ∀ a, a < 7 → ∀ b, b < 7 → a ≠ b → (TX2 a).2.1 ≠ (TX2 b).2.1 := by decide +kernel
theorem tyX2_ok : ∀ k, k < 7 → parseFieldDescriptor (TX2 k).2.2.1 = some (tyX2 k) := by decide +kernel
abbrev cX2_init : ByteArray := prog_4_method_1_code
def yX2_init : MethodName := ⟨RX2, "<init>", "()V"⟩
abbrev cX2_faultIn : ByteArray := prog_4_method_2_code
def yX2_faultIn : MethodName := ⟨RX2, "faultIn", "([BILBoathouseKey$Club;)I"⟩
abbrev cX2_takes : ByteArray := prog_4_method_3_code
def yX2_takes : MethodName := ⟨RX2, "takes", "(ILBoathouseKey$Club;)Z"⟩
abbrev cX2_mayFollow : ByteArray := prog_4_method_4_code
def yX2_mayFollow : MethodName := ⟨RX2, "mayFollow", "(ILBoathouseKey$Club;)Z"⟩
abbrev cX2_somebodyHasTime : ByteArray := prog_4_method_5_code
def yX2_somebodyHasTime : MethodName := ⟨RX2, "somebodyHasTime", "(LBoathouseKey$Club;)Z"⟩
abbrev cX2_hasTime : ByteArray := prog_4_method_6_code
def yX2_hasTime : MethodName := ⟨RX2, "hasTime", "(ILBoathouseKey$Club;)Z"⟩
abbrev cX2_noteFigure : ByteArray := prog_4_method_7_code
def yX2_noteFigure : MethodName := ⟨RX2, "noteFigure", "(ILBoathouseKey$Club;)V"⟩
abbrev cX2_figuresOf : ByteArray := prog_4_method_8_code
def yX2_figuresOf : MethodName := ⟨RX2, "figuresOf", "(I)I"⟩
abbrev cX2_isRight : ByteArray := prog_4_method_9_code
def yX2_isRight : MethodName := ⟨RX2, "isRight", "(ILBoathouseKey$Club;)Z"⟩
abbrev cX2_isRightInSession : ByteArray := prog_4_method_10_code
def yX2_isRightInSession : MethodName := ⟨RX2, "isRightInSession", "(ILBoathouseKey$Club;)Z"⟩
abbrev cX2_isRightInOpen : ByteArray := prog_4_method_11_code
def yX2_isRightInOpen : MethodName := ⟨RX2, "isRightInOpen", "(ILBoathouseKey$Club;)Z"⟩
abbrev cX2_hoursBetween : ByteArray := prog_4_method_12_code
def yX2_hoursBetween : MethodName := ⟨RX2, "hoursBetween", "(II)I"⟩
abbrev cX2_endPart : ByteArray := prog_4_method_13_code
def yX2_endPart : MethodName := ⟨RX2, "endPart", "(ILBoathouseKey$Club;)V"⟩
def RX3 : String := "BoathouseKey$Live"
def TX3 : u_T := fun k => match k with
  | 0 => ("BoathouseKey$Live", "hour", "I", false)
  | 1 => ("BoathouseKey$Live", "key", "I", false)
  | 2 => ("BoathouseKey$Live", "inside", "I", false)
  | 3 => ("BoathouseKey$Live", "outside", "I", false)
  | 4 => ("BoathouseKey$Live", "walked", "I", false)
  | 5 => ("BoathouseKey$Live", "risk", "I", false)
  | 6 => ("BoathouseKey$Live", "stood", "I", false)
  | 7 => ("BoathouseKey$Live", "stoodNow", "I", false)
  | _ => ("BoathouseKey$Live", "acted", "Z", false)
def tyX3 : Nat → FieldType := fun k => match k with
  | 0 => .int
  | 1 => .int
  | 2 => .int
  | 3 => .int
  | 4 => .int
  | 5 => .int
  | 6 => .int
  | 7 => .int
  | _ => .boolean
abbrev wsX30 : List Cond := u_ws RX3 TX3 9
theorem nmX3 : ∀ a, a < 9 → ∀ b, b < 9 → a ≠ b → (TX3 a).2.1 ≠ (TX3 b).2.1 := by decide +kernel
theorem tyX3_ok : ∀ k, k < 9 → parseFieldDescriptor (TX3 k).2.2.1 = some (tyX3 k) := by decide +kernel
abbrev cX3_init : ByteArray := prog_5_method_1_code
def yX3_init : MethodName := ⟨RX3, "<init>", "()V"⟩
abbrev cX3_startAt : ByteArray := prog_5_method_2_code
def yX3_startAt : MethodName := ⟨RX3, "startAt", "(I)V"⟩
abbrev cX3_startIn : ByteArray := prog_5_method_3_code
def yX3_startIn : MethodName := ⟨RX3, "startIn", "(III)V"⟩
abbrev cX3_copyOf : ByteArray := prog_5_method_4_code
def yX3_copyOf : MethodName := ⟨RX3, "copyOf", "(LBoathouseKey$Live;)V"⟩
abbrev cX3_passHour : ByteArray := prog_5_method_5_code
def yX3_passHour : MethodName := ⟨RX3, "passHour", "(LBoathouseKey$Club;IZ)V"⟩
abbrev cX3_somebodyOpens : ByteArray := prog_5_method_6_code
def yX3_somebodyOpens : MethodName := ⟨RX3, "somebodyOpens", "(LBoathouseKey$Club;)Z"⟩
abbrev cX3_letGo : ByteArray := prog_5_method_7_code
def yX3_letGo : MethodName := ⟨RX3, "letGo", "(LBoathouseKey$Club;)I"⟩
abbrev cX3_handOn : ByteArray := prog_5_method_8_code
def yX3_handOn : MethodName := ⟨RX3, "handOn", "(LBoathouseKey$Club;IIZ)V"⟩
def RX4 : String := "BoathouseKey$Ring"
def TX4 : u_T := fun k => match k with
  | 0 => ("BoathouseKey$Ring", "lead", "I", false)
  | 1 => ("BoathouseKey$Ring", "weeks", "I", false)
  | 2 => ("BoathouseKey$Ring", "walked", "I", false)
  | 3 => ("BoathouseKey$Ring", "risk", "I", false)
  | 4 => ("BoathouseKey$Ring", "stood", "I", false)
  | 5 => ("BoathouseKey$Ring", "oneWeek", "LBoathouseKey$Week;", true)
  | _ => ("BoathouseKey$Ring", "nextSpot", "[I", true)
def tyX4 : Nat → FieldType := fun k => match k with
  | 0 => .int
  | 1 => .int
  | 2 => .int
  | 3 => .int
  | 4 => .int
  | 5 => .object "BoathouseKey$Week"
  | _ => .array .int
abbrev wsX40 : List Cond := u_ws RX4 TX4 7
theorem nmX4 : ∀ a, a < 7 → ∀ b, b < 7 → a ≠ b → (TX4 a).2.1 ≠ (TX4 b).2.1 := by decide +kernel
theorem tyX4_ok : ∀ k, k < 7 → parseFieldDescriptor (TX4 k).2.2.1 = some (tyX4 k) := by decide +kernel
abbrev cX4_init : ByteArray := prog_6_method_1_code
def yX4_init : MethodName := ⟨RX4, "<init>", "()V"⟩
abbrev cX4_run : ByteArray := prog_6_method_2_code
def yX4_run : MethodName := ⟨RX4, "run", "(LBoathouseKey$Club;LBoathouseKey$Rule;I)V"⟩
abbrev cX4_followWeeks : ByteArray := prog_6_method_3_code
def yX4_followWeeks : MethodName := ⟨RX4, "followWeeks", "(LBoathouseKey$Club;LBoathouseKey$Rule;I)I"⟩
abbrev cX4_weeksBetween : ByteArray := prog_6_method_4_code
def yX4_weeksBetween : MethodName := ⟨RX4, "weeksBetween", "(II)I"⟩
abbrev cX4_nobodyStands : ByteArray := prog_6_method_5_code
def yX4_nobodyStands : MethodName := ⟨RX4, "nobodyStands", "(LBoathouseKey$Club;LBoathouseKey$Rule;I)Z"⟩
def RX5 : String := "BoathouseKey$Rule"
def TX5 : u_T := fun k => match k with
  | 0 => ("BoathouseKey$Rule", "acts", "[I", true)
  | _ => ("BoathouseKey$Rule", "exceptions", "I", false)
def tyX5 : Nat → FieldType := fun k => match k with
  | 0 => .array .int
  | _ => .int
abbrev wsX50 : List Cond := u_ws RX5 TX5 2
theorem nmX5 : ∀ a, a < 2 → ∀ b, b < 2 → a ≠ b → (TX5 a).2.1 ≠ (TX5 b).2.1 := by decide +kernel
theorem tyX5_ok : ∀ k, k < 2 → parseFieldDescriptor (TX5 k).2.2.1 = some (tyX5 k) := by decide +kernel
abbrev cX5_init : ByteArray := prog_7_method_1_code
def yX5_init : MethodName := ⟨RX5, "<init>", "()V"⟩
abbrev cX5_clear : ByteArray := prog_7_method_2_code
def yX5_clear : MethodName := ⟨RX5, "clear", "()V"⟩
abbrev cX5_isTold : ByteArray := prog_7_method_3_code
def yX5_isTold : MethodName := ⟨RX5, "isTold", "(I)Z"⟩
abbrev cX5_actAt : ByteArray := prog_7_method_4_code
def yX5_actAt : MethodName := ⟨RX5, "actAt", "(I)I"⟩
abbrev cX5_except : ByteArray := prog_7_method_5_code
def yX5_except : MethodName := ⟨RX5, "except", "(II)V"⟩
abbrev cX5_otherwise : ByteArray := prog_7_method_6_code
def yX5_otherwise : MethodName := ⟨RX5, "otherwise", "(I)V"⟩
abbrev cX5_setShort : ByteArray := prog_7_method_7_code
def yX5_setShort : MethodName := ⟨RX5, "setShort", "(I)V"⟩
abbrev cX5_copyOf : ByteArray := prog_7_method_8_code
def yX5_copyOf : MethodName := ⟨RX5, "copyOf", "(LBoathouseKey$Rule;)V"⟩
def RX6 : String := "BoathouseKey$RuleReader"
def TX6 : u_T := fun k => match k with
  | 0 => ("BoathouseKey$RuleReader", "ended", "Z", false)
  | 1 => ("BoathouseKey$RuleReader", "wantsPlace", "Z", false)
  | _ => ("BoathouseKey$RuleReader", "hour", "I", false)
def tyX6 : Nat → FieldType := fun k => match k with
  | 0 => .boolean
  | 1 => .boolean
  | _ => .int
abbrev wsX60 : List Cond := u_ws RX6 TX6 3
theorem nmX6 : ∀ a, a < 3 → ∀ b, b < 3 → a ≠ b → (TX6 a).2.1 ≠ (TX6 b).2.1 := by decide +kernel
theorem tyX6_ok : ∀ k, k < 3 → parseFieldDescriptor (TX6 k).2.2.1 = some (tyX6 k) := by decide +kernel
abbrev cX6_init : ByteArray := prog_8_method_1_code
def yX6_init : MethodName := ⟨RX6, "<init>", "()V"⟩
abbrev cX6_faultIn : ByteArray := prog_8_method_2_code
def yX6_faultIn : MethodName := ⟨RX6, "faultIn", "([BILBoathouseKey$Rule;)I"⟩
abbrev cX6_takes : ByteArray := prog_8_method_3_code
def yX6_takes : MethodName := ⟨RX6, "takes", "(ILBoathouseKey$Rule;)Z"⟩
abbrev cX6_takesPlace : ByteArray := prog_8_method_4_code
def yX6_takesPlace : MethodName := ⟨RX6, "takesPlace", "(ILBoathouseKey$Rule;)Z"⟩
abbrev cX6_takesHour : ByteArray := prog_8_method_5_code
def yX6_takesHour : MethodName := ⟨RX6, "takesHour", "(ILBoathouseKey$Rule;)Z"⟩
abbrev cX6_endAct : ByteArray := prog_8_method_6_code
def yX6_endAct : MethodName := ⟨RX6, "endAct", "(ILBoathouseKey$Rule;)V"⟩
def RX7 : String := "BoathouseKey$ShortRules"
def TX7 : u_T := fun k => match k with
  | 0 => ("BoathouseKey$ShortRules", "number", "I", false)
  | 1 => ("BoathouseKey$ShortRules", "price", "I", false)
  | 2 => ("BoathouseKey$ShortRules", "weeks", "I", false)
  | 3 => ("BoathouseKey$ShortRules", "a", "I", false)
  | 4 => ("BoathouseKey$ShortRules", "b", "I", false)
  | 5 => ("BoathouseKey$ShortRules", "ringPrice", "I", false)
  | 6 => ("BoathouseKey$ShortRules", "ringWeeks", "I", false)
  | 7 => ("BoathouseKey$ShortRules", "steps", "LBoathouseKey$Steps;", true)
  | 8 => ("BoathouseKey$ShortRules", "trial", "LBoathouseKey$Rule;", true)
  | 9 => ("BoathouseKey$ShortRules", "weekOf", "[I", true)
  | _ => ("BoathouseKey$ShortRules", "priceTill", "[I", true)
def tyX7 : Nat → FieldType := fun k => match k with
  | 0 => .int
  | 1 => .int
  | 2 => .int
  | 3 => .int
  | 4 => .int
  | 5 => .int
  | 6 => .int
  | 7 => .object "BoathouseKey$Steps"
  | 8 => .object "BoathouseKey$Rule"
  | 9 => .array .int
  | _ => .array .int
abbrev wsX70 : List Cond := u_ws RX7 TX7 11
theorem nmX7 : ∀ a, a < 11 → ∀ b, b < 11 → a ≠ b → (TX7 a).2.1 ≠ (TX7 b).2.1 := by decide +kernel
theorem tyX7_ok : ∀ k, k < 11 → parseFieldDescriptor (TX7 k).2.2.1 = some (tyX7 k) := by decide +kernel
abbrev cX7_init : ByteArray := prog_9_method_1_code
def yX7_init : MethodName := ⟨RX7, "<init>", "(LBoathouseKey$Steps;)V"⟩
abbrev cX7_seek : ByteArray := prog_9_method_2_code
def yX7_seek : MethodName := ⟨RX7, "seek", "(LBoathouseKey$Club;III)V"⟩
abbrev cX7_nobodyStands : ByteArray := prog_9_method_3_code
def yX7_nobodyStands : MethodName := ⟨RX7, "nobodyStands", "(I)Z"⟩
def RX8 : String := "BoathouseKey$Steps"
def TX8 : u_T := fun k => match k with
  | 0 => ("BoathouseKey$Steps", "next", "[I", true)
  | 1 => ("BoathouseKey$Steps", "walk", "[I", true)
  | 2 => ("BoathouseKey$Steps", "risk", "[I", true)
  | 3 => ("BoathouseKey$Steps", "acted", "[Z", true)
  | _ => ("BoathouseKey$Steps", "probe", "LBoathouseKey$Live;", true)
def tyX8 : Nat → FieldType := fun k => match k with
  | 0 => .array .int
  | 1 => .array .int
  | 2 => .array .int
  | 3 => .array .boolean
  | _ => .object "BoathouseKey$Live"
abbrev wsX80 : List Cond := u_ws RX8 TX8 5
theorem nmX8 : ∀ a, a < 5 → ∀ b, b < 5 → a ≠ b → (TX8 a).2.1 ≠ (TX8 b).2.1 := by decide +kernel
theorem tyX8_ok : ∀ k, k < 5 → parseFieldDescriptor (TX8 k).2.2.1 = some (tyX8 k) := by decide +kernel
abbrev cX8_init : ByteArray := prog_10_method_1_code
def yX8_init : MethodName := ⟨RX8, "<init>", "()V"⟩
abbrev cX8_prepare : ByteArray := prog_10_method_2_code
def yX8_prepare : MethodName := ⟨RX8, "prepare", "(LBoathouseKey$Club;)V"⟩
abbrev cX8_prepareActs : ByteArray := prog_10_method_3_code
def yX8_prepareActs : MethodName := ⟨RX8, "prepareActs", "(LBoathouseKey$Club;III)V"⟩
abbrev cX8_isStep : ByteArray := prog_10_method_4_code
def yX8_isStep : MethodName := ⟨RX8, "isStep", "(III)Z"⟩
abbrev cX8_spotAfter : ByteArray := prog_10_method_5_code
def yX8_spotAfter : MethodName := ⟨RX8, "spotAfter", "(III)I"⟩
abbrev cX8_priceOf : ByteArray := prog_10_method_6_code
def yX8_priceOf : MethodName := ⟨RX8, "priceOf", "(IIIII)I"⟩
abbrev cX8_choicesAt : ByteArray := prog_10_method_7_code
def yX8_choicesAt : MethodName := ⟨RX8, "choicesAt", "(II)I"⟩
def RX9 : String := "BoathouseKey$Ways"
def TX9 : u_T := fun k => match k with
  | 0 => ("BoathouseKey$Ways", "price", "I", false)
  | 1 => ("BoathouseKey$Ways", "begin", "I", false)
  | 2 => ("BoathouseKey$Ways", "acts", "[I", true)
  | 3 => ("BoathouseKey$Ways", "a", "I", false)
  | 4 => ("BoathouseKey$Ways", "b", "I", false)
  | 5 => ("BoathouseKey$Ways", "steps", "LBoathouseKey$Steps;", true)
  | _ => ("BoathouseKey$Ways", "priceToGo", "[I", true)
def tyX9 : Nat → FieldType := fun k => match k with
  | 0 => .int
  | 1 => .int
  | 2 => .array .int
  | 3 => .int
  | 4 => .int
  | 5 => .object "BoathouseKey$Steps"
  | _ => .array .int
abbrev wsX90 : List Cond := u_ws RX9 TX9 7
theorem nmX9 : ∀ a, a < 7 → ∀ b, b < 7 → a ≠ b → (TX9 a).2.1 ≠ (TX9 b).2.1 := by decide +kernel
theorem tyX9_ok : ∀ k, k < 7 → parseFieldDescriptor (TX9 k).2.2.1 = some (tyX9 k) := by decide +kernel
abbrev cX9_init : ByteArray := prog_11_method_1_code
def yX9_init : MethodName := ⟨RX9, "<init>", "(LBoathouseKey$Steps;)V"⟩
abbrev cX9_seek : ByteArray := prog_11_method_2_code
def yX9_seek : MethodName := ⟨RX9, "seek", "(LBoathouseKey$Club;II)V"⟩
abbrev cX9_priceAllTo : ByteArray := prog_11_method_3_code
def yX9_priceAllTo : MethodName := ⟨RX9, "priceAllTo", "(I)V"⟩
abbrev cX9_leastAt : ByteArray := prog_11_method_4_code
def yX9_leastAt : MethodName := ⟨RX9, "leastAt", "(II)I"⟩
abbrev cX9_priceBy : ByteArray := prog_11_method_5_code
def yX9_priceBy : MethodName := ⟨RX9, "priceBy", "(III)I"⟩
abbrev cX9_chooseActs : ByteArray := prog_11_method_6_code
def yX9_chooseActs : MethodName := ⟨RX9, "chooseActs", "(I)V"⟩
abbrev cX9_barringHour : ByteArray := prog_11_method_7_code
def yX9_barringHour : MethodName := ⟨RX9, "barringHour", "(LBoathouseKey$Club;)I"⟩
abbrev cX9_reachedAfter : ByteArray := prog_11_method_8_code
def yX9_reachedAfter : MethodName := ⟨RX9, "reachedAfter", "(II)I"⟩
def RX10 : String := "BoathouseKey$Week"
def TX10 : u_T := fun k => match k with
  | 0 => ("BoathouseKey$Week", "state", "LBoathouseKey$Live;", true)
  | 1 => ("BoathouseKey$Week", "keyAhead", "[I", true)
  | _ => ("BoathouseKey$Week", "stoodAt", "[I", true)
def tyX10 : Nat → FieldType := fun k => match k with
  | 0 => .object "BoathouseKey$Live"
  | 1 => .array .int
  | _ => .array .int
abbrev wsX100 : List Cond := u_ws RX10 TX10 3
theorem nmX10 : ∀ a, a < 3 → ∀ b, b < 3 → a ≠ b → (TX10 a).2.1 ≠ (TX10 b).2.1 := by decide +kernel
theorem tyX10_ok : ∀ k, k < 3 → parseFieldDescriptor (TX10 k).2.2.1 = some (tyX10 k) := by decide +kernel
abbrev cX10_init : ByteArray := prog_12_method_1_code
def yX10_init : MethodName := ⟨RX10, "<init>", "()V"⟩
abbrev cX10_run : ByteArray := prog_12_method_2_code
def yX10_run : MethodName := ⟨RX10, "run", "(LBoathouseKey$Club;LBoathouseKey$Rule;II)V"⟩
def RX11 : String := "BoathouseKey"
def TX11 : u_T := fun k => match k with
  | 0 => ("BoathouseKey", "text", "[B", true)
  | 1 => ("BoathouseKey", "length", "I", false)
  | 2 => ("BoathouseKey", "club", "LBoathouseKey$Club;", false)
  | 3 => ("BoathouseKey", "clubDraft", "LBoathouseKey$Club;", false)
  | 4 => ("BoathouseKey", "clubReader", "LBoathouseKey$ClubReader;", true)
  | 5 => ("BoathouseKey", "rules", "[LBoathouseKey$Rule;", true)
  | 6 => ("BoathouseKey", "ruleDraft", "LBoathouseKey$Rule;", true)
  | 7 => ("BoathouseKey", "ruleReader", "LBoathouseKey$RuleReader;", true)
  | 8 => ("BoathouseKey", "now", "LBoathouseKey$Live;", true)
  | 9 => ("BoathouseKey", "slots", "[LBoathouseKey$Live;", true)
  | 10 => ("BoathouseKey", "kept", "[Z", true)
  | 11 => ("BoathouseKey", "row", "[I", true)
  | 12 => ("BoathouseKey", "plainWeek", "LBoathouseKey$Week;", true)
  | 13 => ("BoathouseKey", "ring", "LBoathouseKey$Ring;", true)
  | 14 => ("BoathouseKey", "steps", "LBoathouseKey$Steps;", true)
  | 15 => ("BoathouseKey", "ways", "LBoathouseKey$Ways;", true)
  | 16 => ("BoathouseKey", "shortRules", "LBoathouseKey$ShortRules;", true)
  | _ => ("BoathouseKey", "chances", "LBoathouseKey$Chances;", true)
def tyX11 : Nat → FieldType := fun k => match k with
  | 0 => .array .byte
  | 1 => .int
  | 2 => .object "BoathouseKey$Club"
  | 3 => .object "BoathouseKey$Club"
  | 4 => .object "BoathouseKey$ClubReader"
  | 5 => .array (.object "BoathouseKey$Rule")
  | 6 => .object "BoathouseKey$Rule"
  | 7 => .object "BoathouseKey$RuleReader"
  | 8 => .object "BoathouseKey$Live"
  | 9 => .array (.object "BoathouseKey$Live")
  | 10 => .array .boolean
  | 11 => .array .int
  | 12 => .object "BoathouseKey$Week"
  | 13 => .object "BoathouseKey$Ring"
  | 14 => .object "BoathouseKey$Steps"
  | 15 => .object "BoathouseKey$Ways"
  | 16 => .object "BoathouseKey$ShortRules"
  | _ => .object "BoathouseKey$Chances"
abbrev wsX110 : List Cond := u_ws RX11 TX11 18
theorem nmX11 : ∀ a, a < 18 → ∀ b, b < 18 → a ≠ b → (TX11 a).2.1 ≠ (TX11 b).2.1 := by decide +kernel
theorem tyX11_ok : ∀ k, k < 18 → parseFieldDescriptor (TX11 k).2.2.1 = some (tyX11 k) := by decide +kernel
abbrev cX11_init : ByteArray := prog_1_method_1_code
def yX11_init : MethodName := ⟨RX11, "<init>", "()V"⟩
abbrev cX11_write : ByteArray := prog_1_method_2_code
def yX11_write : MethodName := ⟨RX11, "write", "(IJ)I"⟩
abbrev cX11_wipe : ByteArray := prog_1_method_3_code
def yX11_wipe : MethodName := ⟨RX11, "wipe", "()I"⟩
abbrev cX11_fault : ByteArray := prog_1_method_4_code
def yX11_fault : MethodName := ⟨RX11, "fault", "(Z)I"⟩
abbrev cX11_make : ByteArray := prog_1_method_5_code
def yX11_make : MethodName := ⟨RX11, "make", "()I"⟩
abbrev cX11_rule : ByteArray := prog_1_method_6_code
def yX11_rule : MethodName := ⟨RX11, "rule", "(I)I"⟩
abbrev cX11_ruled : ByteArray := prog_1_method_7_code
def yX11_ruled : MethodName := ⟨RX11, "ruled", "(II)I"⟩
abbrev cX11_session : ByteArray := prog_1_method_8_code
def yX11_session : MethodName := ⟨RX11, "session", "(II)I"⟩
abbrev cX11_place : ByteArray := prog_1_method_9_code
def yX11_place : MethodName := ⟨RX11, "place", "(II)I"⟩
abbrev cX11_home : ByteArray := prog_1_method_10_code
def yX11_home : MethodName := ⟨RX11, "home", "(I)I"⟩
abbrev cX11_own : ByteArray := prog_1_method_11_code
def yX11_own : MethodName := ⟨RX11, "own", "(I)I"⟩
abbrev cX11_hour : ByteArray := prog_1_method_12_code
def yX11_hour : MethodName := ⟨RX11, "hour", "(I)I"⟩
abbrev cX11_where : ByteArray := prog_1_method_13_code
def yX11_where : MethodName := ⟨RX11, "where", "()I"⟩
abbrev cX11_bring : ByteArray := prog_1_method_14_code
def yX11_bring : MethodName := ⟨RX11, "bring", "(I)I"⟩
abbrev cX11_live : ByteArray := prog_1_method_15_code
def yX11_live : MethodName := ⟨RX11, "live", "(I)I"⟩
abbrev cX11_keep : ByteArray := prog_1_method_16_code
def yX11_keep : MethodName := ⟨RX11, "keep", "(I)I"⟩
abbrev cX11_again : ByteArray := prog_1_method_17_code
def yX11_again : MethodName := ⟨RX11, "again", "(I)I"⟩
abbrev cX11_week : ByteArray := prog_1_method_18_code
def yX11_week : MethodName := ⟨RX11, "week", "(III)I"⟩
abbrev cX11_ahead : ByteArray := prog_1_method_19_code
def yX11_ahead : MethodName := ⟨RX11, "ahead", "(III)I"⟩
abbrev cX11_outside : ByteArray := prog_1_method_20_code
def yX11_outside : MethodName := ⟨RX11, "outside", "(III)I"⟩
abbrev cX11_ever : ByteArray := prog_1_method_21_code
def yX11_ever : MethodName := ⟨RX11, "ever", "(III)I"⟩
abbrev cX11_never : ByteArray := prog_1_method_22_code
def yX11_never : MethodName := ⟨RX11, "never", "(II)I"⟩
abbrev cX11_tell : ByteArray := prog_1_method_23_code
def yX11_tell : MethodName := ⟨RX11, "tell", "(II)I"⟩
abbrev cX11_judge : ByteArray := prog_1_method_24_code
def yX11_judge : MethodName := ⟨RX11, "judge", "(II)I"⟩
abbrev cX11_find : ByteArray := prog_1_method_25_code
def yX11_find : MethodName := ⟨RX11, "find", "(II)I"⟩
abbrev cX11_from : ByteArray := prog_1_method_26_code
def yX11_from : MethodName := ⟨RX11, "from", "(II)I"⟩
abbrev cX11_way : ByteArray := prog_1_method_27_code
def yX11_way : MethodName := ⟨RX11, "way", "(III)I"⟩
abbrev cX11_bar : ByteArray := prog_1_method_28_code
def yX11_bar : MethodName := ⟨RX11, "bar", "()I"⟩
abbrev cX11_brief : ByteArray := prog_1_method_29_code
def yX11_brief : MethodName := ⟨RX11, "brief", "(III)I"⟩
abbrev cX11_briefPrice : ByteArray := prog_1_method_30_code
def yX11_briefPrice : MethodName := ⟨RX11, "briefPrice", "(IIIZ)J"⟩
abbrev cX11_put : ByteArray := prog_1_method_31_code
def yX11_put : MethodName := ⟨RX11, "put", "(II)I"⟩
abbrev cX11_keys : ByteArray := prog_1_method_32_code
def yX11_keys : MethodName := ⟨RX11, "keys", "(II)I"⟩
abbrev cX11_move : ByteArray := prog_1_method_33_code
def yX11_move : MethodName := ⟨RX11, "move", "(II)I"⟩
abbrev cX11_fits : ByteArray := prog_1_method_34_code
def yX11_fits : MethodName := ⟨RX11, "fits", "(II)I"⟩
abbrev cX11_shift : ByteArray := prog_1_method_35_code
def yX11_shift : MethodName := ⟨RX11, "shift", "(II)I"⟩
abbrev cX11_mean : ByteArray := prog_1_method_36_code
def yX11_mean : MethodName := ⟨RX11, "mean", "(IIZ)J"⟩
abbrev cX11_dry : ByteArray := prog_1_method_37_code
def yX11_dry : MethodName := ⟨RX11, "dry", "(IIZ)J"⟩
abbrev cX11_chance : ByteArray := prog_1_method_38_code
def yX11_chance : MethodName := ⟨RX11, "chance", "(IIIIZ)J"⟩
abbrev cX11_look : ByteArray := prog_1_method_39_code
def yX11_look : MethodName := ⟨RX11, "look", "(IIII)I"⟩
abbrev cX11_count : ByteArray := prog_1_method_40_code
def yX11_count : MethodName := ⟨RX11, "count", "(I)I"⟩
abbrev cX11_canBegin : ByteArray := prog_1_method_41_code
def yX11_canBegin : MethodName := ⟨RX11, "canBegin", "(II)Z"⟩
abbrev cX11_fewestKeys : ByteArray := prog_1_method_42_code
def yX11_fewestKeys : MethodName := ⟨RX11, "fewestKeys", "(LBoathouseKey$Rule;I)I"⟩
abbrev cX11_helpsToMove : ByteArray := prog_1_method_43_code
def yX11_helpsToMove : MethodName := ⟨RX11, "helpsToMove", "(IILBoathouseKey$Rule;I)Z"⟩
abbrev cX11_isHour : ByteArray := prog_1_method_44_code
def yX11_isHour : MethodName := ⟨RX11, "isHour", "(I)Z"⟩
abbrev cX11_isRule : ByteArray := prog_1_method_45_code
def yX11_isRule : MethodName := ⟨RX11, "isRule", "(I)Z"⟩
abbrev cX11_isSlot : ByteArray := prog_1_method_46_code
def yX11_isSlot : MethodName := ⟨RX11, "isSlot", "(I)Z"⟩
abbrev cX11_arePrices : ByteArray := prog_1_method_47_code
def yX11_arePrices : MethodName := ⟨RX11, "arePrices", "(II)Z"⟩
abbrev cX11_hourAfter : ByteArray := prog_1_method_48_code
def yX11_hourAfter : MethodName := ⟨RX11, "hourAfter", "(I)I"⟩
abbrev cX11_spotOf : ByteArray := prog_1_method_49_code
def yX11_spotOf : MethodName := ⟨RX11, "spotOf", "(I)I"⟩
abbrev cX11_whereAt : ByteArray := prog_1_method_50_code
def yX11_whereAt : MethodName := ⟨RX11, "whereAt", "(I)I"⟩
abbrev cX11_fraction : ByteArray := prog_1_method_51_code
def yX11_fraction : MethodName := ⟨RX11, "fraction", "(JJZ)J"⟩
abbrev cX11_greatestDivisor : ByteArray := prog_1_method_52_code
def yX11_greatestDivisor : MethodName := ⟨RX11, "greatestDivisor", "(JJ)J"⟩
def RX12 : String := "BoathouseKeyModel"
def TX12 : u_T := fun k => match k with
  | 0 => ("BoathouseKeyModel", "thrown", "I", false)
  | 1 => ("BoathouseKeyModel", "text", "[I", true)
  | 2 => ("BoathouseKeyModel", "textSize", "I", false)
  | 3 => ("BoathouseKeyModel", "place", "I", false)
  | 4 => ("BoathouseKeyModel", "people", "I", false)
  | 5 => ("BoathouseKeyModel", "forget", "I", false)
  | 6 => ("BoathouseKeyModel", "sessions", "I", false)
  | 7 => ("BoathouseKeyModel", "who", "[I", true)
  | 8 => ("BoathouseKeyModel", "from", "[I", true)
  | 9 => ("BoathouseKeyModel", "to", "[I", true)
  | 10 => ("BoathouseKeyModel", "isThere", "[Z", true)
  | 11 => ("BoathouseKeyModel", "minutes", "[I", true)
  | 12 => ("BoathouseKeyModel", "risks", "[I", true)
  | 13 => ("BoathouseKeyModel", "opens", "[I", true)
  | 14 => ("BoathouseKeyModel", "shuts", "[I", true)
  | 15 => ("BoathouseKeyModel", "homes", "[I", true)
  | 16 => ("BoathouseKeyModel", "readPeople", "I", false)
  | 17 => ("BoathouseKeyModel", "readForget", "I", false)
  | 18 => ("BoathouseKeyModel", "readSessions", "I", false)
  | 19 => ("BoathouseKeyModel", "readWho", "[I", true)
  | 20 => ("BoathouseKeyModel", "readFrom", "[I", true)
  | 21 => ("BoathouseKeyModel", "readTo", "[I", true)
  | 22 => ("BoathouseKeyModel", "readThere", "[Z", true)
  | 23 => ("BoathouseKeyModel", "readMinutes", "[I", true)
  | 24 => ("BoathouseKeyModel", "readRisks", "[I", true)
  | 25 => ("BoathouseKeyModel", "readOpen", "[Z", true)
  | 26 => ("BoathouseKeyModel", "readOpens", "[I", true)
  | 27 => ("BoathouseKeyModel", "readShuts", "[I", true)
  | 28 => ("BoathouseKeyModel", "readHomes", "[I", true)
  | 29 => ("BoathouseKeyModel", "acts", "[I", true)
  | 30 => ("BoathouseKeyModel", "readActs", "[I", true)
  | 31 => ("BoathouseKeyModel", "readMany", "I", false)
  | 32 => ("BoathouseKeyModel", "owns", "I", false)
  | 33 => ("BoathouseKeyModel", "key", "I", false)
  | 34 => ("BoathouseKeyModel", "in", "I", false)
  | 35 => ("BoathouseKeyModel", "out", "I", false)
  | 36 => ("BoathouseKeyModel", "walked", "I", false)
  | 37 => ("BoathouseKeyModel", "risk", "I", false)
  | 38 => ("BoathouseKeyModel", "stood", "I", false)
  | 39 => ("BoathouseKeyModel", "isDone", "Z", false)
  | 40 => ("BoathouseKeyModel", "standing", "I", false)
  | 41 => ("BoathouseKeyModel", "mayForget", "Z", false)
  | 42 => ("BoathouseKeyModel", "live", "[I", true)
  | 43 => ("BoathouseKeyModel", "kept", "[I", true)
  | 44 => ("BoathouseKeyModel", "isKept", "[Z", true)
  | 45 => ("BoathouseKeyModel", "row", "[I", true)
  | 46 => ("BoathouseKeyModel", "when", "[I", true)
  | 47 => ("BoathouseKeyModel", "walks", "[I", true)
  | 48 => ("BoathouseKeyModel", "riskSums", "[I", true)
  | 49 => ("BoathouseKeyModel", "standSums", "[I", true)
  | 50 => ("BoathouseKeyModel", "lead", "I", false)
  | 51 => ("BoathouseKeyModel", "ring", "I", false)
  | 52 => ("BoathouseKeyModel", "left", "[I", true)
  | 53 => ("BoathouseKeyModel", "best", "[I", true)
  | 54 => ("BoathouseKeyModel", "bestBegin", "I", false)
  | 55 => ("BoathouseKeyModel", "bestPrice", "I", false)
  | 56 => ("BoathouseKeyModel", "up", "J", false)
  | 57 => ("BoathouseKeyModel", "low", "J", false)
  | _ => ("BoathouseKeyModel", "chances", "[J", true)
def tyX12 : Nat → FieldType := fun k => match k with
  | 0 => .int
  | 1 => .array .int
  | 2 => .int
  | 3 => .int
  | 4 => .int
  | 5 => .int
  | 6 => .int
  | 7 => .array .int
  | 8 => .array .int
  | 9 => .array .int
  | 10 => .array .boolean
  | 11 => .array .int
  | 12 => .array .int
  | 13 => .array .int
  | 14 => .array .int
  | 15 => .array .int
  | 16 => .int
  | 17 => .int
  | 18 => .int
  | 19 => .array .int
  | 20 => .array .int
  | 21 => .array .int
  | 22 => .array .boolean
  | 23 => .array .int
  | 24 => .array .int
  | 25 => .array .boolean
  | 26 => .array .int
  | 27 => .array .int
  | 28 => .array .int
  | 29 => .array .int
  | 30 => .array .int
  | 31 => .int
  | 32 => .int
  | 33 => .int
  | 34 => .int
  | 35 => .int
  | 36 => .int
  | 37 => .int
  | 38 => .int
  | 39 => .boolean
  | 40 => .int
  | 41 => .boolean
  | 42 => .array .int
  | 43 => .array .int
  | 44 => .array .boolean
  | 45 => .array .int
  | 46 => .array .int
  | 47 => .array .int
  | 48 => .array .int
  | 49 => .array .int
  | 50 => .int
  | 51 => .int
  | 52 => .array .int
  | 53 => .array .int
  | 54 => .int
  | 55 => .int
  | 56 => .long
  | 57 => .long
  | _ => .array .long
abbrev wsX120 : List Cond := u_ws RX12 TX12 59
theorem nmX12 : ∀ a, a < 59 → ∀ b, b < 59 → a ≠ b → (TX12 a).2.1 ≠ (TX12 b).2.1 := by decide +kernel
theorem tyX12_ok : ∀ k, k < 59 → parseFieldDescriptor (TX12 k).2.2.1 = some (tyX12 k) := by decide +kernel
abbrev cX12_init : ByteArray := prog_14_method_1_code
def yX12_init : MethodName := ⟨RX12, "<init>", "()V"⟩
abbrev cX12_in : ByteArray := prog_14_method_3_code
def yX12_in : MethodName := ⟨RX12, "in", "(JJJ)Z"⟩
abbrev cX12_begin : ByteArray := prog_14_method_4_code
def yX12_begin : MethodName := ⟨RX12, "begin", "()V"⟩
abbrev cX12_noRule : ByteArray := prog_14_method_5_code
def yX12_noRule : MethodName := ⟨RX12, "noRule", "(I)Z"⟩
abbrev cX12_noHour : ByteArray := prog_14_method_6_code
def yX12_noHour : MethodName := ⟨RX12, "noHour", "(I)Z"⟩
abbrev cX12_noBegin : ByteArray := prog_14_method_7_code
def yX12_noBegin : MethodName := ⟨RX12, "noBegin", "(I)Z"⟩
abbrev cX12_noSession : ByteArray := prog_14_method_8_code
def yX12_noSession : MethodName := ⟨RX12, "noSession", "(I)Z"⟩
abbrev cX12_write : ByteArray := prog_14_method_9_code
def yX12_write : MethodName := ⟨RX12, "write", "(IJ)I"⟩
abbrev cX12_wipe : ByteArray := prog_14_method_10_code
def yX12_wipe : MethodName := ⟨RX12, "wipe", "()I"⟩
abbrev cX12_sign : ByteArray := prog_14_method_11_code
def yX12_sign : MethodName := ⟨RX12, "sign", "(I)Z"⟩
abbrev cX12_figure : ByteArray := prog_14_method_12_code
def yX12_figure : MethodName := ⟨RX12, "figure", "(II)I"⟩
abbrev cX12_oneOf : ByteArray := prog_14_method_13_code
def yX12_oneOf : MethodName := ⟨RX12, "oneOf", "(I)I"⟩
abbrev cX12_free : ByteArray := prog_14_method_14_code
def yX12_free : MethodName := ⟨RX12, "free", "(I)I"⟩
abbrev cX12_freePeople : ByteArray := prog_14_method_15_code
def yX12_freePeople : MethodName := ⟨RX12, "freePeople", "()I"⟩
abbrev cX12_readSession : ByteArray := prog_14_method_16_code
def yX12_readSession : MethodName := ⟨RX12, "readSession", "(I)Z"⟩
abbrev cX12_places : ByteArray := prog_14_method_17_code
def yX12_places : MethodName := ⟨RX12, "places", "(Z)I"⟩
abbrev cX12_readPlace : ByteArray := prog_14_method_18_code
def yX12_readPlace : MethodName := ⟨RX12, "readPlace", "()Z"⟩
abbrev cX12_readHours : ByteArray := prog_14_method_19_code
def yX12_readHours : MethodName := ⟨RX12, "readHours", "()Z"⟩
abbrev cX12_homeless : ByteArray := prog_14_method_20_code
def yX12_homeless : MethodName := ⟨RX12, "homeless", "()I"⟩
abbrev cX12_readHome : ByteArray := prog_14_method_21_code
def yX12_readHome : MethodName := ⟨RX12, "readHome", "()Z"⟩
abbrev cX12_readPart : ByteArray := prog_14_method_22_code
def yX12_readPart : MethodName := ⟨RX12, "readPart", "()Z"⟩
abbrev cX12_readClub : ByteArray := prog_14_method_23_code
def yX12_readClub : MethodName := ⟨RX12, "readClub", "()I"⟩
abbrev cX12_readAct : ByteArray := prog_14_method_24_code
def yX12_readAct : MethodName := ⟨RX12, "readAct", "()I"⟩
abbrev cX12_readRule : ByteArray := prog_14_method_25_code
def yX12_readRule : MethodName := ⟨RX12, "readRule", "()I"⟩
abbrev cX12_fault : ByteArray := prog_14_method_26_code
def yX12_fault : MethodName := ⟨RX12, "fault", "(Z)I"⟩
abbrev cX12_make : ByteArray := prog_14_method_27_code
def yX12_make : MethodName := ⟨RX12, "make", "()I"⟩
abbrev cX12_rule : ByteArray := prog_14_method_28_code
def yX12_rule : MethodName := ⟨RX12, "rule", "(I)I"⟩
abbrev cX12_ruled : ByteArray := prog_14_method_29_code
def yX12_ruled : MethodName := ⟨RX12, "ruled", "(II)I"⟩
abbrev cX12_session : ByteArray := prog_14_method_30_code
def yX12_session : MethodName := ⟨RX12, "session", "(II)I"⟩
abbrev cX12_place : ByteArray := prog_14_method_31_code
def yX12_place : MethodName := ⟨RX12, "place", "(II)I"⟩
abbrev cX12_home : ByteArray := prog_14_method_32_code
def yX12_home : MethodName := ⟨RX12, "home", "(I)I"⟩
abbrev cX12_own : ByteArray := prog_14_method_33_code
def yX12_own : MethodName := ⟨RX12, "own", "(I)I"⟩
abbrev cX12_isOpen : ByteArray := prog_14_method_34_code
def yX12_isOpen : MethodName := ⟨RX12, "isOpen", "(II)Z"⟩
abbrev cX12_comes : ByteArray := prog_14_method_35_code
def yX12_comes : MethodName := ⟨RX12, "comes", "(II)Z"⟩
abbrev cX12_firstAt : ByteArray := prog_14_method_36_code
def yX12_firstAt : MethodName := ⟨RX12, "firstAt", "(I)I"⟩
abbrev cX12_leave : ByteArray := prog_14_method_37_code
def yX12_leave : MethodName := ⟨RX12, "leave", "(IIIZ)V"⟩
abbrev cX12_pass : ByteArray := prog_14_method_38_code
def yX12_pass : MethodName := ⟨RX12, "pass", "(IIZ)I"⟩
abbrev cX12_start : ByteArray := prog_14_method_39_code
def yX12_start : MethodName := ⟨RX12, "start", "(I)V"⟩
abbrev cX12_go : ByteArray := prog_14_method_40_code
def yX12_go : MethodName := ⟨RX12, "go", "(III)V"⟩
abbrev cX12_load : ByteArray := prog_14_method_41_code
def yX12_load : MethodName := ⟨RX12, "load", "()V"⟩
abbrev cX12_hour : ByteArray := prog_14_method_42_code
def yX12_hour : MethodName := ⟨RX12, "hour", "(I)I"⟩
abbrev cX12_where : ByteArray := prog_14_method_43_code
def yX12_where : MethodName := ⟨RX12, "where", "()I"⟩
abbrev cX12_bring : ByteArray := prog_14_method_44_code
def yX12_bring : MethodName := ⟨RX12, "bring", "(I)I"⟩
abbrev cX12_live : ByteArray := prog_14_method_45_code
def yX12_live : MethodName := ⟨RX12, "live", "(I)I"⟩
abbrev cX12_keep : ByteArray := prog_14_method_46_code
def yX12_keep : MethodName := ⟨RX12, "keep", "(I)I"⟩
abbrev cX12_again : ByteArray := prog_14_method_47_code
def yX12_again : MethodName := ⟨RX12, "again", "(I)I"⟩
abbrev cX12_week : ByteArray := prog_14_method_48_code
def yX12_week : MethodName := ⟨RX12, "week", "(III)I"⟩
abbrev cX12_ahead : ByteArray := prog_14_method_49_code
def yX12_ahead : MethodName := ⟨RX12, "ahead", "(III)I"⟩
abbrev cX12_outside : ByteArray := prog_14_method_50_code
def yX12_outside : MethodName := ⟨RX12, "outside", "(III)I"⟩
abbrev cX12_runEver : ByteArray := prog_14_method_51_code
def yX12_runEver : MethodName := ⟨RX12, "runEver", "(II)V"⟩
abbrev cX12_ever : ByteArray := prog_14_method_52_code
def yX12_ever : MethodName := ⟨RX12, "ever", "(III)I"⟩
abbrev cX12_isNever : ByteArray := prog_14_method_53_code
def yX12_isNever : MethodName := ⟨RX12, "isNever", "(II)Z"⟩
abbrev cX12_never : ByteArray := prog_14_method_54_code
def yX12_never : MethodName := ⟨RX12, "never", "(II)I"⟩
abbrev cX12_tell : ByteArray := prog_14_method_55_code
def yX12_tell : MethodName := ⟨RX12, "tell", "(II)I"⟩
abbrev cX12_judge : ByteArray := prog_14_method_56_code
def yX12_judge : MethodName := ⟨RX12, "judge", "(II)I"⟩
abbrev cX12_going : ByteArray := prog_14_method_57_code
def yX12_going : MethodName := ⟨RX12, "going", "(I)I"⟩
abbrev cX12_step : ByteArray := prog_14_method_58_code
def yX12_step : MethodName := ⟨RX12, "step", "(IIIII)I"⟩
abbrev cX12_layLeft : ByteArray := prog_14_method_59_code
def yX12_layLeft : MethodName := ⟨RX12, "layLeft", "(III)V"⟩
abbrev cX12_isPlaceOfKey : ByteArray := prog_14_method_60_code
def yX12_isPlaceOfKey : MethodName := ⟨RX12, "isPlaceOfKey", "(II)Z"⟩
abbrev cX12_layWay : ByteArray := prog_14_method_61_code
def yX12_layWay : MethodName := ⟨RX12, "layWay", "(II)V"⟩
abbrev cX12_layActs : ByteArray := prog_14_method_62_code
def yX12_layActs : MethodName := ⟨RX12, "layActs", "(III)V"⟩
abbrev cX12_noPrice : ByteArray := prog_14_method_63_code
def yX12_noPrice : MethodName := ⟨RX12, "noPrice", "(II)Z"⟩
abbrev cX12_find : ByteArray := prog_14_method_64_code
def yX12_find : MethodName := ⟨RX12, "find", "(II)I"⟩
abbrev cX12_from : ByteArray := prog_14_method_65_code
def yX12_from : MethodName := ⟨RX12, "from", "(II)I"⟩
abbrev cX12_way : ByteArray := prog_14_method_66_code
def yX12_way : MethodName := ⟨RX12, "way", "(III)I"⟩
abbrev cX12_bar : ByteArray := prog_14_method_67_code
def yX12_bar : MethodName := ⟨RX12, "bar", "()I"⟩
abbrev cX12_tryShort : ByteArray := prog_14_method_68_code
def yX12_tryShort : MethodName := ⟨RX12, "tryShort", "(II)V"⟩
abbrev cX12_findBrief : ByteArray := prog_14_method_69_code
def yX12_findBrief : MethodName := ⟨RX12, "findBrief", "(III)I"⟩
abbrev cX12_brief : ByteArray := prog_14_method_70_code
def yX12_brief : MethodName := ⟨RX12, "brief", "(III)I"⟩
abbrev cX12_told : ByteArray := prog_14_method_71_code
def yX12_told : MethodName := ⟨RX12, "told", "(JJZ)J"⟩
abbrev cX12_briefPrice : ByteArray := prog_14_method_72_code
def yX12_briefPrice : MethodName := ⟨RX12, "briefPrice", "(IIIZ)J"⟩
abbrev cX12_put : ByteArray := prog_14_method_73_code
def yX12_put : MethodName := ⟨RX12, "put", "(II)I"⟩
abbrev cX12_bits : ByteArray := prog_14_method_74_code
def yX12_bits : MethodName := ⟨RX12, "bits", "(I)I"⟩
abbrev cX12_keys : ByteArray := prog_14_method_75_code
def yX12_keys : MethodName := ⟨RX12, "keys", "(II)I"⟩
abbrev cX12_mayBegin : ByteArray := prog_14_method_76_code
def yX12_mayBegin : MethodName := ⟨RX12, "mayBegin", "(II)Z"⟩
abbrev cX12_putAt : ByteArray := prog_14_method_77_code
def yX12_putAt : MethodName := ⟨RX12, "putAt", "(II)V"⟩
abbrev cX12_move : ByteArray := prog_14_method_78_code
def yX12_move : MethodName := ⟨RX12, "move", "(II)I"⟩
abbrev cX12_fits : ByteArray := prog_14_method_79_code
def yX12_fits : MethodName := ⟨RX12, "fits", "(II)I"⟩
abbrev cX12_shift : ByteArray := prog_14_method_80_code
def yX12_shift : MethodName := ⟨RX12, "shift", "(II)I"⟩
abbrev cX12_forgetting : ByteArray := prog_14_method_81_code
def yX12_forgetting : MethodName := ⟨RX12, "forgetting", "(IIII)J"⟩
abbrev cX12_tens : ByteArray := prog_14_method_82_code
def yX12_tens : MethodName := ⟨RX12, "tens", "(I)J"⟩
abbrev cX12_expect : ByteArray := prog_14_method_83_code
def yX12_expect : MethodName := ⟨RX12, "expect", "(IIZ)J"⟩
abbrev cX12_mean : ByteArray := prog_14_method_84_code
def yX12_mean : MethodName := ⟨RX12, "mean", "(IIZ)J"⟩
abbrev cX12_dry : ByteArray := prog_14_method_85_code
def yX12_dry : MethodName := ⟨RX12, "dry", "(IIZ)J"⟩
abbrev cX12_layChances : ByteArray := prog_14_method_86_code
def yX12_layChances : MethodName := ⟨RX12, "layChances", "(III)V"⟩
abbrev cX12_chance : ByteArray := prog_14_method_87_code
def yX12_chance : MethodName := ⟨RX12, "chance", "(IIIIZ)J"⟩
abbrev cX12_isAhead : ByteArray := prog_14_method_88_code
def yX12_isAhead : MethodName := ⟨RX12, "isAhead", "(II)Z"⟩
abbrev cX12_mayLie : ByteArray := prog_14_method_89_code
def yX12_mayLie : MethodName := ⟨RX12, "mayLie", "(II)Z"⟩
abbrev cX12_look : ByteArray := prog_14_method_90_code
def yX12_look : MethodName := ⟨RX12, "look", "(IIII)I"⟩
abbrev cX12_count : ByteArray := prog_14_method_91_code
def yX12_count : MethodName := ⟨RX12, "count", "(I)I"⟩
def RJ6 : String := "java/lang/Integer"
def TJ6 : u_T := fun k => match k with
  | _ => ("", "", "", false)
def tyJ6 : Nat → FieldType := fun k => match k with
  | _ => .int
abbrev wsJ60 : List Cond := u_ws RJ6 TJ6 0
theorem nmJ6 : ∀ a, a < 0 → ∀ b, b < 0 → a ≠ b → (TJ6 a).2.1 ≠ (TJ6 b).2.1 := by decide +kernel
theorem tyJ6_ok : ∀ k, k < 0 → parseFieldDescriptor (TJ6 k).2.2.1 = some (tyJ6 k) := by decide +kernel
abbrev cJ6_bitCount_0f7a4 : ByteArray := prog_15_method_49_code
def yJ6_bitCount_0f7a4 : MethodName := ⟨RJ6, "bitCount", "(I)I"⟩
def RJ9 : String := "java/lang/Math"
def TJ9 : u_T := fun k => match k with
  | _ => ("", "", "", false)
def tyJ9 : Nat → FieldType := fun k => match k with
  | _ => .int
abbrev wsJ90 : List Cond := u_ws RJ9 TJ9 0
theorem nmJ9 : ∀ a, a < 0 → ∀ b, b < 0 → a ≠ b → (TJ9 a).2.1 ≠ (TJ9 b).2.1 := by decide +kernel
theorem tyJ9_ok : ∀ k, k < 0 → parseFieldDescriptor (TJ9 k).2.2.1 = some (tyJ9 k) := by decide +kernel
abbrev cJ9_min_7cf53 : ByteArray := prog_16_method_69_code
def yJ9_min_7cf53 : MethodName := ⟨RJ9, "min", "(II)I"⟩
def RJ10 : String := "java/lang/System"
def TJ10 : u_T := fun k => match k with
  | _ => ("", "", "", false)
def tyJ10 : Nat → FieldType := fun k => match k with
  | _ => .int
abbrev wsJ100 : List Cond := u_ws RJ10 TJ10 0
theorem nmJ10 : ∀ a, a < 0 → ∀ b, b < 0 → a ≠ b → (TJ10 a).2.1 ≠ (TJ10 b).2.1 := by decide +kernel
theorem tyJ10_ok : ∀ k, k < 0 → parseFieldDescriptor (TJ10 k).2.2.1 = some (tyJ10 k) := by decide +kernel
def RJ7 : String := "java/util/Arrays"
def TJ7 : u_T := fun k => match k with
  | _ => ("", "", "", false)
def tyJ7 : Nat → FieldType := fun k => match k with
  | _ => .int
abbrev wsJ70 : List Cond := u_ws RJ7 TJ7 0
theorem nmJ7 : ∀ a, a < 0 → ∀ b, b < 0 → a ≠ b → (TJ7 a).2.1 ≠ (TJ7 b).2.1 := by decide +kernel
theorem tyJ7_ok : ∀ k, k < 0 → parseFieldDescriptor (TJ7 k).2.2.1 = some (tyJ7 k) := by decide +kernel
abbrev cJ7_fill_d0a16 : ByteArray := prog_18_method_101_code
def yJ7_fill_d0a16 : MethodName := ⟨RJ7, "fill", "([JJ)V"⟩
abbrev cJ7_fill_53178 : ByteArray := prog_18_method_103_code
def yJ7_fill_53178 : MethodName := ⟨RJ7, "fill", "([II)V"⟩
def RL : String := "BoathouseKeyLaw"
abbrev cL_law : ByteArray := code
def yL_law : MethodName := ⟨RL, "law", "([I)Z"⟩
abbrev vwCl : List vw_C := [(RX0, TX0, 4), (RX1, TX1, 17), (RX2, TX2, 7), (RX3, TX3, 9), (RX4, TX4, 7), (RX5, TX5, 2), (RX6, TX6, 3), (RX7, TX7, 11), (RX8, TX8, 5), (RX9, TX9, 7), (RX10, TX10, 3), (RX11, TX11, 18), (RX12, TX12, 59)]
