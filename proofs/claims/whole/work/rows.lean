section
-- ===== PART A: goes FIRST, ahead of the names: the tables' words, and 'selects' of the private methods out of them =====
/-- a private method of a class that the tables say can be made, by its rows of tables_1 -/
def lw_okq (q : MethodName × Nat) : Prop := (q.1.cls ≠ "java/lang/invoke/MethodHandle" ∧ q.1.cls ≠ "java/lang/invoke/VarHandle") ∧ Cond.instantiable q.1.cls q.2 ∈ tables_1 ∧ Cond.privateMethod q.1 ∈ tables_1 ∧ Cond.instanceMethod q.1 ∈ tables_1
theorem lw_p0 : lw_okq (⟨"EncounterLedger", "refuse", "(I)I"⟩, 7) := ⟨⟨by decide +kernel, by decide +kernel⟩, List.mem_of_getElem? (i := 16) (by decide +kernel), List.mem_of_getElem? (i := 290) (by decide +kernel), List.mem_of_getElem? (i := 291) (by decide +kernel)⟩
theorem lw_p1 : lw_okq (⟨"EncounterLedger$Encounter", "insert", "(I)V"⟩, 11) := ⟨⟨by decide +kernel, by decide +kernel⟩, List.mem_of_getElem? (i := 108) (by decide +kernel), List.mem_of_getElem? (i := 397) (by decide +kernel), List.mem_of_getElem? (i := 398) (by decide +kernel)⟩
theorem lw_p2 : lw_okq (⟨"EncounterLedger$Encounter", "isAhead", "(II)Z"⟩, 11) := ⟨⟨by decide +kernel, by decide +kernel⟩, List.mem_of_getElem? (i := 108) (by decide +kernel), List.mem_of_getElem? (i := 403) (by decide +kernel), List.mem_of_getElem? (i := 404) (by decide +kernel)⟩
theorem lw_p3 : lw_okq (⟨"EncounterLedger$Conditions", "endCounted", "()V"⟩, 3) := ⟨⟨by decide +kernel, by decide +kernel⟩, List.mem_of_getElem? (i := 64) (by decide +kernel), List.mem_of_getElem? (i := 428) (by decide +kernel), List.mem_of_getElem? (i := 429) (by decide +kernel)⟩
theorem lw_p4 : lw_okq (⟨"EncounterLedger$Fighters", "lose", "(II)I"⟩, 5) := ⟨⟨by decide +kernel, by decide +kernel⟩, List.mem_of_getElem? (i := 82) (by decide +kernel), List.mem_of_getElem? (i := 454) (by decide +kernel), List.mem_of_getElem? (i := 455) (by decide +kernel)⟩
theorem lw_p5 : lw_okq (⟨"EncounterLedger", "whyNoAct", "()I"⟩, 7) := ⟨⟨by decide +kernel, by decide +kernel⟩, List.mem_of_getElem? (i := 16) (by decide +kernel), List.mem_of_getElem? (i := 498) (by decide +kernel), List.mem_of_getElem? (i := 499) (by decide +kernel)⟩
theorem lw_p6 : lw_okq (⟨"EncounterLedger", "whyCannotAct", "()I"⟩, 7) := ⟨⟨by decide +kernel, by decide +kernel⟩, List.mem_of_getElem? (i := 16) (by decide +kernel), List.mem_of_getElem? (i := 502) (by decide +kernel), List.mem_of_getElem? (i := 503) (by decide +kernel)⟩
theorem lw_p7 : lw_okq (⟨"EncounterLedger$Ways", "markClosed", "(LEncounterLedger$State;I)V"⟩, 3) := ⟨⟨by decide +kernel, by decide +kernel⟩, List.mem_of_getElem? (i := 228) (by decide +kernel), List.mem_of_getElem? (i := 538) (by decide +kernel), List.mem_of_getElem? (i := 539) (by decide +kernel)⟩
theorem lw_p8 : lw_okq (⟨"EncounterLedger$Ways", "reach", "(II)V"⟩, 3) := ⟨⟨by decide +kernel, by decide +kernel⟩, List.mem_of_getElem? (i := 228) (by decide +kernel), List.mem_of_getElem? (i := 550) (by decide +kernel), List.mem_of_getElem? (i := 551) (by decide +kernel)⟩
theorem lw_p9 : lw_okq (⟨"EncounterLedger$Ways", "reachNeighbors", "(I)V"⟩, 3) := ⟨⟨by decide +kernel, by decide +kernel⟩, List.mem_of_getElem? (i := 228) (by decide +kernel), List.mem_of_getElem? (i := 554) (by decide +kernel), List.mem_of_getElem? (i := 555) (by decide +kernel)⟩
theorem lw_p10 : lw_okq (⟨"EncounterLedger", "stepsLeft", "()I"⟩, 7) := ⟨⟨by decide +kernel, by decide +kernel⟩, List.mem_of_getElem? (i := 16) (by decide +kernel), List.mem_of_getElem? (i := 564) (by decide +kernel), List.mem_of_getElem? (i := 565) (by decide +kernel)⟩
theorem lw_p11 : lw_okq (⟨"EncounterLedger", "canBeStruck", "(I)Z"⟩, 7) := ⟨⟨by decide +kernel, by decide +kernel⟩, List.mem_of_getElem? (i := 16) (by decide +kernel), List.mem_of_getElem? (i := 578) (by decide +kernel), List.mem_of_getElem? (i := 579) (by decide +kernel)⟩
theorem lw_p12 : lw_okq (⟨"EncounterLedger$Tape", "readShape", "()Z"⟩, 4) := ⟨⟨by decide +kernel, by decide +kernel⟩, List.mem_of_getElem? (i := 207) (by decide +kernel), List.mem_of_getElem? (i := 627) (by decide +kernel), List.mem_of_getElem? (i := 628) (by decide +kernel)⟩
theorem lw_p13 : lw_okq (⟨"EncounterLedger$Tape", "peek", "()I"⟩, 4) := ⟨⟨by decide +kernel, by decide +kernel⟩, List.mem_of_getElem? (i := 207) (by decide +kernel), List.mem_of_getElem? (i := 631) (by decide +kernel), List.mem_of_getElem? (i := 632) (by decide +kernel)⟩
theorem lw_p14 : lw_okq (⟨"EncounterLedger$Tape", "setPart", "(II)V"⟩, 4) := ⟨⟨by decide +kernel, by decide +kernel⟩, List.mem_of_getElem? (i := 207) (by decide +kernel), List.mem_of_getElem? (i := 635) (by decide +kernel), List.mem_of_getElem? (i := 636) (by decide +kernel)⟩
theorem lw_p15 : lw_okq (⟨"EncounterLedger$Tape", "skip", "(I)Z"⟩, 4) := ⟨⟨by decide +kernel, by decide +kernel⟩, List.mem_of_getElem? (i := 207) (by decide +kernel), List.mem_of_getElem? (i := 639) (by decide +kernel), List.mem_of_getElem? (i := 640) (by decide +kernel)⟩
def lw_privs_1 : List (MethodName × Nat) := [(⟨"EncounterLedger", "refuse", "(I)I"⟩, 7), (⟨"EncounterLedger$Encounter", "insert", "(I)V"⟩, 11), (⟨"EncounterLedger$Encounter", "isAhead", "(II)Z"⟩, 11), (⟨"EncounterLedger$Conditions", "endCounted", "()V"⟩, 3), (⟨"EncounterLedger$Fighters", "lose", "(II)I"⟩, 5), (⟨"EncounterLedger", "whyNoAct", "()I"⟩, 7), (⟨"EncounterLedger", "whyCannotAct", "()I"⟩, 7), (⟨"EncounterLedger$Ways", "markClosed", "(LEncounterLedger$State;I)V"⟩, 3), (⟨"EncounterLedger$Ways", "reach", "(II)V"⟩, 3), (⟨"EncounterLedger$Ways", "reachNeighbors", "(I)V"⟩, 3), (⟨"EncounterLedger", "stepsLeft", "()I"⟩, 7), (⟨"EncounterLedger", "canBeStruck", "(I)Z"⟩, 7), (⟨"EncounterLedger$Tape", "readShape", "()Z"⟩, 4), (⟨"EncounterLedger$Tape", "peek", "()I"⟩, 4), (⟨"EncounterLedger$Tape", "setPart", "(II)V"⟩, 4), (⟨"EncounterLedger$Tape", "skip", "(I)Z"⟩, 4)]
theorem lw_r1 : ∀ q ∈ lw_privs_1, lw_okq q := List.forall_mem_cons.mpr ⟨lw_p0, List.forall_mem_cons.mpr ⟨lw_p1, List.forall_mem_cons.mpr ⟨lw_p2, List.forall_mem_cons.mpr ⟨lw_p3, List.forall_mem_cons.mpr ⟨lw_p4, List.forall_mem_cons.mpr ⟨lw_p5, List.forall_mem_cons.mpr ⟨lw_p6, List.forall_mem_cons.mpr ⟨lw_p7, List.forall_mem_cons.mpr ⟨lw_p8, List.forall_mem_cons.mpr ⟨lw_p9, List.forall_mem_cons.mpr ⟨lw_p10, List.forall_mem_cons.mpr ⟨lw_p11, List.forall_mem_cons.mpr ⟨lw_p12, List.forall_mem_cons.mpr ⟨lw_p13, List.forall_mem_cons.mpr ⟨lw_p14, List.forall_mem_cons.mpr ⟨lw_p15, fun _ h => absurd h List.not_mem_nil⟩⟩⟩⟩⟩⟩⟩⟩⟩⟩⟩⟩⟩⟩⟩⟩
theorem lw_p16 : lw_okq (⟨"EncounterLedger$Tape", "readDigit", "(III)Z"⟩, 4) := ⟨⟨by decide +kernel, by decide +kernel⟩, List.mem_of_getElem? (i := 207) (by decide +kernel), List.mem_of_getElem? (i := 643) (by decide +kernel), List.mem_of_getElem? (i := 644) (by decide +kernel)⟩
theorem lw_p17 : lw_okq (⟨"EncounterLedger$Tape", "readEffects", "()Z"⟩, 4) := ⟨⟨by decide +kernel, by decide +kernel⟩, List.mem_of_getElem? (i := 207) (by decide +kernel), List.mem_of_getElem? (i := 647) (by decide +kernel), List.mem_of_getElem? (i := 648) (by decide +kernel)⟩
theorem lw_p18 : lw_okq (⟨"EncounterLedger$Tape", "readEffect", "(I)Z"⟩, 4) := ⟨⟨by decide +kernel, by decide +kernel⟩, List.mem_of_getElem? (i := 207) (by decide +kernel), List.mem_of_getElem? (i := 651) (by decide +kernel), List.mem_of_getElem? (i := 652) (by decide +kernel)⟩
theorem lw_p19 : lw_okq (⟨"EncounterLedger$Tape", "readNumber", "(I)Z"⟩, 4) := ⟨⟨by decide +kernel, by decide +kernel⟩, List.mem_of_getElem? (i := 207) (by decide +kernel), List.mem_of_getElem? (i := 655) (by decide +kernel), List.mem_of_getElem? (i := 656) (by decide +kernel)⟩
theorem lw_p20 : lw_okq (⟨"EncounterLedger$Tape", "readCost", "()Z"⟩, 4) := ⟨⟨by decide +kernel, by decide +kernel⟩, List.mem_of_getElem? (i := 207) (by decide +kernel), List.mem_of_getElem? (i := 663) (by decide +kernel), List.mem_of_getElem? (i := 664) (by decide +kernel)⟩
theorem lw_p21 : lw_okq (⟨"EncounterLedger", "whyNoCast", "(I)I"⟩, 7) := ⟨⟨by decide +kernel, by decide +kernel⟩, List.mem_of_getElem? (i := 16) (by decide +kernel), List.mem_of_getElem? (i := 679) (by decide +kernel), List.mem_of_getElem? (i := 680) (by decide +kernel)⟩
theorem lw_p22 : lw_okq (⟨"EncounterLedger", "countMet", "(III)I"⟩, 7) := ⟨⟨by decide +kernel, by decide +kernel⟩, List.mem_of_getElem? (i := 16) (by decide +kernel), List.mem_of_getElem? (i := 683) (by decide +kernel), List.mem_of_getElem? (i := 684) (by decide +kernel)⟩
theorem lw_p23 : lw_okq (⟨"EncounterLedger", "isMet", "(IIII)Z"⟩, 7) := ⟨⟨by decide +kernel, by decide +kernel⟩, List.mem_of_getElem? (i := 16) (by decide +kernel), List.mem_of_getElem? (i := 687) (by decide +kernel), List.mem_of_getElem? (i := 688) (by decide +kernel)⟩
theorem lw_p24 : lw_okq (⟨"EncounterLedger", "spread", "(IIII)V"⟩, 7) := ⟨⟨by decide +kernel, by decide +kernel⟩, List.mem_of_getElem? (i := 16) (by decide +kernel), List.mem_of_getElem? (i := 695) (by decide +kernel), List.mem_of_getElem? (i := 696) (by decide +kernel)⟩
theorem lw_p25 : lw_okq (⟨"EncounterLedger$Fighters", "refill", "(II)V"⟩, 5) := ⟨⟨by decide +kernel, by decide +kernel⟩, List.mem_of_getElem? (i := 82) (by decide +kernel), List.mem_of_getElem? (i := 723) (by decide +kernel), List.mem_of_getElem? (i := 724) (by decide +kernel)⟩
theorem lw_p26 : lw_okq (⟨"EncounterLedger$Journal", "sumOf", "(II)I"⟩, 2) := ⟨⟨by decide +kernel, by decide +kernel⟩, List.mem_of_getElem? (i := 50) (by decide +kernel), List.mem_of_getElem? (i := 801) (by decide +kernel), List.mem_of_getElem? (i := 802) (by decide +kernel)⟩
theorem lw_p27 : lw_okq (⟨"EncounterLedger$Journal", "tells", "(III)Z"⟩, 2) := ⟨⟨by decide +kernel, by decide +kernel⟩, List.mem_of_getElem? (i := 50) (by decide +kernel), List.mem_of_getElem? (i := 805) (by decide +kernel), List.mem_of_getElem? (i := 806) (by decide +kernel)⟩
theorem lw_p28 : lw_okq (⟨"EncounterLedger$Journal", "sumOfAmounts", "(II)I"⟩, 2) := ⟨⟨by decide +kernel, by decide +kernel⟩, List.mem_of_getElem? (i := 50) (by decide +kernel), List.mem_of_getElem? (i := 818) (by decide +kernel), List.mem_of_getElem? (i := 819) (by decide +kernel)⟩
theorem lw_p29 : lw_okq (⟨"EncounterLedger", "setOfPowers", "()I"⟩, 7) := ⟨⟨by decide +kernel, by decide +kernel⟩, List.mem_of_getElem? (i := 16) (by decide +kernel), List.mem_of_getElem? (i := 871) (by decide +kernel), List.mem_of_getElem? (i := 872) (by decide +kernel)⟩
theorem lw_p30 : lw_okq (⟨"EncounterLedgerModel", "isFree", "(I)Z"⟩, 46) := ⟨⟨by decide +kernel, by decide +kernel⟩, List.mem_of_getElem? (i := 876) (by decide +kernel), List.mem_of_getElem? (i := 1032) (by decide +kernel), List.mem_of_getElem? (i := 1033) (by decide +kernel)⟩
theorem lw_p31 : lw_okq (⟨"EncounterLedgerModel", "fighterOn", "(I)I"⟩, 46) := ⟨⟨by decide +kernel, by decide +kernel⟩, List.mem_of_getElem? (i := 876) (by decide +kernel), List.mem_of_getElem? (i := 1036) (by decide +kernel), List.mem_of_getElem? (i := 1037) (by decide +kernel)⟩
def lw_privs_2 : List (MethodName × Nat) := [(⟨"EncounterLedger$Tape", "readDigit", "(III)Z"⟩, 4), (⟨"EncounterLedger$Tape", "readEffects", "()Z"⟩, 4), (⟨"EncounterLedger$Tape", "readEffect", "(I)Z"⟩, 4), (⟨"EncounterLedger$Tape", "readNumber", "(I)Z"⟩, 4), (⟨"EncounterLedger$Tape", "readCost", "()Z"⟩, 4), (⟨"EncounterLedger", "whyNoCast", "(I)I"⟩, 7), (⟨"EncounterLedger", "countMet", "(III)I"⟩, 7), (⟨"EncounterLedger", "isMet", "(IIII)Z"⟩, 7), (⟨"EncounterLedger", "spread", "(IIII)V"⟩, 7), (⟨"EncounterLedger$Fighters", "refill", "(II)V"⟩, 5), (⟨"EncounterLedger$Journal", "sumOf", "(II)I"⟩, 2), (⟨"EncounterLedger$Journal", "tells", "(III)Z"⟩, 2), (⟨"EncounterLedger$Journal", "sumOfAmounts", "(II)I"⟩, 2), (⟨"EncounterLedger", "setOfPowers", "()I"⟩, 7), (⟨"EncounterLedgerModel", "isFree", "(I)Z"⟩, 46), (⟨"EncounterLedgerModel", "fighterOn", "(I)I"⟩, 46)]
theorem lw_r2 : ∀ q ∈ lw_privs_2, lw_okq q := List.forall_mem_cons.mpr ⟨lw_p16, List.forall_mem_cons.mpr ⟨lw_p17, List.forall_mem_cons.mpr ⟨lw_p18, List.forall_mem_cons.mpr ⟨lw_p19, List.forall_mem_cons.mpr ⟨lw_p20, List.forall_mem_cons.mpr ⟨lw_p21, List.forall_mem_cons.mpr ⟨lw_p22, List.forall_mem_cons.mpr ⟨lw_p23, List.forall_mem_cons.mpr ⟨lw_p24, List.forall_mem_cons.mpr ⟨lw_p25, List.forall_mem_cons.mpr ⟨lw_p26, List.forall_mem_cons.mpr ⟨lw_p27, List.forall_mem_cons.mpr ⟨lw_p28, List.forall_mem_cons.mpr ⟨lw_p29, List.forall_mem_cons.mpr ⟨lw_p30, List.forall_mem_cons.mpr ⟨lw_p31, fun _ h => absurd h List.not_mem_nil⟩⟩⟩⟩⟩⟩⟩⟩⟩⟩⟩⟩⟩⟩⟩⟩
theorem lw_p32 : lw_okq (⟨"EncounterLedgerModel", "refuses", "(I)I"⟩, 46) := ⟨⟨by decide +kernel, by decide +kernel⟩, List.mem_of_getElem? (i := 876) (by decide +kernel), List.mem_of_getElem? (i := 1040) (by decide +kernel), List.mem_of_getElem? (i := 1041) (by decide +kernel)⟩
theorem lw_p33 : lw_okq (⟨"EncounterLedgerModel", "remembers", "()V"⟩, 46) := ⟨⟨by decide +kernel, by decide +kernel⟩, List.mem_of_getElem? (i := 876) (by decide +kernel), List.mem_of_getElem? (i := 1044) (by decide +kernel), List.mem_of_getElem? (i := 1045) (by decide +kernel)⟩
theorem lw_p34 : lw_okq (⟨"EncounterLedgerModel", "passAll", "([IIZ)V"⟩, 46) := ⟨⟨by decide +kernel, by decide +kernel⟩, List.mem_of_getElem? (i := 876) (by decide +kernel), List.mem_of_getElem? (i := 1048) (by decide +kernel), List.mem_of_getElem? (i := 1049) (by decide +kernel)⟩
theorem lw_p35 : lw_okq (⟨"EncounterLedgerModel", "passes", "([I[I)V"⟩, 46) := ⟨⟨by decide +kernel, by decide +kernel⟩, List.mem_of_getElem? (i := 876) (by decide +kernel), List.mem_of_getElem? (i := 1052) (by decide +kernel), List.mem_of_getElem? (i := 1053) (by decide +kernel)⟩
theorem lw_p36 : lw_okq (⟨"EncounterLedgerModel", "pass", "(I[I)I"⟩, 46) := ⟨⟨by decide +kernel, by decide +kernel⟩, List.mem_of_getElem? (i := 876) (by decide +kernel), List.mem_of_getElem? (i := 1056) (by decide +kernel), List.mem_of_getElem? (i := 1057) (by decide +kernel)⟩
theorem lw_p37 : lw_okq (⟨"EncounterLedgerModel", "passCounts", "([I)V"⟩, 46) := ⟨⟨by decide +kernel, by decide +kernel⟩, List.mem_of_getElem? (i := 876) (by decide +kernel), List.mem_of_getElem? (i := 1060) (by decide +kernel), List.mem_of_getElem? (i := 1061) (by decide +kernel)⟩
theorem lw_p38 : lw_okq (⟨"EncounterLedgerModel", "notes", "(III)V"⟩, 46) := ⟨⟨by decide +kernel, by decide +kernel⟩, List.mem_of_getElem? (i := 876) (by decide +kernel), List.mem_of_getElem? (i := 1064) (by decide +kernel), List.mem_of_getElem? (i := 1065) (by decide +kernel)⟩
theorem lw_p39 : lw_okq (⟨"EncounterLedgerModel", "isFighter", "(I)Z"⟩, 46) := ⟨⟨by decide +kernel, by decide +kernel⟩, List.mem_of_getElem? (i := 876) (by decide +kernel), List.mem_of_getElem? (i := 1076) (by decide +kernel), List.mem_of_getElem? (i := 1077) (by decide +kernel)⟩
theorem lw_p40 : lw_okq (⟨"EncounterLedgerModel", "draws", "()I"⟩, 46) := ⟨⟨by decide +kernel, by decide +kernel⟩, List.mem_of_getElem? (i := 876) (by decide +kernel), List.mem_of_getElem? (i := 1084) (by decide +kernel), List.mem_of_getElem? (i := 1085) (by decide +kernel)⟩
theorem lw_p41 : lw_okq (⟨"EncounterLedgerModel", "isAhead", "(II)Z"⟩, 46) := ⟨⟨by decide +kernel, by decide +kernel⟩, List.mem_of_getElem? (i := 876) (by decide +kernel), List.mem_of_getElem? (i := 1089) (by decide +kernel), List.mem_of_getElem? (i := 1090) (by decide +kernel)⟩
theorem lw_p42 : lw_okq (⟨"EncounterLedgerModel", "beginsTurn", "()V"⟩, 46) := ⟨⟨by decide +kernel, by decide +kernel⟩, List.mem_of_getElem? (i := 876) (by decide +kernel), List.mem_of_getElem? (i := 1093) (by decide +kernel), List.mem_of_getElem? (i := 1094) (by decide +kernel)⟩
theorem lw_p43 : lw_okq (⟨"EncounterLedgerModel", "current", "()I"⟩, 46) := ⟨⟨by decide +kernel, by decide +kernel⟩, List.mem_of_getElem? (i := 876) (by decide +kernel), List.mem_of_getElem? (i := 1097) (by decide +kernel), List.mem_of_getElem? (i := 1098) (by decide +kernel)⟩
theorem lw_p44 : lw_okq (⟨"EncounterLedgerModel", "counts", "(II)V"⟩, 46) := ⟨⟨by decide +kernel, by decide +kernel⟩, List.mem_of_getElem? (i := 876) (by decide +kernel), List.mem_of_getElem? (i := 1101) (by decide +kernel), List.mem_of_getElem? (i := 1102) (by decide +kernel)⟩
theorem lw_p45 : lw_okq (⟨"EncounterLedgerModel", "partOf", "(II)I"⟩, 46) := ⟨⟨by decide +kernel, by decide +kernel⟩, List.mem_of_getElem? (i := 876) (by decide +kernel), List.mem_of_getElem? (i := 1105) (by decide +kernel), List.mem_of_getElem? (i := 1106) (by decide +kernel)⟩
theorem lw_p46 : lw_okq (⟨"EncounterLedgerModel", "endsAt", "(I)I"⟩, 46) := ⟨⟨by decide +kernel, by decide +kernel⟩, List.mem_of_getElem? (i := 876) (by decide +kernel), List.mem_of_getElem? (i := 1109) (by decide +kernel), List.mem_of_getElem? (i := 1110) (by decide +kernel)⟩
theorem lw_p47 : lw_okq (⟨"EncounterLedgerModel", "poisonBy", "(II)I"⟩, 46) := ⟨⟨by decide +kernel, by decide +kernel⟩, List.mem_of_getElem? (i := 876) (by decide +kernel), List.mem_of_getElem? (i := 1113) (by decide +kernel), List.mem_of_getElem? (i := 1114) (by decide +kernel)⟩
def lw_privs_3 : List (MethodName × Nat) := [(⟨"EncounterLedgerModel", "refuses", "(I)I"⟩, 46), (⟨"EncounterLedgerModel", "remembers", "()V"⟩, 46), (⟨"EncounterLedgerModel", "passAll", "([IIZ)V"⟩, 46), (⟨"EncounterLedgerModel", "passes", "([I[I)V"⟩, 46), (⟨"EncounterLedgerModel", "pass", "(I[I)I"⟩, 46), (⟨"EncounterLedgerModel", "passCounts", "([I)V"⟩, 46), (⟨"EncounterLedgerModel", "notes", "(III)V"⟩, 46), (⟨"EncounterLedgerModel", "isFighter", "(I)Z"⟩, 46), (⟨"EncounterLedgerModel", "draws", "()I"⟩, 46), (⟨"EncounterLedgerModel", "isAhead", "(II)Z"⟩, 46), (⟨"EncounterLedgerModel", "beginsTurn", "()V"⟩, 46), (⟨"EncounterLedgerModel", "current", "()I"⟩, 46), (⟨"EncounterLedgerModel", "counts", "(II)V"⟩, 46), (⟨"EncounterLedgerModel", "partOf", "(II)I"⟩, 46), (⟨"EncounterLedgerModel", "endsAt", "(I)I"⟩, 46), (⟨"EncounterLedgerModel", "poisonBy", "(II)I"⟩, 46)]
theorem lw_r3 : ∀ q ∈ lw_privs_3, lw_okq q := List.forall_mem_cons.mpr ⟨lw_p32, List.forall_mem_cons.mpr ⟨lw_p33, List.forall_mem_cons.mpr ⟨lw_p34, List.forall_mem_cons.mpr ⟨lw_p35, List.forall_mem_cons.mpr ⟨lw_p36, List.forall_mem_cons.mpr ⟨lw_p37, List.forall_mem_cons.mpr ⟨lw_p38, List.forall_mem_cons.mpr ⟨lw_p39, List.forall_mem_cons.mpr ⟨lw_p40, List.forall_mem_cons.mpr ⟨lw_p41, List.forall_mem_cons.mpr ⟨lw_p42, List.forall_mem_cons.mpr ⟨lw_p43, List.forall_mem_cons.mpr ⟨lw_p44, List.forall_mem_cons.mpr ⟨lw_p45, List.forall_mem_cons.mpr ⟨lw_p46, List.forall_mem_cons.mpr ⟨lw_p47, fun _ h => absurd h List.not_mem_nil⟩⟩⟩⟩⟩⟩⟩⟩⟩⟩⟩⟩⟩⟩⟩⟩
theorem lw_p48 : lw_okq (⟨"EncounterLedgerModel", "harms", "(IIZ)I"⟩, 46) := ⟨⟨by decide +kernel, by decide +kernel⟩, List.mem_of_getElem? (i := 876) (by decide +kernel), List.mem_of_getElem? (i := 1117) (by decide +kernel), List.mem_of_getElem? (i := 1118) (by decide +kernel)⟩
theorem lw_p49 : lw_okq (⟨"EncounterLedgerModel", "isDown", "(I)Z"⟩, 46) := ⟨⟨by decide +kernel, by decide +kernel⟩, List.mem_of_getElem? (i := 876) (by decide +kernel), List.mem_of_getElem? (i := 1121) (by decide +kernel), List.mem_of_getElem? (i := 1122) (by decide +kernel)⟩
theorem lw_p50 : lw_okq (⟨"EncounterLedgerModel", "sumOf", "(II)I"⟩, 46) := ⟨⟨by decide +kernel, by decide +kernel⟩, List.mem_of_getElem? (i := 876) (by decide +kernel), List.mem_of_getElem? (i := 1125) (by decide +kernel), List.mem_of_getElem? (i := 1126) (by decide +kernel)⟩
theorem lw_p51 : lw_okq (⟨"EncounterLedgerModel", "passesTurn", "()V"⟩, 46) := ⟨⟨by decide +kernel, by decide +kernel⟩, List.mem_of_getElem? (i := 876) (by decide +kernel), List.mem_of_getElem? (i := 1137) (by decide +kernel), List.mem_of_getElem? (i := 1138) (by decide +kernel)⟩
theorem lw_p52 : lw_okq (⟨"EncounterLedgerModel", "canAct", "(I)Z"⟩, 46) := ⟨⟨by decide +kernel, by decide +kernel⟩, List.mem_of_getElem? (i := 876) (by decide +kernel), List.mem_of_getElem? (i := 1145) (by decide +kernel), List.mem_of_getElem? (i := 1146) (by decide +kernel)⟩
theorem lw_p53 : lw_okq (⟨"EncounterLedgerModel", "placeOf", "(I)I"⟩, 46) := ⟨⟨by decide +kernel, by decide +kernel⟩, List.mem_of_getElem? (i := 876) (by decide +kernel), List.mem_of_getElem? (i := 1149) (by decide +kernel), List.mem_of_getElem? (i := 1150) (by decide +kernel)⟩
theorem lw_p54 : lw_okq (⟨"EncounterLedgerModel", "findSteps", "()V"⟩, 46) := ⟨⟨by decide +kernel, by decide +kernel⟩, List.mem_of_getElem? (i := 876) (by decide +kernel), List.mem_of_getElem? (i := 1157) (by decide +kernel), List.mem_of_getElem? (i := 1158) (by decide +kernel)⟩
theorem lw_p55 : lw_okq (⟨"EncounterLedgerModel", "isHeld", "(II)Z"⟩, 46) := ⟨⟨by decide +kernel, by decide +kernel⟩, List.mem_of_getElem? (i := 876) (by decide +kernel), List.mem_of_getElem? (i := 1164) (by decide +kernel), List.mem_of_getElem? (i := 1165) (by decide +kernel)⟩
theorem lw_p56 : lw_okq (⟨"EncounterLedgerModel", "left", "()I"⟩, 46) := ⟨⟨by decide +kernel, by decide +kernel⟩, List.mem_of_getElem? (i := 876) (by decide +kernel), List.mem_of_getElem? (i := 1168) (by decide +kernel), List.mem_of_getElem? (i := 1169) (by decide +kernel)⟩
theorem lw_p57 : lw_okq (⟨"EncounterLedgerModel", "areNeighbors", "(II)Z"⟩, 46) := ⟨⟨by decide +kernel, by decide +kernel⟩, List.mem_of_getElem? (i := 876) (by decide +kernel), List.mem_of_getElem? (i := 1180) (by decide +kernel), List.mem_of_getElem? (i := 1181) (by decide +kernel)⟩
theorem lw_p58 : lw_okq (⟨"EncounterLedgerModel", "comes", "(IZ)V"⟩, 46) := ⟨⟨by decide +kernel, by decide +kernel⟩, List.mem_of_getElem? (i := 876) (by decide +kernel), List.mem_of_getElem? (i := 1191) (by decide +kernel), List.mem_of_getElem? (i := 1192) (by decide +kernel)⟩
theorem lw_p59 : lw_okq (⟨"EncounterLedgerModel", "takesPower", "()Z"⟩, 46) := ⟨⟨by decide +kernel, by decide +kernel⟩, List.mem_of_getElem? (i := 876) (by decide +kernel), List.mem_of_getElem? (i := 1199) (by decide +kernel), List.mem_of_getElem? (i := 1200) (by decide +kernel)⟩
theorem lw_p60 : lw_okq (⟨"EncounterLedgerModel", "takes", "(III)Z"⟩, 46) := ⟨⟨by decide +kernel, by decide +kernel⟩, List.mem_of_getElem? (i := 876) (by decide +kernel), List.mem_of_getElem? (i := 1206) (by decide +kernel), List.mem_of_getElem? (i := 1207) (by decide +kernel)⟩
theorem lw_p61 : lw_okq (⟨"EncounterLedgerModel", "skips", "(I)Z"⟩, 46) := ⟨⟨by decide +kernel, by decide +kernel⟩, List.mem_of_getElem? (i := 876) (by decide +kernel), List.mem_of_getElem? (i := 1210) (by decide +kernel), List.mem_of_getElem? (i := 1211) (by decide +kernel)⟩
theorem lw_p62 : lw_okq (⟨"EncounterLedgerModel", "takesEffect", "()Z"⟩, 46) := ⟨⟨by decide +kernel, by decide +kernel⟩, List.mem_of_getElem? (i := 876) (by decide +kernel), List.mem_of_getElem? (i := 1214) (by decide +kernel), List.mem_of_getElem? (i := 1215) (by decide +kernel)⟩
theorem lw_p63 : lw_okq (⟨"EncounterLedgerModel", "takesNumber", "(I)Z"⟩, 46) := ⟨⟨by decide +kernel, by decide +kernel⟩, List.mem_of_getElem? (i := 876) (by decide +kernel), List.mem_of_getElem? (i := 1218) (by decide +kernel), List.mem_of_getElem? (i := 1219) (by decide +kernel)⟩
def lw_privs_4 : List (MethodName × Nat) := [(⟨"EncounterLedgerModel", "harms", "(IIZ)I"⟩, 46), (⟨"EncounterLedgerModel", "isDown", "(I)Z"⟩, 46), (⟨"EncounterLedgerModel", "sumOf", "(II)I"⟩, 46), (⟨"EncounterLedgerModel", "passesTurn", "()V"⟩, 46), (⟨"EncounterLedgerModel", "canAct", "(I)Z"⟩, 46), (⟨"EncounterLedgerModel", "placeOf", "(I)I"⟩, 46), (⟨"EncounterLedgerModel", "findSteps", "()V"⟩, 46), (⟨"EncounterLedgerModel", "isHeld", "(II)Z"⟩, 46), (⟨"EncounterLedgerModel", "left", "()I"⟩, 46), (⟨"EncounterLedgerModel", "areNeighbors", "(II)Z"⟩, 46), (⟨"EncounterLedgerModel", "comes", "(IZ)V"⟩, 46), (⟨"EncounterLedgerModel", "takesPower", "()Z"⟩, 46), (⟨"EncounterLedgerModel", "takes", "(III)Z"⟩, 46), (⟨"EncounterLedgerModel", "skips", "(I)Z"⟩, 46), (⟨"EncounterLedgerModel", "takesEffect", "()Z"⟩, 46), (⟨"EncounterLedgerModel", "takesNumber", "(I)Z"⟩, 46)]
theorem lw_r4 : ∀ q ∈ lw_privs_4, lw_okq q := List.forall_mem_cons.mpr ⟨lw_p48, List.forall_mem_cons.mpr ⟨lw_p49, List.forall_mem_cons.mpr ⟨lw_p50, List.forall_mem_cons.mpr ⟨lw_p51, List.forall_mem_cons.mpr ⟨lw_p52, List.forall_mem_cons.mpr ⟨lw_p53, List.forall_mem_cons.mpr ⟨lw_p54, List.forall_mem_cons.mpr ⟨lw_p55, List.forall_mem_cons.mpr ⟨lw_p56, List.forall_mem_cons.mpr ⟨lw_p57, List.forall_mem_cons.mpr ⟨lw_p58, List.forall_mem_cons.mpr ⟨lw_p59, List.forall_mem_cons.mpr ⟨lw_p60, List.forall_mem_cons.mpr ⟨lw_p61, List.forall_mem_cons.mpr ⟨lw_p62, List.forall_mem_cons.mpr ⟨lw_p63, fun _ h => absurd h List.not_mem_nil⟩⟩⟩⟩⟩⟩⟩⟩⟩⟩⟩⟩⟩⟩⟩⟩
theorem lw_p64 : lw_okq (⟨"EncounterLedgerModel", "findArea", "(IIII)I"⟩, 46) := ⟨⟨by decide +kernel, by decide +kernel⟩, List.mem_of_getElem? (i := 876) (by decide +kernel), List.mem_of_getElem? (i := 1226) (by decide +kernel), List.mem_of_getElem? (i := 1227) (by decide +kernel)⟩
theorem lw_p65 : lw_okq (⟨"EncounterLedgerModel", "inTurn", "(I)I"⟩, 46) := ⟨⟨by decide +kernel, by decide +kernel⟩, List.mem_of_getElem? (i := 876) (by decide +kernel), List.mem_of_getElem? (i := 1240) (by decide +kernel), List.mem_of_getElem? (i := 1241) (by decide +kernel)⟩
theorem lw_p66 : lw_okq (⟨"EncounterLedgerModel", "affects", "(III)V"⟩, 46) := ⟨⟨by decide +kernel, by decide +kernel⟩, List.mem_of_getElem? (i := 876) (by decide +kernel), List.mem_of_getElem? (i := 1244) (by decide +kernel), List.mem_of_getElem? (i := 1245) (by decide +kernel)⟩
theorem lw_p67 : lw_okq (⟨"EncounterLedgerModel", "mends", "(II)I"⟩, 46) := ⟨⟨by decide +kernel, by decide +kernel⟩, List.mem_of_getElem? (i := 876) (by decide +kernel), List.mem_of_getElem? (i := 1248) (by decide +kernel), List.mem_of_getElem? (i := 1249) (by decide +kernel)⟩
theorem lw_p68 : lw_okq (⟨"EncounterLedgerModel", "makes", "(IIIIII)V"⟩, 46) := ⟨⟨by decide +kernel, by decide +kernel⟩, List.mem_of_getElem? (i := 876) (by decide +kernel), List.mem_of_getElem? (i := 1252) (by decide +kernel), List.mem_of_getElem? (i := 1253) (by decide +kernel)⟩
theorem lw_p69 : lw_okq (⟨"EncounterLedgerModel", "refills", "(II)V"⟩, 46) := ⟨⟨by decide +kernel, by decide +kernel⟩, List.mem_of_getElem? (i := 876) (by decide +kernel), List.mem_of_getElem? (i := 1263) (by decide +kernel), List.mem_of_getElem? (i := 1264) (by decide +kernel)⟩
theorem lw_p70 : lw_okq (⟨"EncounterLedgerModel", "fighterMore", "(II)I"⟩, 46) := ⟨⟨by decide +kernel, by decide +kernel⟩, List.mem_of_getElem? (i := 876) (by decide +kernel), List.mem_of_getElem? (i := 1271) (by decide +kernel), List.mem_of_getElem? (i := 1272) (by decide +kernel)⟩
theorem lw_p71 : lw_okq (⟨"EncounterLedgerModel", "entryPart", "(II)I"⟩, 46) := ⟨⟨by decide +kernel, by decide +kernel⟩, List.mem_of_getElem? (i := 876) (by decide +kernel), List.mem_of_getElem? (i := 1287) (by decide +kernel), List.mem_of_getElem? (i := 1288) (by decide +kernel)⟩
theorem lw_p72 : lw_okq (⟨"EncounterLedgerModel", "livesOf", "(I)I"⟩, 46) := ⟨⟨by decide +kernel, by decide +kernel⟩, List.mem_of_getElem? (i := 876) (by decide +kernel), List.mem_of_getElem? (i := 1306) (by decide +kernel), List.mem_of_getElem? (i := 1307) (by decide +kernel)⟩
def lw_privs_5 : List (MethodName × Nat) := [(⟨"EncounterLedgerModel", "findArea", "(IIII)I"⟩, 46), (⟨"EncounterLedgerModel", "inTurn", "(I)I"⟩, 46), (⟨"EncounterLedgerModel", "affects", "(III)V"⟩, 46), (⟨"EncounterLedgerModel", "mends", "(II)I"⟩, 46), (⟨"EncounterLedgerModel", "makes", "(IIIIII)V"⟩, 46), (⟨"EncounterLedgerModel", "refills", "(II)V"⟩, 46), (⟨"EncounterLedgerModel", "fighterMore", "(II)I"⟩, 46), (⟨"EncounterLedgerModel", "entryPart", "(II)I"⟩, 46), (⟨"EncounterLedgerModel", "livesOf", "(I)I"⟩, 46)]
theorem lw_r5 : ∀ q ∈ lw_privs_5, lw_okq q := List.forall_mem_cons.mpr ⟨lw_p64, List.forall_mem_cons.mpr ⟨lw_p65, List.forall_mem_cons.mpr ⟨lw_p66, List.forall_mem_cons.mpr ⟨lw_p67, List.forall_mem_cons.mpr ⟨lw_p68, List.forall_mem_cons.mpr ⟨lw_p69, List.forall_mem_cons.mpr ⟨lw_p70, List.forall_mem_cons.mpr ⟨lw_p71, List.forall_mem_cons.mpr ⟨lw_p72, fun _ h => absurd h List.not_mem_nil⟩⟩⟩⟩⟩⟩⟩⟩⟩
def lw_privs : List (MethodName × Nat) := lw_privs_1 ++ (lw_privs_2 ++ (lw_privs_3 ++ (lw_privs_4 ++ (lw_privs_5))))
def lw_tbl : List Cond := k2_sels lw_privs ++ tables_1
theorem lw_privs_ok : ∀ q ∈ lw_privs, lw_okq q := by
  show ∀ q ∈ lw_privs_1 ++ (lw_privs_2 ++ (lw_privs_3 ++ (lw_privs_4 ++ (lw_privs_5)))), lw_okq q
  exact List.forall_mem_append.mpr ⟨lw_r1, List.forall_mem_append.mpr ⟨lw_r2, List.forall_mem_append.mpr ⟨lw_r3, List.forall_mem_append.mpr ⟨lw_r4, lw_r5⟩⟩⟩⟩

def zr_Ch : String := "EncounterLedger$Changes"
def zr_Co : String := "EncounterLedger$Conditions"
def zr_En : String := "EncounterLedger$Encounter"
def zr_Fi : String := "EncounterLedger$Fighters"
def zr_Jo : String := "EncounterLedger$Journal"
def zr_St : String := "EncounterLedger$State"
def zr_Ta : String := "EncounterLedger$Table"
def zr_Tp : String := "EncounterLedger$Tape"
def zr_Wa : String := "EncounterLedger$Ways"
def zr_EL : String := "EncounterLedger"
def zr_Mo : String := "EncounterLedgerModel"
def zr_La : String := "EncounterLedgerLaw"
def zr_Ar : String := "java/util/Arrays"
def zf_Ch : u_T := fun k => match k with
  | 0 => ("EncounterLedger$Changes", "earlier", "[LEncounterLedger$State;", true)
  | 1 => ("EncounterLedger$Changes", "size", "I", false)
  | _ => ("EncounterLedger$Changes", "next", "I", false)
def zt_Ch : Nat → FieldType := fun k => match k with
  | 0 => .array (.object "EncounterLedger$State")
  | 1 => .int
  | _ => .int
theorem zn_Ch : ∀ a, a < 3 → ∀ b, b < 3 → a ≠ b → (zf_Ch a).2.1 ≠ (zf_Ch b).2.1 := by decide +kernel
theorem zo_Ch : ∀ k, k < 3 → parseFieldDescriptor (zf_Ch k).2.2.1 = some (zt_Ch k) := by decide +kernel
def zf_Co : u_T := fun k => match k with
  | 0 => ("EncounterLedger$Conditions", "rows", "LEncounterLedger$Table;", true)
  | 1 => ("EncounterLedger$Conditions", "journal", "LEncounterLedger$Journal;", true)
  | _ => ("EncounterLedger$Conditions", "poisoners", "[I", true)
def zt_Co : Nat → FieldType := fun k => match k with
  | 0 => .object "EncounterLedger$Table"
  | 1 => .object "EncounterLedger$Journal"
  | _ => .array .int
theorem zn_Co : ∀ a, a < 3 → ∀ b, b < 3 → a ≠ b → (zf_Co a).2.1 ≠ (zf_Co b).2.1 := by decide +kernel
theorem zo_Co : ∀ k, k < 3 → parseFieldDescriptor (zf_Co k).2.2.1 = some (zt_Co k) := by decide +kernel
def zf_En : u_T := fun k => match k with
  | 0 => ("EncounterLedger$Encounter", "order", "LEncounterLedger$Table;", true)
  | 1 => ("EncounterLedger$Encounter", "fighters", "LEncounterLedger$Fighters;", true)
  | 2 => ("EncounterLedger$Encounter", "conditions", "LEncounterLedger$Conditions;", true)
  | 3 => ("EncounterLedger$Encounter", "journal", "LEncounterLedger$Journal;", true)
  | 4 => ("EncounterLedger$Encounter", "round", "I", false)
  | 5 => ("EncounterLedger$Encounter", "place", "I", false)
  | 6 => ("EncounterLedger$Encounter", "steps", "I", false)
  | 7 => ("EncounterLedger$Encounter", "acted", "Z", false)
  | 8 => ("EncounterLedger$Encounter", "opened", "I", false)
  | 9 => ("EncounterLedger$Encounter", "turns", "I", false)
  | _ => ("EncounterLedger$Encounter", "acts", "I", false)
def zt_En : Nat → FieldType := fun k => match k with
  | 0 => .object "EncounterLedger$Table"
  | 1 => .object "EncounterLedger$Fighters"
  | 2 => .object "EncounterLedger$Conditions"
  | 3 => .object "EncounterLedger$Journal"
  | 4 => .int
  | 5 => .int
  | 6 => .int
  | 7 => .boolean
  | 8 => .int
  | 9 => .int
  | _ => .int
theorem zn_En : ∀ a, a < 11 → ∀ b, b < 11 → a ≠ b → (zf_En a).2.1 ≠ (zf_En b).2.1 := by decide +kernel
theorem zo_En : ∀ k, k < 11 → parseFieldDescriptor (zf_En k).2.2.1 = some (zt_En k) := by decide +kernel
def zf_Fi : u_T := fun k => match k with
  | 0 => ("EncounterLedger$Fighters", "rows", "LEncounterLedger$Table;", true)
  | 1 => ("EncounterLedger$Fighters", "conditions", "LEncounterLedger$Conditions;", true)
  | 2 => ("EncounterLedger$Fighters", "journal", "LEncounterLedger$Journal;", true)
  | 3 => ("EncounterLedger$Fighters", "harm", "I", false)
  | _ => ("EncounterLedger$Fighters", "mended", "I", false)
def zt_Fi : Nat → FieldType := fun k => match k with
  | 0 => .object "EncounterLedger$Table"
  | 1 => .object "EncounterLedger$Conditions"
  | 2 => .object "EncounterLedger$Journal"
  | 3 => .int
  | _ => .int
theorem zn_Fi : ∀ a, a < 5 → ∀ b, b < 5 → a ≠ b → (zf_Fi a).2.1 ≠ (zf_Fi b).2.1 := by decide +kernel
theorem zo_Fi : ∀ k, k < 5 → parseFieldDescriptor (zf_Fi k).2.2.1 = some (zt_Fi k) := by decide +kernel
def zf_Jo : u_T := fun k => match k with
  | 0 => ("EncounterLedger$Journal", "numbers", "[I", true)
  | _ => ("EncounterLedger$Journal", "total", "I", false)
def zt_Jo : Nat → FieldType := fun k => match k with
  | 0 => .array .int
  | _ => .int
theorem zn_Jo : ∀ a, a < 2 → ∀ b, b < 2 → a ≠ b → (zf_Jo a).2.1 ≠ (zf_Jo b).2.1 := by decide +kernel
theorem zo_Jo : ∀ k, k < 2 → parseFieldDescriptor (zf_Jo k).2.2.1 = some (zt_Jo k) := by decide +kernel
def zf_St : u_T := fun k => match k with
  | 0 => ("EncounterLedger$State", "journal", "LEncounterLedger$Journal;", true)
  | 1 => ("EncounterLedger$State", "conditions", "LEncounterLedger$Conditions;", true)
  | 2 => ("EncounterLedger$State", "fighters", "LEncounterLedger$Fighters;", true)
  | 3 => ("EncounterLedger$State", "encounter", "LEncounterLedger$Encounter;", true)
  | 4 => ("EncounterLedger$State", "walls", "LEncounterLedger$Table;", true)
  | 5 => ("EncounterLedger$State", "powers", "LEncounterLedger$Table;", true)
  | _ => ("EncounterLedger$State", "rests", "I", false)
def zt_St : Nat → FieldType := fun k => match k with
  | 0 => .object "EncounterLedger$Journal"
  | 1 => .object "EncounterLedger$Conditions"
  | 2 => .object "EncounterLedger$Fighters"
  | 3 => .object "EncounterLedger$Encounter"
  | 4 => .object "EncounterLedger$Table"
  | 5 => .object "EncounterLedger$Table"
  | _ => .int
theorem zn_St : ∀ a, a < 7 → ∀ b, b < 7 → a ≠ b → (zf_St a).2.1 ≠ (zf_St b).2.1 := by decide +kernel
theorem zo_St : ∀ k, k < 7 → parseFieldDescriptor (zf_St k).2.2.1 = some (zt_St k) := by decide +kernel
def zf_Ta : u_T := fun k => match k with
  | 0 => ("EncounterLedger$Table", "width", "I", true)
  | 1 => ("EncounterLedger$Table", "numbers", "[I", true)
  | _ => ("EncounterLedger$Table", "size", "I", false)
def zt_Ta : Nat → FieldType := fun k => match k with
  | 0 => .int
  | 1 => .array .int
  | _ => .int
theorem zn_Ta : ∀ a, a < 3 → ∀ b, b < 3 → a ≠ b → (zf_Ta a).2.1 ≠ (zf_Ta b).2.1 := by decide +kernel
theorem zo_Ta : ∀ k, k < 3 → parseFieldDescriptor (zf_Ta k).2.2.1 = some (zt_Ta k) := by decide +kernel
def zf_Tp : u_T := fun k => match k with
  | 0 => ("EncounterLedger$Tape", "bytes", "[I", true)
  | 1 => ("EncounterLedger$Tape", "parts", "[I", true)
  | 2 => ("EncounterLedger$Tape", "length", "I", false)
  | _ => ("EncounterLedger$Tape", "position", "I", false)
def zt_Tp : Nat → FieldType := fun k => match k with
  | 0 => .array .int
  | 1 => .array .int
  | 2 => .int
  | _ => .int
theorem zn_Tp : ∀ a, a < 4 → ∀ b, b < 4 → a ≠ b → (zf_Tp a).2.1 ≠ (zf_Tp b).2.1 := by decide +kernel
theorem zo_Tp : ∀ k, k < 4 → parseFieldDescriptor (zf_Tp k).2.2.1 = some (zt_Tp k) := by decide +kernel
def zf_Wa : u_T := fun k => match k with
  | 0 => ("EncounterLedger$Ways", "steps", "[I", true)
  | 1 => ("EncounterLedger$Ways", "queue", "[I", true)
  | _ => ("EncounterLedger$Ways", "reached", "I", false)
def zt_Wa : Nat → FieldType := fun k => match k with
  | 0 => .array .int
  | 1 => .array .int
  | _ => .int
theorem zn_Wa : ∀ a, a < 3 → ∀ b, b < 3 → a ≠ b → (zf_Wa a).2.1 ≠ (zf_Wa b).2.1 := by decide +kernel
theorem zo_Wa : ∀ k, k < 3 → parseFieldDescriptor (zf_Wa k).2.2.1 = some (zt_Wa k) := by decide +kernel
def zf_EL : u_T := fun k => match k with
  | 0 => ("EncounterLedger", "now", "LEncounterLedger$State;", true)
  | 1 => ("EncounterLedger", "saved", "LEncounterLedger$State;", true)
  | 2 => ("EncounterLedger", "changes", "LEncounterLedger$Changes;", true)
  | 3 => ("EncounterLedger", "tape", "LEncounterLedger$Tape;", true)
  | 4 => ("EncounterLedger", "ways", "LEncounterLedger$Ways;", true)
  | 5 => ("EncounterLedger", "hasImage", "Z", false)
  | _ => ("EncounterLedger", "latestReason", "I", false)
def zt_EL : Nat → FieldType := fun k => match k with
  | 0 => .object "EncounterLedger$State"
  | 1 => .object "EncounterLedger$State"
  | 2 => .object "EncounterLedger$Changes"
  | 3 => .object "EncounterLedger$Tape"
  | 4 => .object "EncounterLedger$Ways"
  | 5 => .boolean
  | _ => .int
theorem zn_EL : ∀ a, a < 7 → ∀ b, b < 7 → a ≠ b → (zf_EL a).2.1 ≠ (zf_EL b).2.1 := by decide +kernel
theorem zo_EL : ∀ k, k < 7 → parseFieldDescriptor (zf_EL k).2.2.1 = some (zt_EL k) := by decide +kernel
def zf_Mo : u_T := fun k => match k with
  | 0 => ("EncounterLedgerModel", "wall", "[I", true)
  | 1 => ("EncounterLedgerModel", "side", "[I", true)
  | 2 => ("EncounterLedgerModel", "cell", "[I", true)
  | 3 => ("EncounterLedgerModel", "most", "[I", true)
  | 4 => ("EncounterLedgerModel", "life", "[I", true)
  | 5 => ("EncounterLedgerModel", "bonus", "[I", true)
  | 6 => ("EncounterLedgerModel", "speed", "[I", true)
  | 7 => ("EncounterLedgerModel", "score", "[I", true)
  | 8 => ("EncounterLedgerModel", "amount", "[I", true)
  | 9 => ("EncounterLedgerModel", "greatest", "[I", true)
  | 10 => ("EncounterLedgerModel", "order", "[I", true)
  | 11 => ("EncounterLedgerModel", "fighters", "I", false)
  | 12 => ("EncounterLedgerModel", "lastReason", "I", false)
  | 13 => ("EncounterLedgerModel", "journal", "[I", true)
  | 14 => ("EncounterLedgerModel", "entries", "I", false)
  | 15 => ("EncounterLedgerModel", "condition", "[I", true)
  | 16 => ("EncounterLedgerModel", "conditions", "I", false)
  | 17 => ("EncounterLedgerModel", "harmed", "I", false)
  | 18 => ("EncounterLedgerModel", "mended", "I", false)
  | 19 => ("EncounterLedgerModel", "isOn", "I", false)
  | 20 => ("EncounterLedgerModel", "now", "I", false)
  | 21 => ("EncounterLedgerModel", "orderMany", "I", false)
  | 22 => ("EncounterLedgerModel", "round", "I", false)
  | 23 => ("EncounterLedgerModel", "made", "I", false)
  | 24 => ("EncounterLedgerModel", "acted", "I", false)
  | 25 => ("EncounterLedgerModel", "z", "I", false)
  | 26 => ("EncounterLedgerModel", "begun", "I", false)
  | 27 => ("EncounterLedgerModel", "turns", "I", false)
  | 28 => ("EncounterLedgerModel", "deeds", "I", false)
  | 29 => ("EncounterLedgerModel", "rests", "I", false)
  | 30 => ("EncounterLedgerModel", "poisoner", "[I", true)
  | 31 => ("EncounterLedgerModel", "steps", "[I", true)
  | 32 => ("EncounterLedgerModel", "queue", "[I", true)
  | 33 => ("EncounterLedgerModel", "power", "[I", true)
  | 34 => ("EncounterLedgerModel", "tape", "[I", true)
  | 35 => ("EncounterLedgerModel", "read", "[I", true)
  | 36 => ("EncounterLedgerModel", "length", "I", false)
  | 37 => ("EncounterLedgerModel", "at", "I", false)
  | 38 => ("EncounterLedgerModel", "powersRead", "I", false)
  | 39 => ("EncounterLedgerModel", "within", "[Z", true)
  | 40 => ("EncounterLedgerModel", "earlier", "[I", true)
  | 41 => ("EncounterLedgerModel", "saved", "[I", true)
  | 42 => ("EncounterLedgerModel", "changes", "I", false)
  | 43 => ("EncounterLedgerModel", "cursor", "I", false)
  | 44 => ("EncounterLedgerModel", "isSaved", "Z", false)
  | _ => ("EncounterLedgerModel", "isKeeping", "Z", false)
def zt_Mo : Nat → FieldType := fun k => match k with
  | 0 => .array .int
  | 1 => .array .int
  | 2 => .array .int
  | 3 => .array .int
  | 4 => .array .int
  | 5 => .array .int
  | 6 => .array .int
  | 7 => .array .int
  | 8 => .array .int
  | 9 => .array .int
  | 10 => .array .int
  | 11 => .int
  | 12 => .int
  | 13 => .array .int
  | 14 => .int
  | 15 => .array .int
  | 16 => .int
  | 17 => .int
  | 18 => .int
  | 19 => .int
  | 20 => .int
  | 21 => .int
  | 22 => .int
  | 23 => .int
  | 24 => .int
  | 25 => .int
  | 26 => .int
  | 27 => .int
  | 28 => .int
  | 29 => .int
  | 30 => .array .int
  | 31 => .array .int
  | 32 => .array .int
  | 33 => .array .int
  | 34 => .array .int
  | 35 => .array .int
  | 36 => .int
  | 37 => .int
  | 38 => .int
  | 39 => .array .boolean
  | 40 => .array .int
  | 41 => .array .int
  | 42 => .int
  | 43 => .int
  | 44 => .boolean
  | _ => .boolean
theorem zn_Mo : ∀ a, a < 46 → ∀ b, b < 46 → a ≠ b → (zf_Mo a).2.1 ≠ (zf_Mo b).2.1 := by decide +kernel
theorem zo_Mo : ∀ k, k < 46 → parseFieldDescriptor (zf_Mo k).2.2.1 = some (zt_Mo k) := by decide +kernel
abbrev zCl : List vw_C := [(zr_Ch, zf_Ch, 3), (zr_Co, zf_Co, 3), (zr_En, zf_En, 11), (zr_Fi, zf_Fi, 5), (zr_Jo, zf_Jo, 2), (zr_St, zf_St, 7), (zr_Ta, zf_Ta, 3), (zr_Tp, zf_Tp, 4), (zr_Wa, zf_Wa, 3), (zr_EL, zf_EL, 7), (zr_Mo, zf_Mo, 46)]
abbrev zb_Ch_init : ByteArray := prog_2_method_1_code
def zy_Ch_init : MethodName := ⟨zr_Ch, "<init>", "()V"⟩
abbrev zb_Ch_keep : ByteArray := prog_2_method_2_code
def zy_Ch_keep : MethodName := ⟨zr_Ch, "keep", "(LEncounterLedger$State;)V"⟩
abbrev zb_Ch_takeBack : ByteArray := prog_2_method_3_code
def zy_Ch_takeBack : MethodName := ⟨zr_Ch, "takeBack", "(LEncounterLedger$State;)V"⟩
abbrev zb_Ch_forget : ByteArray := prog_2_method_4_code
def zy_Ch_forget : MethodName := ⟨zr_Ch, "forget", "()V"⟩
abbrev zb_Co_init : ByteArray := prog_3_method_1_code
def zy_Co_init : MethodName := ⟨zr_Co, "<init>", "(LEncounterLedger$Journal;)V"⟩
abbrev zb_Co_size : ByteArray := prog_3_method_2_code
def zy_Co_size : MethodName := ⟨zr_Co, "size", "()I"⟩
abbrev zb_Co_has : ByteArray := prog_3_method_3_code
def zy_Co_has : MethodName := ⟨zr_Co, "has", "(I)Z"⟩
abbrev zb_Co_at : ByteArray := prog_3_method_4_code
def zy_Co_at : MethodName := ⟨zr_Co, "at", "(II)I"⟩
abbrev zb_Co_find : ByteArray := prog_3_method_5_code
def zy_Co_find : MethodName := ⟨zr_Co, "find", "(III)I"⟩
abbrev zb_Co_make : ByteArray := prog_3_method_6_code
def zy_Co_make : MethodName := ⟨zr_Co, "make", "(IIIIII)V"⟩
abbrev zb_Co_sumOf : ByteArray := prog_3_method_7_code
def zy_Co_sumOf : MethodName := ⟨zr_Co, "sumOf", "(II)I"⟩
abbrev zb_Co_numberOf : ByteArray := prog_3_method_8_code
def zy_Co_numberOf : MethodName := ⟨zr_Co, "numberOf", "(I)I"⟩
abbrev zb_Co_listPoisoners : ByteArray := prog_3_method_9_code
def zy_Co_listPoisoners : MethodName := ⟨zr_Co, "listPoisoners", "(I)I"⟩
abbrev zb_Co_poisonBy : ByteArray := prog_3_method_10_code
def zy_Co_poisonBy : MethodName := ⟨zr_Co, "poisonBy", "(II)I"⟩
abbrev zb_Co_countTurnEnd : ByteArray := prog_3_method_11_code
def zy_Co_countTurnEnd : MethodName := ⟨zr_Co, "countTurnEnd", "(I)V"⟩
abbrev zb_Co_countSourceTurn : ByteArray := prog_3_method_12_code
def zy_Co_countSourceTurn : MethodName := ⟨zr_Co, "countSourceTurn", "(I)V"⟩
abbrev zb_Co_endAllOf : ByteArray := prog_3_method_13_code
def zy_Co_endAllOf : MethodName := ⟨zr_Co, "endAllOf", "(I)V"⟩
abbrev zb_Co_endHarmedOf : ByteArray := prog_3_method_14_code
def zy_Co_endHarmedOf : MethodName := ⟨zr_Co, "endHarmedOf", "(I)V"⟩
abbrev zb_Co_endOfEncounter : ByteArray := prog_3_method_15_code
def zy_Co_endOfEncounter : MethodName := ⟨zr_Co, "endOfEncounter", "()V"⟩
abbrev zb_Co_endWith : ByteArray := prog_3_method_16_code
def zy_Co_endWith : MethodName := ⟨zr_Co, "endWith", "(I)V"⟩
abbrev zb_Co_endCounted : ByteArray := prog_3_method_17_code
def zy_Co_endCounted : MethodName := ⟨zr_Co, "endCounted", "()V"⟩
abbrev zb_Co_copyFrom : ByteArray := prog_3_method_18_code
def zy_Co_copyFrom : MethodName := ⟨zr_Co, "copyFrom", "(LEncounterLedger$Conditions;)V"⟩
abbrev zb_En_init : ByteArray := prog_4_method_1_code
def zy_En_init : MethodName := ⟨zr_En, "<init>", "(LEncounterLedger$Fighters;LEncounterLedger$Conditions;LEncounterLedger$Journal;)V"⟩
abbrev zb_En_isOn : ByteArray := prog_4_method_2_code
def zy_En_isOn : MethodName := ⟨zr_En, "isOn", "()Z"⟩
abbrev zb_En_current : ByteArray := prog_4_method_3_code
def zy_En_current : MethodName := ⟨zr_En, "current", "()I"⟩
abbrev zb_En_atPlace : ByteArray := prog_4_method_4_code
def zy_En_atPlace : MethodName := ⟨zr_En, "atPlace", "(I)I"⟩
abbrev zb_En_placeOf : ByteArray := prog_4_method_5_code
def zy_En_placeOf : MethodName := ⟨zr_En, "placeOf", "(I)I"⟩
abbrev zb_En_inOrder : ByteArray := prog_4_method_6_code
def zy_En_inOrder : MethodName := ⟨zr_En, "inOrder", "(I)I"⟩
abbrev zb_En_open : ByteArray := prog_4_method_7_code
def zy_En_open : MethodName := ⟨zr_En, "open", "(I)V"⟩
abbrev zb_En_insert : ByteArray := prog_4_method_8_code
def zy_En_insert : MethodName := ⟨zr_En, "insert", "(I)V"⟩
abbrev zb_En_isAhead : ByteArray := prog_4_method_9_code
def zy_En_isAhead : MethodName := ⟨zr_En, "isAhead", "(II)Z"⟩
abbrev zb_En_startTurn : ByteArray := prog_4_method_10_code
def zy_En_startTurn : MethodName := ⟨zr_En, "startTurn", "()V"⟩
abbrev zb_En_leaveTurn : ByteArray := prog_4_method_11_code
def zy_En_leaveTurn : MethodName := ⟨zr_En, "leaveTurn", "()V"⟩
abbrev zb_En_comesLater : ByteArray := prog_4_method_12_code
def zy_En_comesLater : MethodName := ⟨zr_En, "comesLater", "(I)Z"⟩
abbrev zb_En_putBehind : ByteArray := prog_4_method_13_code
def zy_En_putBehind : MethodName := ⟨zr_En, "putBehind", "(I)V"⟩
abbrev zb_En_act : ByteArray := prog_4_method_14_code
def zy_En_act : MethodName := ⟨zr_En, "act", "(I)V"⟩
abbrev zb_En_close : ByteArray := prog_4_method_15_code
def zy_En_close : MethodName := ⟨zr_En, "close", "()V"⟩
abbrev zb_En_copyFrom : ByteArray := prog_4_method_16_code
def zy_En_copyFrom : MethodName := ⟨zr_En, "copyFrom", "(LEncounterLedger$Encounter;)V"⟩
abbrev zb_Fi_init : ByteArray := prog_5_method_1_code
def zy_Fi_init : MethodName := ⟨zr_Fi, "<init>", "(LEncounterLedger$Conditions;LEncounterLedger$Journal;)V"⟩
abbrev zb_Fi_size : ByteArray := prog_5_method_2_code
def zy_Fi_size : MethodName := ⟨zr_Fi, "size", "()I"⟩
abbrev zb_Fi_has : ByteArray := prog_5_method_3_code
def zy_Fi_has : MethodName := ⟨zr_Fi, "has", "(I)Z"⟩
abbrev zb_Fi_at : ByteArray := prog_5_method_4_code
def zy_Fi_at : MethodName := ⟨zr_Fi, "at", "(II)I"⟩
abbrev zb_Fi_put : ByteArray := prog_5_method_5_code
def zy_Fi_put : MethodName := ⟨zr_Fi, "put", "(III)V"⟩
abbrev zb_Fi_join : ByteArray := prog_5_method_6_code
def zy_Fi_join : MethodName := ⟨zr_Fi, "join", "(IIIII)I"⟩
abbrev zb_Fi_standingOn : ByteArray := prog_5_method_7_code
def zy_Fi_standingOn : MethodName := ⟨zr_Fi, "standingOn", "(I)I"⟩
abbrev zb_Fi_isDown : ByteArray := prog_5_method_8_code
def zy_Fi_isDown : MethodName := ⟨zr_Fi, "isDown", "(I)Z"⟩
abbrev zb_Fi_canAct : ByteArray := prog_5_method_9_code
def zy_Fi_canAct : MethodName := ⟨zr_Fi, "canAct", "(I)Z"⟩
abbrev zb_Fi_areFoes : ByteArray := prog_5_method_10_code
def zy_Fi_areFoes : MethodName := ⟨zr_Fi, "areFoes", "(II)Z"⟩
abbrev zb_Fi_numberDown : ByteArray := prog_5_method_11_code
def zy_Fi_numberDown : MethodName := ⟨zr_Fi, "numberDown", "()I"⟩
abbrev zb_Fi_livesOf : ByteArray := prog_5_method_12_code
def zy_Fi_livesOf : MethodName := ⟨zr_Fi, "livesOf", "(I)I"⟩
abbrev zb_Fi_moveTo : ByteArray := prog_5_method_13_code
def zy_Fi_moveTo : MethodName := ⟨zr_Fi, "moveTo", "(II)V"⟩
abbrev zb_Fi_hurt : ByteArray := prog_5_method_14_code
def zy_Fi_hurt : MethodName := ⟨zr_Fi, "hurt", "(II)I"⟩
abbrev zb_Fi_lose : ByteArray := prog_5_method_15_code
def zy_Fi_lose : MethodName := ⟨zr_Fi, "lose", "(II)I"⟩
abbrev zb_Fi_sufferPoisons : ByteArray := prog_5_method_16_code
def zy_Fi_sufferPoisons : MethodName := ⟨zr_Fi, "sufferPoisons", "(I)V"⟩
abbrev zb_Fi_mend : ByteArray := prog_5_method_17_code
def zy_Fi_mend : MethodName := ⟨zr_Fi, "mend", "(II)I"⟩
abbrev zb_Fi_spend : ByteArray := prog_5_method_18_code
def zy_Fi_spend : MethodName := ⟨zr_Fi, "spend", "(III)V"⟩
abbrev zb_Fi_refill : ByteArray := prog_5_method_19_code
def zy_Fi_refill : MethodName := ⟨zr_Fi, "refill", "(II)V"⟩
abbrev zb_Fi_restShort : ByteArray := prog_5_method_20_code
def zy_Fi_restShort : MethodName := ⟨zr_Fi, "restShort", "(I)I"⟩
abbrev zb_Fi_restLong : ByteArray := prog_5_method_21_code
def zy_Fi_restLong : MethodName := ⟨zr_Fi, "restLong", "(I)I"⟩
abbrev zb_Fi_copyFrom : ByteArray := prog_5_method_22_code
def zy_Fi_copyFrom : MethodName := ⟨zr_Fi, "copyFrom", "(LEncounterLedger$Fighters;)V"⟩
abbrev zb_Jo_init : ByteArray := prog_6_method_1_code
def zy_Jo_init : MethodName := ⟨zr_Jo, "<init>", "()V"⟩
abbrev zb_Jo_write : ByteArray := prog_6_method_2_code
def zy_Jo_write : MethodName := ⟨zr_Jo, "write", "(III)V"⟩
abbrev zb_Jo_keeps : ByteArray := prog_6_method_3_code
def zy_Jo_keeps : MethodName := ⟨zr_Jo, "keeps", "(I)Z"⟩
abbrev zb_Jo_keepsAll : ByteArray := prog_6_method_4_code
def zy_Jo_keepsAll : MethodName := ⟨zr_Jo, "keepsAll", "()Z"⟩
abbrev zb_Jo_at : ByteArray := prog_6_method_5_code
def zy_Jo_at : MethodName := ⟨zr_Jo, "at", "(II)I"⟩
abbrev zb_Jo_tells : ByteArray := prog_6_method_6_code
def zy_Jo_tells : MethodName := ⟨zr_Jo, "tells", "(III)Z"⟩
abbrev zb_Jo_numberOf : ByteArray := prog_6_method_7_code
def zy_Jo_numberOf : MethodName := ⟨zr_Jo, "numberOf", "(II)I"⟩
abbrev zb_Jo_sumOf : ByteArray := prog_6_method_8_code
def zy_Jo_sumOf : MethodName := ⟨zr_Jo, "sumOf", "(II)I"⟩
abbrev zb_Jo_sumOfAmounts : ByteArray := prog_6_method_9_code
def zy_Jo_sumOfAmounts : MethodName := ⟨zr_Jo, "sumOfAmounts", "(II)I"⟩
abbrev zb_Jo_lifeOf : ByteArray := prog_6_method_10_code
def zy_Jo_lifeOf : MethodName := ⟨zr_Jo, "lifeOf", "(I)I"⟩
abbrev zb_Jo_spentBy : ByteArray := prog_6_method_11_code
def zy_Jo_spentBy : MethodName := ⟨zr_Jo, "spentBy", "(I)I"⟩
abbrev zb_Jo_latestMoveOf : ByteArray := prog_6_method_12_code
def zy_Jo_latestMoveOf : MethodName := ⟨zr_Jo, "latestMoveOf", "(I)I"⟩
abbrev zb_Jo_copyFrom : ByteArray := prog_6_method_13_code
def zy_Jo_copyFrom : MethodName := ⟨zr_Jo, "copyFrom", "(LEncounterLedger$Journal;)V"⟩
abbrev zb_St_init : ByteArray := prog_7_method_1_code
def zy_St_init : MethodName := ⟨zr_St, "<init>", "()V"⟩
abbrev zb_St_isFree : ByteArray := prog_7_method_2_code
def zy_St_isFree : MethodName := ⟨zr_St, "isFree", "(I)Z"⟩
abbrev zb_St_numberOfWalls : ByteArray := prog_7_method_3_code
def zy_St_numberOfWalls : MethodName := ⟨zr_St, "numberOfWalls", "()I"⟩
abbrev zb_St_become : ByteArray := prog_7_method_4_code
def zy_St_become : MethodName := ⟨zr_St, "become", "(LEncounterLedger$State;)V"⟩
abbrev zb_Ta_init : ByteArray := prog_8_method_1_code
def zy_Ta_init : MethodName := ⟨zr_Ta, "<init>", "(III)V"⟩
abbrev zb_Ta_used : ByteArray := prog_8_method_2_code
def zy_Ta_used : MethodName := ⟨zr_Ta, "used", "()I"⟩
abbrev zb_Ta_holds : ByteArray := prog_8_method_3_code
def zy_Ta_holds : MethodName := ⟨zr_Ta, "holds", "(I)Z"⟩
abbrev zb_Ta_get : ByteArray := prog_8_method_4_code
def zy_Ta_get : MethodName := ⟨zr_Ta, "get", "(II)I"⟩
abbrev zb_Ta_set : ByteArray := prog_8_method_5_code
def zy_Ta_set : MethodName := ⟨zr_Ta, "set", "(III)V"⟩
abbrev zb_Ta_append : ByteArray := prog_8_method_6_code
def zy_Ta_append : MethodName := ⟨zr_Ta, "append", "()I"⟩
abbrev zb_Ta_copyRow : ByteArray := prog_8_method_7_code
def zy_Ta_copyRow : MethodName := ⟨zr_Ta, "copyRow", "(II)V"⟩
abbrev zb_Ta_cut : ByteArray := prog_8_method_8_code
def zy_Ta_cut : MethodName := ⟨zr_Ta, "cut", "(I)V"⟩
abbrev zb_Ta_copyRows : ByteArray := prog_8_method_9_code
def zy_Ta_copyRows : MethodName := ⟨zr_Ta, "copyRows", "(LEncounterLedger$Table;)V"⟩
abbrev zb_Tp_init : ByteArray := prog_9_method_1_code
def zy_Tp_init : MethodName := ⟨zr_Tp, "<init>", "()V"⟩
abbrev zb_Tp_hasRoomFor : ByteArray := prog_9_method_2_code
def zy_Tp_hasRoomFor : MethodName := ⟨zr_Tp, "hasRoomFor", "(I)Z"⟩
abbrev zb_Tp_append : ByteArray := prog_9_method_3_code
def zy_Tp_append : MethodName := ⟨zr_Tp, "append", "(I)V"⟩
abbrev zb_Tp_clear : ByteArray := prog_9_method_4_code
def zy_Tp_clear : MethodName := ⟨zr_Tp, "clear", "()V"⟩
abbrev zb_Tp_part : ByteArray := prog_9_method_5_code
def zy_Tp_part : MethodName := ⟨zr_Tp, "part", "(I)I"⟩
abbrev zb_Tp_readPower : ByteArray := prog_9_method_6_code
def zy_Tp_readPower : MethodName := ⟨zr_Tp, "readPower", "()Z"⟩
abbrev zb_Tp_peek : ByteArray := prog_9_method_7_code
def zy_Tp_peek : MethodName := ⟨zr_Tp, "peek", "()I"⟩
abbrev zb_Tp_skip : ByteArray := prog_9_method_8_code
def zy_Tp_skip : MethodName := ⟨zr_Tp, "skip", "(I)Z"⟩
abbrev zb_Tp_setPart : ByteArray := prog_9_method_9_code
def zy_Tp_setPart : MethodName := ⟨zr_Tp, "setPart", "(II)V"⟩
abbrev zb_Tp_readDigit : ByteArray := prog_9_method_10_code
def zy_Tp_readDigit : MethodName := ⟨zr_Tp, "readDigit", "(III)Z"⟩
abbrev zb_Tp_readShape : ByteArray := prog_9_method_11_code
def zy_Tp_readShape : MethodName := ⟨zr_Tp, "readShape", "()Z"⟩
abbrev zb_Tp_readEffects : ByteArray := prog_9_method_12_code
def zy_Tp_readEffects : MethodName := ⟨zr_Tp, "readEffects", "()Z"⟩
abbrev zb_Tp_readEffect : ByteArray := prog_9_method_13_code
def zy_Tp_readEffect : MethodName := ⟨zr_Tp, "readEffect", "(I)Z"⟩
abbrev zb_Tp_readNumber : ByteArray := prog_9_method_14_code
def zy_Tp_readNumber : MethodName := ⟨zr_Tp, "readNumber", "(I)Z"⟩
abbrev zb_Tp_readCost : ByteArray := prog_9_method_15_code
def zy_Tp_readCost : MethodName := ⟨zr_Tp, "readCost", "()Z"⟩
abbrev zb_Wa_init : ByteArray := prog_10_method_1_code
def zy_Wa_init : MethodName := ⟨zr_Wa, "<init>", "()V"⟩
abbrev zb_Wa_measure : ByteArray := prog_10_method_2_code
def zy_Wa_measure : MethodName := ⟨zr_Wa, "measure", "(LEncounterLedger$State;II)I"⟩
abbrev zb_Wa_markClosed : ByteArray := prog_10_method_3_code
def zy_Wa_markClosed : MethodName := ⟨zr_Wa, "markClosed", "(LEncounterLedger$State;I)V"⟩
abbrev zb_Wa_reach : ByteArray := prog_10_method_4_code
def zy_Wa_reach : MethodName := ⟨zr_Wa, "reach", "(II)V"⟩
abbrev zb_Wa_reachNeighbors : ByteArray := prog_10_method_5_code
def zy_Wa_reachNeighbors : MethodName := ⟨zr_Wa, "reachNeighbors", "(I)V"⟩
abbrev zb_EL_init : ByteArray := prog_1_method_1_code
def zy_EL_init : MethodName := ⟨zr_EL, "<init>", "()V"⟩
abbrev zb_EL_add : ByteArray := prog_1_method_2_code
def zy_EL_add : MethodName := ⟨zr_EL, "add", "(IIIII)I"⟩
abbrev zb_EL_wall : ByteArray := prog_1_method_3_code
def zy_EL_wall : MethodName := ⟨zr_EL, "wall", "(I)I"⟩
abbrev zb_EL_amount : ByteArray := prog_1_method_4_code
def zy_EL_amount : MethodName := ⟨zr_EL, "amount", "(III)I"⟩
abbrev zb_EL_begin : ByteArray := prog_1_method_5_code
def zy_EL_begin : MethodName := ⟨zr_EL, "begin", "(I)I"⟩
abbrev zb_EL_finish : ByteArray := prog_1_method_6_code
def zy_EL_finish : MethodName := ⟨zr_EL, "finish", "()I"⟩
abbrev zb_EL_endTurn : ByteArray := prog_1_method_7_code
def zy_EL_endTurn : MethodName := ⟨zr_EL, "endTurn", "()I"⟩
abbrev zb_EL_delay : ByteArray := prog_1_method_8_code
def zy_EL_delay : MethodName := ⟨zr_EL, "delay", "(I)I"⟩
abbrev zb_EL_move : ByteArray := prog_1_method_9_code
def zy_EL_move : MethodName := ⟨zr_EL, "move", "(I)I"⟩
abbrev zb_EL_strike : ByteArray := prog_1_method_10_code
def zy_EL_strike : MethodName := ⟨zr_EL, "strike", "(I)I"⟩
abbrev zb_EL_feed : ByteArray := prog_1_method_11_code
def zy_EL_feed : MethodName := ⟨zr_EL, "feed", "(IIIIII)I"⟩
abbrev zb_EL_power : ByteArray := prog_1_method_12_code
def zy_EL_power : MethodName := ⟨zr_EL, "power", "(I)I"⟩
abbrev zb_EL_cast : ByteArray := prog_1_method_13_code
def zy_EL_cast : MethodName := ⟨zr_EL, "cast", "(III)I"⟩
abbrev zb_EL_rest : ByteArray := prog_1_method_14_code
def zy_EL_rest : MethodName := ⟨zr_EL, "rest", "(I)I"⟩
abbrev zb_EL_fighter : ByteArray := prog_1_method_15_code
def zy_EL_fighter : MethodName := ⟨zr_EL, "fighter", "(II)I"⟩
abbrev zb_EL_turn : ByteArray := prog_1_method_16_code
def zy_EL_turn : MethodName := ⟨zr_EL, "turn", "(I)I"⟩
abbrev zb_EL_condition : ByteArray := prog_1_method_17_code
def zy_EL_condition : MethodName := ⟨zr_EL, "condition", "(II)I"⟩
abbrev zb_EL_area : ByteArray := prog_1_method_18_code
def zy_EL_area : MethodName := ⟨zr_EL, "area", "(IIIII)I"⟩
abbrev zb_EL_way : ByteArray := prog_1_method_19_code
def zy_EL_way : MethodName := ⟨zr_EL, "way", "(I)I"⟩
abbrev zb_EL_entry : ByteArray := prog_1_method_20_code
def zy_EL_entry : MethodName := ⟨zr_EL, "entry", "(II)I"⟩
abbrev zb_EL_replayed : ByteArray := prog_1_method_21_code
def zy_EL_replayed : MethodName := ⟨zr_EL, "replayed", "(II)I"⟩
abbrev zb_EL_reason : ByteArray := prog_1_method_22_code
def zy_EL_reason : MethodName := ⟨zr_EL, "reason", "()I"⟩
abbrev zb_EL_account : ByteArray := prog_1_method_23_code
def zy_EL_account : MethodName := ⟨zr_EL, "account", "(I)I"⟩
abbrev zb_EL_back : ByteArray := prog_1_method_24_code
def zy_EL_back : MethodName := ⟨zr_EL, "back", "()I"⟩
abbrev zb_EL_image : ByteArray := prog_1_method_25_code
def zy_EL_image : MethodName := ⟨zr_EL, "image", "()I"⟩
abbrev zb_EL_undo : ByteArray := prog_1_method_26_code
def zy_EL_undo : MethodName := ⟨zr_EL, "undo", "()I"⟩
abbrev zb_EL_count : ByteArray := prog_1_method_27_code
def zy_EL_count : MethodName := ⟨zr_EL, "count", "(I)I"⟩
abbrev zb_EL_isCell : ByteArray := prog_1_method_28_code
def zy_EL_isCell : MethodName := ⟨zr_EL, "isCell", "(I)Z"⟩
abbrev zb_EL_isDirection : ByteArray := prog_1_method_29_code
def zy_EL_isDirection : MethodName := ⟨zr_EL, "isDirection", "(I)Z"⟩
abbrev zb_EL_isByte : ByteArray := prog_1_method_30_code
def zy_EL_isByte : MethodName := ⟨zr_EL, "isByte", "(I)Z"⟩
abbrev zb_EL_refuse : ByteArray := prog_1_method_31_code
def zy_EL_refuse : MethodName := ⟨zr_EL, "refuse", "(I)I"⟩
abbrev zb_EL_whyCannotAct : ByteArray := prog_1_method_32_code
def zy_EL_whyCannotAct : MethodName := ⟨zr_EL, "whyCannotAct", "()I"⟩
abbrev zb_EL_whyNoAct : ByteArray := prog_1_method_33_code
def zy_EL_whyNoAct : MethodName := ⟨zr_EL, "whyNoAct", "()I"⟩
abbrev zb_EL_whyNoCast : ByteArray := prog_1_method_34_code
def zy_EL_whyNoCast : MethodName := ⟨zr_EL, "whyNoCast", "(I)I"⟩
abbrev zb_EL_canBeStruck : ByteArray := prog_1_method_35_code
def zy_EL_canBeStruck : MethodName := ⟨zr_EL, "canBeStruck", "(I)Z"⟩
abbrev zb_EL_stepsLeft : ByteArray := prog_1_method_36_code
def zy_EL_stepsLeft : MethodName := ⟨zr_EL, "stepsLeft", "()I"⟩
abbrev zb_EL_isMet : ByteArray := prog_1_method_37_code
def zy_EL_isMet : MethodName := ⟨zr_EL, "isMet", "(IIII)Z"⟩
abbrev zb_EL_countMet : ByteArray := prog_1_method_38_code
def zy_EL_countMet : MethodName := ⟨zr_EL, "countMet", "(III)I"⟩
abbrev zb_EL_spread : ByteArray := prog_1_method_39_code
def zy_EL_spread : MethodName := ⟨zr_EL, "spread", "(IIII)V"⟩
abbrev zb_EL_setOfPowers : ByteArray := prog_1_method_40_code
def zy_EL_setOfPowers : MethodName := ⟨zr_EL, "setOfPowers", "()I"⟩
abbrev zb_EL_columnStep : ByteArray := prog_1_method_41_code
def zy_EL_columnStep : MethodName := ⟨zr_EL, "columnStep", "(I)I"⟩
abbrev zb_EL_rowStep : ByteArray := prog_1_method_42_code
def zy_EL_rowStep : MethodName := ⟨zr_EL, "rowStep", "(I)I"⟩
abbrev zb_EL_isInArea : ByteArray := prog_1_method_43_code
def zy_EL_isInArea : MethodName := ⟨zr_EL, "isInArea", "(IIIII)Z"⟩
abbrev zb_Mo_init : ByteArray := prog_12_method_1_code
def zy_Mo_init : MethodName := ⟨zr_Mo, "<init>", "()V"⟩
abbrev zb_Mo_isBetween : ByteArray := prog_12_method_2_code
def zy_Mo_isBetween : MethodName := ⟨zr_Mo, "isBetween", "(III)Z"⟩
abbrev zb_Mo_isFighter : ByteArray := prog_12_method_3_code
def zy_Mo_isFighter : MethodName := ⟨zr_Mo, "isFighter", "(I)Z"⟩
abbrev zb_Mo_isCell : ByteArray := prog_12_method_4_code
def zy_Mo_isCell : MethodName := ⟨zr_Mo, "isCell", "(I)Z"⟩
abbrev zb_Mo_beside : ByteArray := prog_12_method_5_code
def zy_Mo_beside : MethodName := ⟨zr_Mo, "beside", "(II)I"⟩
abbrev zb_Mo_fighterOn : ByteArray := prog_12_method_6_code
def zy_Mo_fighterOn : MethodName := ⟨zr_Mo, "fighterOn", "(I)I"⟩
abbrev zb_Mo_isFree : ByteArray := prog_12_method_7_code
def zy_Mo_isFree : MethodName := ⟨zr_Mo, "isFree", "(I)Z"⟩
abbrev zb_Mo_isDown : ByteArray := prog_12_method_8_code
def zy_Mo_isDown : MethodName := ⟨zr_Mo, "isDown", "(I)Z"⟩
abbrev zb_Mo_refuses : ByteArray := prog_12_method_9_code
def zy_Mo_refuses : MethodName := ⟨zr_Mo, "refuses", "(I)I"⟩
abbrev zb_Mo_notes : ByteArray := prog_12_method_10_code
def zy_Mo_notes : MethodName := ⟨zr_Mo, "notes", "(III)V"⟩
abbrev zb_Mo_packed : ByteArray := prog_12_method_11_code
def zy_Mo_packed : MethodName := ⟨zr_Mo, "packed", "(IIIIII)I"⟩
abbrev zb_Mo_partOf : ByteArray := prog_12_method_12_code
def zy_Mo_partOf : MethodName := ⟨zr_Mo, "partOf", "(II)I"⟩
abbrev zb_Mo_sumOf : ByteArray := prog_12_method_13_code
def zy_Mo_sumOf : MethodName := ⟨zr_Mo, "sumOf", "(II)I"⟩
abbrev zb_Mo_endsAt : ByteArray := prog_12_method_14_code
def zy_Mo_endsAt : MethodName := ⟨zr_Mo, "endsAt", "(I)I"⟩
abbrev zb_Mo_makes : ByteArray := prog_12_method_15_code
def zy_Mo_makes : MethodName := ⟨zr_Mo, "makes", "(IIIIII)V"⟩
abbrev zb_Mo_canAct : ByteArray := prog_12_method_16_code
def zy_Mo_canAct : MethodName := ⟨zr_Mo, "canAct", "(I)Z"⟩
abbrev zb_Mo_counts : ByteArray := prog_12_method_17_code
def zy_Mo_counts : MethodName := ⟨zr_Mo, "counts", "(II)V"⟩
abbrev zb_Mo_harms : ByteArray := prog_12_method_18_code
def zy_Mo_harms : MethodName := ⟨zr_Mo, "harms", "(IIZ)I"⟩
abbrev zb_Mo_mends : ByteArray := prog_12_method_19_code
def zy_Mo_mends : MethodName := ⟨zr_Mo, "mends", "(II)I"⟩
abbrev zb_Mo_current : ByteArray := prog_12_method_20_code
def zy_Mo_current : MethodName := ⟨zr_Mo, "current", "()I"⟩
abbrev zb_Mo_draws : ByteArray := prog_12_method_21_code
def zy_Mo_draws : MethodName := ⟨zr_Mo, "draws", "()I"⟩
abbrev zb_Mo_placeOf : ByteArray := prog_12_method_22_code
def zy_Mo_placeOf : MethodName := ⟨zr_Mo, "placeOf", "(I)I"⟩
abbrev zb_Mo_beginsTurn : ByteArray := prog_12_method_23_code
def zy_Mo_beginsTurn : MethodName := ⟨zr_Mo, "beginsTurn", "()V"⟩
abbrev zb_Mo_poisonBy : ByteArray := prog_12_method_24_code
def zy_Mo_poisonBy : MethodName := ⟨zr_Mo, "poisonBy", "(II)I"⟩
abbrev zb_Mo_passesTurn : ByteArray := prog_12_method_25_code
def zy_Mo_passesTurn : MethodName := ⟨zr_Mo, "passesTurn", "()V"⟩
abbrev zb_Mo_add : ByteArray := prog_12_method_26_code
def zy_Mo_add : MethodName := ⟨zr_Mo, "add", "(IIIII)I"⟩
abbrev zb_Mo_wall : ByteArray := prog_12_method_27_code
def zy_Mo_wall : MethodName := ⟨zr_Mo, "wall", "(I)I"⟩
abbrev zb_Mo_amount : ByteArray := prog_12_method_28_code
def zy_Mo_amount : MethodName := ⟨zr_Mo, "amount", "(III)I"⟩
abbrev zb_Mo_isAhead : ByteArray := prog_12_method_29_code
def zy_Mo_isAhead : MethodName := ⟨zr_Mo, "isAhead", "(II)Z"⟩
abbrev zb_Mo_begin : ByteArray := prog_12_method_30_code
def zy_Mo_begin : MethodName := ⟨zr_Mo, "begin", "(I)I"⟩
abbrev zb_Mo_finish : ByteArray := prog_12_method_31_code
def zy_Mo_finish : MethodName := ⟨zr_Mo, "finish", "()I"⟩
abbrev zb_Mo_endTurn : ByteArray := prog_12_method_32_code
def zy_Mo_endTurn : MethodName := ⟨zr_Mo, "endTurn", "()I"⟩
abbrev zb_Mo_delay : ByteArray := prog_12_method_33_code
def zy_Mo_delay : MethodName := ⟨zr_Mo, "delay", "(I)I"⟩
abbrev zb_Mo_findSteps : ByteArray := prog_12_method_34_code
def zy_Mo_findSteps : MethodName := ⟨zr_Mo, "findSteps", "()V"⟩
abbrev zb_Mo_isHeld : ByteArray := prog_12_method_35_code
def zy_Mo_isHeld : MethodName := ⟨zr_Mo, "isHeld", "(II)Z"⟩
abbrev zb_Mo_left : ByteArray := prog_12_method_36_code
def zy_Mo_left : MethodName := ⟨zr_Mo, "left", "()I"⟩
abbrev zb_Mo_move : ByteArray := prog_12_method_37_code
def zy_Mo_move : MethodName := ⟨zr_Mo, "move", "(I)I"⟩
abbrev zb_Mo_way : ByteArray := prog_12_method_38_code
def zy_Mo_way : MethodName := ⟨zr_Mo, "way", "(I)I"⟩
abbrev zb_Mo_areNeighbors : ByteArray := prog_12_method_39_code
def zy_Mo_areNeighbors : MethodName := ⟨zr_Mo, "areNeighbors", "(II)Z"⟩
abbrev zb_Mo_strike : ByteArray := prog_12_method_40_code
def zy_Mo_strike : MethodName := ⟨zr_Mo, "strike", "(I)I"⟩
abbrev zb_Mo_feed : ByteArray := prog_12_method_41_code
def zy_Mo_feed : MethodName := ⟨zr_Mo, "feed", "(IIIIII)I"⟩
abbrev zb_Mo_isByte : ByteArray := prog_12_method_42_code
def zy_Mo_isByte : MethodName := ⟨zr_Mo, "isByte", "(I)Z"⟩
abbrev zb_Mo_comes : ByteArray := prog_12_method_43_code
def zy_Mo_comes : MethodName := ⟨zr_Mo, "comes", "(IZ)V"⟩
abbrev zb_Mo_skips : ByteArray := prog_12_method_44_code
def zy_Mo_skips : MethodName := ⟨zr_Mo, "skips", "(I)Z"⟩
abbrev zb_Mo_takes : ByteArray := prog_12_method_45_code
def zy_Mo_takes : MethodName := ⟨zr_Mo, "takes", "(III)Z"⟩
abbrev zb_Mo_takesNumber : ByteArray := prog_12_method_46_code
def zy_Mo_takesNumber : MethodName := ⟨zr_Mo, "takesNumber", "(I)Z"⟩
abbrev zb_Mo_takesEffect : ByteArray := prog_12_method_47_code
def zy_Mo_takesEffect : MethodName := ⟨zr_Mo, "takesEffect", "()Z"⟩
abbrev zb_Mo_shapeOf : ByteArray := prog_12_method_48_code
def zy_Mo_shapeOf : MethodName := ⟨zr_Mo, "shapeOf", "(I)I"⟩
abbrev zb_Mo_takesPower : ByteArray := prog_12_method_49_code
def zy_Mo_takesPower : MethodName := ⟨zr_Mo, "takesPower", "()Z"⟩
abbrev zb_Mo_power : ByteArray := prog_12_method_50_code
def zy_Mo_power : MethodName := ⟨zr_Mo, "power", "(I)I"⟩
abbrev zb_Mo_distance : ByteArray := prog_12_method_51_code
def zy_Mo_distance : MethodName := ⟨zr_Mo, "distance", "(II)I"⟩
abbrev zb_Mo_findArea : ByteArray := prog_12_method_52_code
def zy_Mo_findArea : MethodName := ⟨zr_Mo, "findArea", "(IIII)I"⟩
abbrev zb_Mo_isWithin : ByteArray := prog_12_method_53_code
def zy_Mo_isWithin : MethodName := ⟨zr_Mo, "isWithin", "(IIIII)Z"⟩
abbrev zb_Mo_area : ByteArray := prog_12_method_54_code
def zy_Mo_area : MethodName := ⟨zr_Mo, "area", "(IIIII)I"⟩
abbrev zb_Mo_affects : ByteArray := prog_12_method_55_code
def zy_Mo_affects : MethodName := ⟨zr_Mo, "affects", "(III)V"⟩
abbrev zb_Mo_inTurn : ByteArray := prog_12_method_56_code
def zy_Mo_inTurn : MethodName := ⟨zr_Mo, "inTurn", "(I)I"⟩
abbrev zb_Mo_cast : ByteArray := prog_12_method_57_code
def zy_Mo_cast : MethodName := ⟨zr_Mo, "cast", "(III)I"⟩
abbrev zb_Mo_refills : ByteArray := prog_12_method_58_code
def zy_Mo_refills : MethodName := ⟨zr_Mo, "refills", "(II)V"⟩
abbrev zb_Mo_rest : ByteArray := prog_12_method_59_code
def zy_Mo_rest : MethodName := ⟨zr_Mo, "rest", "(I)I"⟩
abbrev zb_Mo_fighter : ByteArray := prog_12_method_60_code
def zy_Mo_fighter : MethodName := ⟨zr_Mo, "fighter", "(II)I"⟩
abbrev zb_Mo_fighterMore : ByteArray := prog_12_method_61_code
def zy_Mo_fighterMore : MethodName := ⟨zr_Mo, "fighterMore", "(II)I"⟩
abbrev zb_Mo_turn : ByteArray := prog_12_method_62_code
def zy_Mo_turn : MethodName := ⟨zr_Mo, "turn", "(I)I"⟩
abbrev zb_Mo_condition : ByteArray := prog_12_method_63_code
def zy_Mo_condition : MethodName := ⟨zr_Mo, "condition", "(II)I"⟩
abbrev zb_Mo_entryPart : ByteArray := prog_12_method_64_code
def zy_Mo_entryPart : MethodName := ⟨zr_Mo, "entryPart", "(II)I"⟩
abbrev zb_Mo_entry : ByteArray := prog_12_method_65_code
def zy_Mo_entry : MethodName := ⟨zr_Mo, "entry", "(II)I"⟩
abbrev zb_Mo_replayed : ByteArray := prog_12_method_66_code
def zy_Mo_replayed : MethodName := ⟨zr_Mo, "replayed", "(II)I"⟩
abbrev zb_Mo_replays : ByteArray := prog_12_method_67_code
def zy_Mo_replays : MethodName := ⟨zr_Mo, "replays", "(IIII)I"⟩
abbrev zb_Mo_reason : ByteArray := prog_12_method_68_code
def zy_Mo_reason : MethodName := ⟨zr_Mo, "reason", "()I"⟩
abbrev zb_Mo_livesOf : ByteArray := prog_12_method_69_code
def zy_Mo_livesOf : MethodName := ⟨zr_Mo, "livesOf", "(I)I"⟩
abbrev zb_Mo_account : ByteArray := prog_12_method_70_code
def zy_Mo_account : MethodName := ⟨zr_Mo, "account", "(I)I"⟩
abbrev zb_Mo_passes : ByteArray := prog_12_method_71_code
def zy_Mo_passes : MethodName := ⟨zr_Mo, "passes", "([I[I)V"⟩
abbrev zb_Mo_pass : ByteArray := prog_12_method_72_code
def zy_Mo_pass : MethodName := ⟨zr_Mo, "pass", "(I[I)I"⟩
abbrev zb_Mo_passAll : ByteArray := prog_12_method_73_code
def zy_Mo_passAll : MethodName := ⟨zr_Mo, "passAll", "([IIZ)V"⟩
abbrev zb_Mo_passCounts : ByteArray := prog_12_method_74_code
def zy_Mo_passCounts : MethodName := ⟨zr_Mo, "passCounts", "([I)V"⟩
abbrev zb_Mo_remembers : ByteArray := prog_12_method_75_code
def zy_Mo_remembers : MethodName := ⟨zr_Mo, "remembers", "()V"⟩
abbrev zb_Mo_back : ByteArray := prog_12_method_76_code
def zy_Mo_back : MethodName := ⟨zr_Mo, "back", "()I"⟩
abbrev zb_Mo_image : ByteArray := prog_12_method_77_code
def zy_Mo_image : MethodName := ⟨zr_Mo, "image", "()I"⟩
abbrev zb_Mo_undo : ByteArray := prog_12_method_78_code
def zy_Mo_undo : MethodName := ⟨zr_Mo, "undo", "()I"⟩
abbrev zb_Mo_count : ByteArray := prog_12_method_79_code
def zy_Mo_count : MethodName := ⟨zr_Mo, "count", "(I)I"⟩
abbrev zb_Ar_fill : ByteArray := prog_15_method_103_code
def zy_Ar_fill : MethodName := ⟨zr_Ar, "fill", "([II)V"⟩
theorem zM_l {α : Type} {a b c : List α} (h : ∀ w ∈ a ++ b, w ∈ c) : ∀ w ∈ a, w ∈ c := fun w hw => h w (List.mem_append_left _ hw)
theorem zM_r {α : Type} {a b c : List α} (h : ∀ w ∈ a ++ b, w ∈ c) : ∀ w ∈ b, w ∈ c := fun w hw => h w (List.mem_append_right _ hw)
def zB : List Cond := lw_tbl.filter goodWord
theorem zB_good : ∀ w ∈ zB, goodWord w = true := fun _ h => (List.mem_filter.mp h).2
theorem zB_of {args : Array Value} {s : State} (h : ∀ w ∈ lw_tbl, w.before args s = true) : ∀ w ∈ zB, w.before args s = true := fun w hw => h w (List.mem_filter.mp hw).1
theorem zT_0 : ∀ w ∈ k2_sels lw_privs, w ∈ lw_tbl := fun w h => List.mem_append_left _ h
theorem zT_a : ∀ w ∈ tables_1, w ∈ lw_tbl := fun w h => List.mem_append_right _ h
theorem zT_1 : ∀ w ∈ tables_1_1, w ∈ lw_tbl := zM_l (show ∀ w ∈ tables_1_1 ++ (tables_1_2 ++ (tables_1_3 ++ (tables_1_4 ++ (tables_1_5 ++ tables_1_6)))), w ∈ lw_tbl from zT_a)
theorem zT_2 : ∀ w ∈ tables_1_2, w ∈ lw_tbl := zM_l (zM_r (show ∀ w ∈ tables_1_1 ++ (tables_1_2 ++ (tables_1_3 ++ (tables_1_4 ++ (tables_1_5 ++ tables_1_6)))), w ∈ lw_tbl from zT_a))
theorem zT_3 : ∀ w ∈ tables_1_3, w ∈ lw_tbl := zM_l (zM_r (zM_r (show ∀ w ∈ tables_1_1 ++ (tables_1_2 ++ (tables_1_3 ++ (tables_1_4 ++ (tables_1_5 ++ tables_1_6)))), w ∈ lw_tbl from zT_a)))
theorem zT_4 : ∀ w ∈ tables_1_4, w ∈ lw_tbl := zM_l (zM_r (zM_r (zM_r (show ∀ w ∈ tables_1_1 ++ (tables_1_2 ++ (tables_1_3 ++ (tables_1_4 ++ (tables_1_5 ++ tables_1_6)))), w ∈ lw_tbl from zT_a))))
theorem zT_5 : ∀ w ∈ tables_1_5, w ∈ lw_tbl := zM_l (zM_r (zM_r (zM_r (zM_r (show ∀ w ∈ tables_1_1 ++ (tables_1_2 ++ (tables_1_3 ++ (tables_1_4 ++ (tables_1_5 ++ tables_1_6)))), w ∈ lw_tbl from zT_a)))))
theorem zT_6 : ∀ w ∈ tables_1_6, w ∈ lw_tbl := zM_r (zM_r (zM_r (zM_r (zM_r (show ∀ w ∈ tables_1_1 ++ (tables_1_2 ++ (tables_1_3 ++ (tables_1_4 ++ (tables_1_5 ++ tables_1_6)))), w ∈ lw_tbl from zT_a)))))
theorem zm {w : Cond} {l : List Cond} {i : Nat} (hl : ∀ x ∈ l, x ∈ lw_tbl) (h : l[i]? = some w) (hg : goodWord w = true) : w ∈ zB := List.mem_filter.mpr ⟨hl w (List.mem_of_getElem? h), hg⟩
theorem zmt {w : Cond} {l : List Cond} {i : Nat} (hl : ∀ x ∈ l, x ∈ lw_tbl) (h : l[i]? = some w) : w ∈ lw_tbl := hl w (List.mem_of_getElem? h)
def zW1_0 : List Cond := [Cond.initialized zr_La, Cond.initialized zr_EL, Cond.initialized zr_St, Cond.initialized zr_Ta, Cond.initialized "java/lang/Math", Cond.initialized zr_Jo, Cond.initialized zr_Co, Cond.initialized zr_Fi, Cond.initialized zr_En, Cond.initialized zr_Ch, Cond.initialized zr_Tp, Cond.initialized zr_Wa, Cond.initialized zr_Mo, Cond.initialized "java/lang/System", Cond.initialized zr_Ar, Cond.classLink zr_La 7 zr_EL]
def zW1_1 : List Cond := [Cond.instantiable zr_EL 7, Cond.methodLink zr_La 9 zy_EL_init, Cond.instanceMethod zy_EL_init, Cond.code zy_EL_init zb_EL_init 1 none, Cond.methodLink zr_EL 1 ⟨"java/lang/Object", "<init>", "()V"⟩, Cond.instanceMethod ⟨"java/lang/Object", "<init>", "()V"⟩, Cond.code ⟨"java/lang/Object", "<init>", "()V"⟩ object_method_1_code 1 none, Cond.classLink zr_EL 7 zr_St, Cond.instantiable zr_St 7, Cond.methodLink zr_EL 9 zy_St_init, Cond.instanceMethod zy_St_init, Cond.code zy_St_init zb_St_init 4 none, Cond.methodLink zr_St 3 ⟨"java/lang/Object", "<init>", "()V"⟩, Cond.classLink zr_St 9 zr_Ta, Cond.instantiable zr_Ta 3, Cond.methodLink zr_St 11 zy_Ta_init]
def zW1_2 : List Cond := [Cond.instanceMethod zy_Ta_init, Cond.code zy_Ta_init zb_Ta_init 4 none, Cond.methodLink zr_Ta 1 ⟨"java/lang/Object", "<init>", "()V"⟩, Cond.methodLink zr_Ta 13 ⟨"java/lang/Math", "max", "(II)I"⟩, Cond.static ⟨"java/lang/Math", "max", "(II)I"⟩, Cond.code ⟨"java/lang/Math", "max", "(II)I"⟩ prog_13_method_65_code 2 (some .int), Cond.fieldLink zr_Ta 7 "EncounterLedger$Table" "width" "I", Cond.fieldLink zr_Ta 19 "EncounterLedger$Table" "numbers" "[I", Cond.fieldLink zr_Ta 23 "EncounterLedger$Table" "size" "I", Cond.laysFinal "EncounterLedger$Table" "EncounterLedger$Table" "width" "I", Cond.soleField "EncounterLedger$Table" "width", Cond.laysFinal "EncounterLedger$Table" "EncounterLedger$Table" "numbers" "[I", Cond.soleField "EncounterLedger$Table" "numbers", Cond.lays "EncounterLedger$Table" "EncounterLedger$Table" "size" "I", Cond.soleField "EncounterLedger$Table" "size", Cond.superclass "EncounterLedger$Table" "java/lang/Object"]
def zW1_3 : List Cond := [Cond.arrayClass (Jvm.ClassFile.FieldType.int), Cond.classLink zr_St 25 zr_Jo, Cond.instantiable zr_Jo 2, Cond.methodLinkNest zr_St 27 zy_Jo_init "EncounterLedger", Cond.instanceMethod zy_Jo_init, Cond.code zy_Jo_init zb_Jo_init 1 none, Cond.methodLink zr_Jo 3 ⟨"java/lang/Object", "<init>", "()V"⟩, Cond.fieldLink zr_Jo 11 "EncounterLedger$Journal" "numbers" "[I", Cond.fieldLink zr_Jo 15 "EncounterLedger$Journal" "total" "I", Cond.fieldLinkNest zr_EL 261 "EncounterLedger$Journal" "total" "I" "EncounterLedger", Cond.laysFinal "EncounterLedger$Journal" "EncounterLedger$Journal" "numbers" "[I", Cond.soleField "EncounterLedger$Journal" "numbers", Cond.lays "EncounterLedger$Journal" "EncounterLedger$Journal" "total" "I", Cond.soleField "EncounterLedger$Journal" "total", Cond.superclass "EncounterLedger$Journal" "java/lang/Object", Cond.classLink zr_St 28 zr_Co]
def zW1_4 : List Cond := [Cond.instantiable zr_Co 3, Cond.methodLink zr_St 30 zy_Co_init, Cond.instanceMethod zy_Co_init, Cond.code zy_Co_init zb_Co_init 2 none, Cond.methodLink zr_Co 3 ⟨"java/lang/Object", "<init>", "()V"⟩, Cond.classLink zr_Co 9 zr_Ta, Cond.methodLink zr_Co 13 zy_Ta_init, Cond.fieldLink zr_Co 16 "EncounterLedger$Conditions" "rows" "LEncounterLedger$Table;", Cond.fieldLink zr_Co 24 "EncounterLedger$Conditions" "journal" "LEncounterLedger$Journal;", Cond.fieldLink zr_Co 20 "EncounterLedger$Conditions" "poisoners" "[I", Cond.laysFinal "EncounterLedger$Conditions" "EncounterLedger$Conditions" "rows" "LEncounterLedger$Table;", Cond.soleField "EncounterLedger$Conditions" "rows", Cond.laysFinal "EncounterLedger$Conditions" "EncounterLedger$Conditions" "journal" "LEncounterLedger$Journal;", Cond.soleField "EncounterLedger$Conditions" "journal", Cond.laysFinal "EncounterLedger$Conditions" "EncounterLedger$Conditions" "poisoners" "[I", Cond.soleField "EncounterLedger$Conditions" "poisoners"]
def zW1_5 : List Cond := [Cond.superclass "EncounterLedger$Conditions" "java/lang/Object", Cond.classLink zr_St 33 zr_Fi, Cond.instantiable zr_Fi 5, Cond.methodLink zr_St 35 zy_Fi_init, Cond.instanceMethod zy_Fi_init, Cond.code zy_Fi_init zb_Fi_init 3 none, Cond.methodLink zr_Fi 5 ⟨"java/lang/Object", "<init>", "()V"⟩, Cond.classLink zr_Fi 11 zr_Ta, Cond.methodLink zr_Fi 13 zy_Ta_init, Cond.fieldLink zr_Fi 16 "EncounterLedger$Fighters" "rows" "LEncounterLedger$Table;", Cond.fieldLink zr_Fi 20 "EncounterLedger$Fighters" "conditions" "LEncounterLedger$Conditions;", Cond.fieldLink zr_Fi 24 "EncounterLedger$Fighters" "journal" "LEncounterLedger$Journal;", Cond.fieldLink zr_Fi 67 "EncounterLedger$Fighters" "harm" "I", Cond.fieldLinkNest zr_EL 290 "EncounterLedger$Fighters" "harm" "I" "EncounterLedger", Cond.fieldLink zr_Fi 85 "EncounterLedger$Fighters" "mended" "I", Cond.fieldLinkNest zr_EL 293 "EncounterLedger$Fighters" "mended" "I" "EncounterLedger"]
def zW1_6 : List Cond := [Cond.laysFinal "EncounterLedger$Fighters" "EncounterLedger$Fighters" "rows" "LEncounterLedger$Table;", Cond.soleField "EncounterLedger$Fighters" "rows", Cond.laysFinal "EncounterLedger$Fighters" "EncounterLedger$Fighters" "conditions" "LEncounterLedger$Conditions;", Cond.soleField "EncounterLedger$Fighters" "conditions", Cond.laysFinal "EncounterLedger$Fighters" "EncounterLedger$Fighters" "journal" "LEncounterLedger$Journal;", Cond.soleField "EncounterLedger$Fighters" "journal", Cond.lays "EncounterLedger$Fighters" "EncounterLedger$Fighters" "harm" "I", Cond.soleField "EncounterLedger$Fighters" "harm", Cond.lays "EncounterLedger$Fighters" "EncounterLedger$Fighters" "mended" "I", Cond.soleField "EncounterLedger$Fighters" "mended", Cond.superclass "EncounterLedger$Fighters" "java/lang/Object", Cond.classLink zr_St 50 zr_En, Cond.instantiable zr_En 11, Cond.methodLink zr_St 52 zy_En_init, Cond.instanceMethod zy_En_init, Cond.code zy_En_init zb_En_init 4 none]
def zW1_7 : List Cond := [Cond.methodLink zr_En 3 ⟨"java/lang/Object", "<init>", "()V"⟩, Cond.classLink zr_En 9 zr_Ta, Cond.methodLink zr_En 11 zy_Ta_init, Cond.fieldLink zr_En 14 "EncounterLedger$Encounter" "order" "LEncounterLedger$Table;", Cond.fieldLink zr_En 20 "EncounterLedger$Encounter" "fighters" "LEncounterLedger$Fighters;", Cond.fieldLink zr_En 24 "EncounterLedger$Encounter" "conditions" "LEncounterLedger$Conditions;", Cond.fieldLink zr_En 28 "EncounterLedger$Encounter" "journal" "LEncounterLedger$Journal;", Cond.fieldLink zr_En 32 "EncounterLedger$Encounter" "round" "I", Cond.fieldLinkNest zr_EL 123 "EncounterLedger$Encounter" "round" "I" "EncounterLedger", Cond.fieldLink zr_En 36 "EncounterLedger$Encounter" "place" "I", Cond.fieldLinkNest zr_EL 151 "EncounterLedger$Encounter" "steps" "I" "EncounterLedger", Cond.fieldLink zr_En 84 "EncounterLedger$Encounter" "steps" "I", Cond.fieldLink zr_En 87 "EncounterLedger$Encounter" "acted" "Z", Cond.fieldLinkNest zr_EL 244 "EncounterLedger$Encounter" "acted" "Z" "EncounterLedger", Cond.fieldLink zr_En 67 "EncounterLedger$Encounter" "opened" "I", Cond.fieldLinkNest zr_EL 296 "EncounterLedger$Encounter" "opened" "I" "EncounterLedger"]
def zW1_8 : List Cond := [Cond.fieldLink zr_En 91 "EncounterLedger$Encounter" "turns" "I", Cond.fieldLinkNest zr_EL 299 "EncounterLedger$Encounter" "turns" "I" "EncounterLedger", Cond.fieldLink zr_En 117 "EncounterLedger$Encounter" "acts" "I", Cond.fieldLinkNest zr_EL 302 "EncounterLedger$Encounter" "acts" "I" "EncounterLedger", Cond.laysFinal "EncounterLedger$Encounter" "EncounterLedger$Encounter" "order" "LEncounterLedger$Table;", Cond.soleField "EncounterLedger$Encounter" "order", Cond.laysFinal "EncounterLedger$Encounter" "EncounterLedger$Encounter" "fighters" "LEncounterLedger$Fighters;", Cond.soleField "EncounterLedger$Encounter" "fighters", Cond.laysFinal "EncounterLedger$Encounter" "EncounterLedger$Encounter" "conditions" "LEncounterLedger$Conditions;", Cond.soleField "EncounterLedger$Encounter" "conditions", Cond.laysFinal "EncounterLedger$Encounter" "EncounterLedger$Encounter" "journal" "LEncounterLedger$Journal;", Cond.soleField "EncounterLedger$Encounter" "journal", Cond.lays "EncounterLedger$Encounter" "EncounterLedger$Encounter" "round" "I", Cond.soleField "EncounterLedger$Encounter" "round", Cond.lays "EncounterLedger$Encounter" "EncounterLedger$Encounter" "place" "I", Cond.soleField "EncounterLedger$Encounter" "place"]
def zW1_9 : List Cond := [Cond.lays "EncounterLedger$Encounter" "EncounterLedger$Encounter" "steps" "I", Cond.soleField "EncounterLedger$Encounter" "steps", Cond.lays "EncounterLedger$Encounter" "EncounterLedger$Encounter" "acted" "Z", Cond.soleField "EncounterLedger$Encounter" "acted", Cond.lays "EncounterLedger$Encounter" "EncounterLedger$Encounter" "opened" "I", Cond.soleField "EncounterLedger$Encounter" "opened", Cond.lays "EncounterLedger$Encounter" "EncounterLedger$Encounter" "turns" "I", Cond.soleField "EncounterLedger$Encounter" "turns", Cond.lays "EncounterLedger$Encounter" "EncounterLedger$Encounter" "acts" "I", Cond.soleField "EncounterLedger$Encounter" "acts", Cond.superclass "EncounterLedger$Encounter" "java/lang/Object", Cond.fieldLink zr_St 38 "EncounterLedger$State" "journal" "LEncounterLedger$Journal;", Cond.fieldLinkNest zr_EL 257 "EncounterLedger$State" "journal" "LEncounterLedger$Journal;" "EncounterLedger", Cond.fieldLink zr_St 42 "EncounterLedger$State" "conditions" "LEncounterLedger$Conditions;", Cond.fieldLinkNest zr_EL 223 "EncounterLedger$State" "conditions" "LEncounterLedger$Conditions;" "EncounterLedger", Cond.fieldLink zr_St 46 "EncounterLedger$State" "fighters" "LEncounterLedger$Fighters;"]
def zW1_10 : List Cond := [Cond.fieldLinkNest zr_Wa 26 "EncounterLedger$State" "fighters" "LEncounterLedger$Fighters;" "EncounterLedger", Cond.fieldLinkNest zr_EL 59 "EncounterLedger$State" "fighters" "LEncounterLedger$Fighters;" "EncounterLedger", Cond.fieldLink zr_St 55 "EncounterLedger$State" "encounter" "LEncounterLedger$Encounter;", Cond.fieldLinkNest zr_EL 97 "EncounterLedger$State" "encounter" "LEncounterLedger$Encounter;" "EncounterLedger", Cond.fieldLink zr_St 14 "EncounterLedger$State" "walls" "LEncounterLedger$Table;", Cond.fieldLinkNest zr_Wa 46 "EncounterLedger$State" "walls" "LEncounterLedger$Table;" "EncounterLedger", Cond.fieldLinkNest zr_EL 80 "EncounterLedger$State" "walls" "LEncounterLedger$Table;" "EncounterLedger", Cond.fieldLink zr_St 22 "EncounterLedger$State" "powers" "LEncounterLedger$Table;", Cond.fieldLinkNest zr_EL 179 "EncounterLedger$State" "powers" "LEncounterLedger$Table;" "EncounterLedger", Cond.fieldLink zr_St 83 "EncounterLedger$State" "rests" "I", Cond.fieldLinkNest zr_EL 214 "EncounterLedger$State" "rests" "I" "EncounterLedger", Cond.laysFinal "EncounterLedger$State" "EncounterLedger$State" "journal" "LEncounterLedger$Journal;", Cond.soleField "EncounterLedger$State" "journal", Cond.laysFinal "EncounterLedger$State" "EncounterLedger$State" "conditions" "LEncounterLedger$Conditions;", Cond.soleField "EncounterLedger$State" "conditions", Cond.laysFinal "EncounterLedger$State" "EncounterLedger$State" "fighters" "LEncounterLedger$Fighters;"]
def zW1_11 : List Cond := [Cond.soleField "EncounterLedger$State" "fighters", Cond.laysFinal "EncounterLedger$State" "EncounterLedger$State" "encounter" "LEncounterLedger$Encounter;", Cond.soleField "EncounterLedger$State" "encounter", Cond.laysFinal "EncounterLedger$State" "EncounterLedger$State" "walls" "LEncounterLedger$Table;", Cond.soleField "EncounterLedger$State" "walls", Cond.laysFinal "EncounterLedger$State" "EncounterLedger$State" "powers" "LEncounterLedger$Table;", Cond.soleField "EncounterLedger$State" "powers", Cond.lays "EncounterLedger$State" "EncounterLedger$State" "rests" "I", Cond.soleField "EncounterLedger$State" "rests", Cond.superclass "EncounterLedger$State" "java/lang/Object", Cond.classLink zr_EL 19 zr_Ch, Cond.instantiable zr_Ch 3, Cond.methodLink zr_EL 21 zy_Ch_init, Cond.instanceMethod zy_Ch_init, Cond.code zy_Ch_init zb_Ch_init 2 none, Cond.methodLink zr_Ch 1 ⟨"java/lang/Object", "<init>", "()V"⟩]
def zW1_12 : List Cond := [Cond.classLink zr_Ch 9 zr_St, Cond.arrayOver (Jvm.ClassFile.FieldType.object "EncounterLedger$State"), Cond.methodLink zr_Ch 15 zy_St_init, Cond.fieldLink zr_Ch 11 "EncounterLedger$Changes" "earlier" "[LEncounterLedger$State;", Cond.fieldLink zr_Ch 24 "EncounterLedger$Changes" "size" "I", Cond.fieldLinkNest zr_EL 308 "EncounterLedger$Changes" "size" "I" "EncounterLedger", Cond.fieldLink zr_Ch 16 "EncounterLedger$Changes" "next" "I", Cond.laysFinal "EncounterLedger$Changes" "EncounterLedger$Changes" "earlier" "[LEncounterLedger$State;", Cond.soleField "EncounterLedger$Changes" "earlier", Cond.lays "EncounterLedger$Changes" "EncounterLedger$Changes" "size" "I", Cond.soleField "EncounterLedger$Changes" "size", Cond.lays "EncounterLedger$Changes" "EncounterLedger$Changes" "next" "I", Cond.soleField "EncounterLedger$Changes" "next", Cond.superclass "EncounterLedger$Changes" "java/lang/Object", Cond.classLink zr_EL 26 zr_Tp, Cond.instantiable zr_Tp 4]
def zW1_13 : List Cond := [Cond.methodLinkNest zr_EL 28 zy_Tp_init "EncounterLedger", Cond.instanceMethod zy_Tp_init, Cond.code zy_Tp_init zb_Tp_init 1 none, Cond.methodLink zr_Tp 5 ⟨"java/lang/Object", "<init>", "()V"⟩, Cond.fieldLink zr_Tp 11 "EncounterLedger$Tape" "bytes" "[I", Cond.fieldLink zr_Tp 15 "EncounterLedger$Tape" "parts" "[I", Cond.fieldLink zr_Tp 18 "EncounterLedger$Tape" "length" "I", Cond.fieldLinkNest zr_EL 176 "EncounterLedger$Tape" "length" "I" "EncounterLedger", Cond.fieldLink zr_Tp 22 "EncounterLedger$Tape" "position" "I", Cond.fieldLinkNest zr_EL 188 "EncounterLedger$Tape" "position" "I" "EncounterLedger", Cond.laysFinal "EncounterLedger$Tape" "EncounterLedger$Tape" "bytes" "[I", Cond.soleField "EncounterLedger$Tape" "bytes", Cond.laysFinal "EncounterLedger$Tape" "EncounterLedger$Tape" "parts" "[I", Cond.soleField "EncounterLedger$Tape" "parts", Cond.lays "EncounterLedger$Tape" "EncounterLedger$Tape" "length" "I", Cond.soleField "EncounterLedger$Tape" "length"]
def zW1_14 : List Cond := [Cond.lays "EncounterLedger$Tape" "EncounterLedger$Tape" "position" "I", Cond.soleField "EncounterLedger$Tape" "position", Cond.superclass "EncounterLedger$Tape" "java/lang/Object", Cond.classLink zr_EL 33 zr_Wa, Cond.instantiable zr_Wa 3, Cond.methodLinkNest zr_EL 35 zy_Wa_init "EncounterLedger", Cond.instanceMethod zy_Wa_init, Cond.code zy_Wa_init zb_Wa_init 1 none, Cond.methodLink zr_Wa 3 ⟨"java/lang/Object", "<init>", "()V"⟩, Cond.fieldLink zr_Wa 9 "EncounterLedger$Ways" "steps" "[I", Cond.fieldLink zr_Wa 15 "EncounterLedger$Ways" "queue" "[I", Cond.fieldLink zr_Wa 18 "EncounterLedger$Ways" "reached" "I", Cond.laysFinal "EncounterLedger$Ways" "EncounterLedger$Ways" "steps" "[I", Cond.soleField "EncounterLedger$Ways" "steps", Cond.laysFinal "EncounterLedger$Ways" "EncounterLedger$Ways" "queue" "[I", Cond.soleField "EncounterLedger$Ways" "queue"]
set_option maxRecDepth 100000 in
theorem zE1 : tables_1_1 = zW1_0 ++ (zW1_1 ++ (zW1_2 ++ (zW1_3 ++ (zW1_4 ++ (zW1_5 ++ (zW1_6 ++ (zW1_7 ++ (zW1_8 ++ (zW1_9 ++ (zW1_10 ++ (zW1_11 ++ (zW1_12 ++ (zW1_13 ++ (zW1_14)))))))))))))) := rfl
theorem zF1 : ∀ w ∈ zW1_0 ++ (zW1_1 ++ (zW1_2 ++ (zW1_3 ++ (zW1_4 ++ (zW1_5 ++ (zW1_6 ++ (zW1_7 ++ (zW1_8 ++ (zW1_9 ++ (zW1_10 ++ (zW1_11 ++ (zW1_12 ++ (zW1_13 ++ (zW1_14)))))))))))))), w ∈ lw_tbl := zE1 ▸ zT_1
theorem zV1_0 : ∀ w ∈ zW1_0, w ∈ lw_tbl := zM_l (zF1)
theorem zV1_1 : ∀ w ∈ zW1_1, w ∈ lw_tbl := zM_l (zM_r (zF1))
theorem zV1_2 : ∀ w ∈ zW1_2, w ∈ lw_tbl := zM_l (zM_r (zM_r (zF1)))
theorem zV1_3 : ∀ w ∈ zW1_3, w ∈ lw_tbl := zM_l (zM_r (zM_r (zM_r (zF1))))
theorem zV1_4 : ∀ w ∈ zW1_4, w ∈ lw_tbl := zM_l (zM_r (zM_r (zM_r (zM_r (zF1)))))
theorem zV1_5 : ∀ w ∈ zW1_5, w ∈ lw_tbl := zM_l (zM_r (zM_r (zM_r (zM_r (zM_r (zF1))))))
theorem zV1_6 : ∀ w ∈ zW1_6, w ∈ lw_tbl := zM_l (zM_r (zM_r (zM_r (zM_r (zM_r (zM_r (zF1)))))))
theorem zV1_7 : ∀ w ∈ zW1_7, w ∈ lw_tbl := zM_l (zM_r (zM_r (zM_r (zM_r (zM_r (zM_r (zM_r (zF1))))))))
theorem zV1_8 : ∀ w ∈ zW1_8, w ∈ lw_tbl := zM_l (zM_r (zM_r (zM_r (zM_r (zM_r (zM_r (zM_r (zM_r (zF1)))))))))
theorem zV1_9 : ∀ w ∈ zW1_9, w ∈ lw_tbl := zM_l (zM_r (zM_r (zM_r (zM_r (zM_r (zM_r (zM_r (zM_r (zM_r (zF1))))))))))
theorem zV1_10 : ∀ w ∈ zW1_10, w ∈ lw_tbl := zM_l (zM_r (zM_r (zM_r (zM_r (zM_r (zM_r (zM_r (zM_r (zM_r (zM_r (zF1)))))))))))
theorem zV1_11 : ∀ w ∈ zW1_11, w ∈ lw_tbl := zM_l (zM_r (zM_r (zM_r (zM_r (zM_r (zM_r (zM_r (zM_r (zM_r (zM_r (zM_r (zF1))))))))))))
theorem zV1_12 : ∀ w ∈ zW1_12, w ∈ lw_tbl := zM_l (zM_r (zM_r (zM_r (zM_r (zM_r (zM_r (zM_r (zM_r (zM_r (zM_r (zM_r (zM_r (zF1)))))))))))))
theorem zV1_13 : ∀ w ∈ zW1_13, w ∈ lw_tbl := zM_l (zM_r (zM_r (zM_r (zM_r (zM_r (zM_r (zM_r (zM_r (zM_r (zM_r (zM_r (zM_r (zM_r (zF1))))))))))))))
theorem zV1_14 : ∀ w ∈ zW1_14, w ∈ lw_tbl := zM_r (zM_r (zM_r (zM_r (zM_r (zM_r (zM_r (zM_r (zM_r (zM_r (zM_r (zM_r (zM_r (zM_r (zF1))))))))))))))
def zW2_0 : List Cond := [Cond.lays "EncounterLedger$Ways" "EncounterLedger$Ways" "reached" "I", Cond.soleField "EncounterLedger$Ways" "reached", Cond.superclass "EncounterLedger$Ways" "java/lang/Object", Cond.fieldLink zr_EL 10 "EncounterLedger" "now" "LEncounterLedger$State;", Cond.fieldLink zr_EL 16 "EncounterLedger" "saved" "LEncounterLedger$State;", Cond.fieldLink zr_EL 22 "EncounterLedger" "changes" "LEncounterLedger$Changes;", Cond.fieldLink zr_EL 29 "EncounterLedger" "tape" "LEncounterLedger$Tape;", Cond.fieldLink zr_EL 36 "EncounterLedger" "ways" "LEncounterLedger$Ways;", Cond.fieldLink zr_EL 40 "EncounterLedger" "hasImage" "Z", Cond.fieldLink zr_EL 44 "EncounterLedger" "latestReason" "I", Cond.laysFinal "EncounterLedger" "EncounterLedger" "now" "LEncounterLedger$State;", Cond.soleField "EncounterLedger" "now", Cond.laysFinal "EncounterLedger" "EncounterLedger" "saved" "LEncounterLedger$State;", Cond.soleField "EncounterLedger" "saved", Cond.laysFinal "EncounterLedger" "EncounterLedger" "changes" "LEncounterLedger$Changes;", Cond.soleField "EncounterLedger" "changes"]
def zW2_1 : List Cond := [Cond.laysFinal "EncounterLedger" "EncounterLedger" "tape" "LEncounterLedger$Tape;", Cond.soleField "EncounterLedger" "tape", Cond.laysFinal "EncounterLedger" "EncounterLedger" "ways" "LEncounterLedger$Ways;", Cond.soleField "EncounterLedger" "ways", Cond.lays "EncounterLedger" "EncounterLedger" "hasImage" "Z", Cond.soleField "EncounterLedger" "hasImage", Cond.lays "EncounterLedger" "EncounterLedger" "latestReason" "I", Cond.soleField "EncounterLedger" "latestReason", Cond.superclass "EncounterLedger" "java/lang/Object", Cond.methodLink zr_La 13 zy_EL_add, Cond.instanceMethod zy_EL_add, Cond.selects zr_EL zy_EL_add zy_EL_add, Cond.code zy_EL_add zb_EL_add 7 (some .int), Cond.methodLink zr_EL 48 zy_EL_isCell, Cond.static zy_EL_isCell, Cond.code zy_EL_isCell zb_EL_isCell 1 (some .boolean)]
def zW2_2 : List Cond := [Cond.methodLink zr_EL 52 zy_St_isFree, Cond.instanceMethod zy_St_isFree, Cond.selects zr_St zy_St_isFree zy_St_isFree, Cond.code zy_St_isFree zb_St_isFree 2 (some .boolean), Cond.methodLink zr_St 59 zy_Ta_get, Cond.instanceMethod zy_Ta_get, Cond.selects zr_Ta zy_Ta_get zy_Ta_get, Cond.code zy_Ta_get zb_Ta_get 4 (some .int), Cond.methodLink zr_St 63 zy_Fi_standingOn, Cond.instanceMethod zy_Fi_standingOn, Cond.selects zr_Fi zy_Fi_standingOn zy_Fi_standingOn, Cond.code zy_Fi_standingOn zb_Fi_standingOn 3 (some .int), Cond.methodLink zr_Fi 28 zy_Ta_used, Cond.instanceMethod zy_Ta_used, Cond.selects zr_Ta zy_Ta_used zy_Ta_used, Cond.code zy_Ta_used zb_Ta_used 1 (some .int)]
def zW2_3 : List Cond := [Cond.methodLink zr_Fi 36 zy_Ta_get, Cond.methodLink zr_EL 55 zy_EL_refuse, Cond.privateMethod zy_EL_refuse, Cond.instanceMethod zy_EL_refuse, Cond.code zy_EL_refuse zb_EL_refuse 2 (some .int), Cond.methodLink zr_EL 63 zy_Fi_size, Cond.instanceMethod zy_Fi_size, Cond.selects zr_Fi zy_Fi_size zy_Fi_size, Cond.code zy_Fi_size zb_Fi_size 1 (some .int), Cond.methodLink zr_EL 69 zy_Ch_keep, Cond.instanceMethod zy_Ch_keep, Cond.selects zr_Ch zy_Ch_keep zy_Ch_keep, Cond.code zy_Ch_keep zb_Ch_keep 3 none, Cond.methodLink zr_Ch 20 zy_St_become, Cond.instanceMethod zy_St_become, Cond.selects zr_St zy_St_become zy_St_become]
def zW2_4 : List Cond := [Cond.code zy_St_become zb_St_become 2 none, Cond.methodLink zr_St 67 zy_Jo_copyFrom, Cond.instanceMethod zy_Jo_copyFrom, Cond.selects zr_Jo zy_Jo_copyFrom zy_Jo_copyFrom, Cond.code zy_Jo_copyFrom zb_Jo_copyFrom 3 none, Cond.methodLink zr_Jo 33 ⟨"java/lang/Math", "min", "(II)I"⟩, Cond.static ⟨"java/lang/Math", "min", "(II)I"⟩, Cond.code ⟨"java/lang/Math", "min", "(II)I"⟩ prog_13_method_69_code 2 (some .int), Cond.methodLink zr_Jo 38 ⟨"java/lang/System", "arraycopy", "(Ljava/lang/Object;ILjava/lang/Object;II)V"⟩, Cond.static ⟨"java/lang/System", "arraycopy", "(Ljava/lang/Object;ILjava/lang/Object;II)V"⟩, Cond.native ⟨"java/lang/System", "arraycopy", "(Ljava/lang/Object;ILjava/lang/Object;II)V"⟩, Cond.methodLink zr_St 70 zy_Co_copyFrom, Cond.instanceMethod zy_Co_copyFrom, Cond.selects zr_Co zy_Co_copyFrom zy_Co_copyFrom, Cond.code zy_Co_copyFrom zb_Co_copyFrom 2 none, Cond.methodLink zr_Co 71 zy_Ta_copyRows]
def zW2_5 : List Cond := [Cond.instanceMethod zy_Ta_copyRows, Cond.selects zr_Ta zy_Ta_copyRows zy_Ta_copyRows, Cond.code zy_Ta_copyRows zb_Ta_copyRows 3 none, Cond.methodLink zr_Ta 32 ⟨"java/lang/Math", "min", "(II)I"⟩, Cond.methodLink zr_Ta 26 ⟨"java/lang/System", "arraycopy", "(Ljava/lang/Object;ILjava/lang/Object;II)V"⟩, Cond.methodLink zr_St 73 zy_Fi_copyFrom, Cond.instanceMethod zy_Fi_copyFrom, Cond.selects zr_Fi zy_Fi_copyFrom zy_Fi_copyFrom, Cond.code zy_Fi_copyFrom zb_Fi_copyFrom 2 none, Cond.methodLink zr_Fi 95 zy_Ta_copyRows, Cond.methodLink zr_St 76 zy_En_copyFrom, Cond.instanceMethod zy_En_copyFrom, Cond.selects zr_En zy_En_copyFrom zy_En_copyFrom, Cond.code zy_En_copyFrom zb_En_copyFrom 2 none, Cond.methodLink zr_En 126 zy_Ta_copyRows, Cond.methodLink zr_St 79 zy_Ta_copyRows]
def zW2_6 : List Cond := [Cond.methodLink zr_Ch 27 ⟨"java/lang/Math", "min", "(II)I"⟩, Cond.methodLink zr_EL 73 zy_Fi_join, Cond.instanceMethod zy_Fi_join, Cond.selects zr_Fi zy_Fi_join zy_Fi_join, Cond.code zy_Fi_join zb_Fi_join 9 (some .int), Cond.methodLink zr_Fi 43 zy_Ta_append, Cond.instanceMethod zy_Ta_append, Cond.selects zr_Ta zy_Ta_append zy_Ta_append, Cond.code zy_Ta_append zb_Ta_append 3 (some .int), Cond.methodLink zr_Fi 40 zy_Ta_set, Cond.instanceMethod zy_Ta_set, Cond.selects zr_Ta zy_Ta_set zy_Ta_set, Cond.code zy_Ta_set zb_Ta_set 5 none, Cond.methodLink zr_Fi 46 zy_Jo_write, Cond.instanceMethod zy_Jo_write, Cond.selects zr_Jo zy_Jo_write zy_Jo_write]
def zW2_7 : List Cond := [Cond.code zy_Jo_write zb_Jo_write 5 none, Cond.methodLink zr_La 18 zy_EL_wall, Cond.instanceMethod zy_EL_wall, Cond.selects zr_EL zy_EL_wall zy_EL_wall, Cond.code zy_EL_wall zb_EL_wall 3 (some .int), Cond.methodLink zr_EL 77 zy_Fi_standingOn, Cond.methodLink zr_EL 84 zy_Ta_get, Cond.methodLink zr_EL 90 zy_Ta_set, Cond.methodLink zr_La 23 zy_EL_amount, Cond.instanceMethod zy_EL_amount, Cond.selects zr_EL zy_EL_amount zy_EL_amount, Cond.code zy_EL_amount zb_EL_amount 5 (some .int), Cond.methodLink zr_EL 94 zy_Fi_has, Cond.instanceMethod zy_Fi_has, Cond.selects zr_Fi zy_Fi_has zy_Fi_has, Cond.code zy_Fi_has zb_Fi_has 2 (some .boolean)]
def zW2_8 : List Cond := [Cond.methodLink zr_Fi 32 zy_Ta_holds, Cond.instanceMethod zy_Ta_holds, Cond.selects zr_Ta zy_Ta_holds zy_Ta_holds, Cond.code zy_Ta_holds zb_Ta_holds 2 (some .boolean), Cond.methodLink zr_EL 101 zy_En_isOn, Cond.instanceMethod zy_En_isOn, Cond.selects zr_En zy_En_isOn zy_En_isOn, Cond.code zy_En_isOn zb_En_isOn 1 (some .boolean), Cond.methodLink zr_EL 107 zy_Fi_at, Cond.instanceMethod zy_Fi_at, Cond.selects zr_Fi zy_Fi_at zy_Fi_at, Cond.code zy_Fi_at zb_Fi_at 3 (some .int), Cond.methodLink zr_EL 110 zy_Fi_put, Cond.instanceMethod zy_Fi_put, Cond.selects zr_Fi zy_Fi_put zy_Fi_put, Cond.code zy_Fi_put zb_Fi_put 4 none]
def zW2_9 : List Cond := [Cond.methodLink zr_La 28 zy_EL_begin, Cond.instanceMethod zy_EL_begin, Cond.selects zr_EL zy_EL_begin zy_EL_begin, Cond.code zy_EL_begin zb_EL_begin 2 (some .int), Cond.methodLink zr_EL 113 zy_En_open, Cond.instanceMethod zy_En_open, Cond.selects zr_En zy_En_open zy_En_open, Cond.code zy_En_open zb_En_open 5 none, Cond.methodLink zr_En 51 zy_Fi_size, Cond.constant zr_En 56 1103515245, Cond.methodLink zr_En 57 zy_Fi_at, Cond.methodLink zr_En 60 zy_Fi_put, Cond.methodLink zr_En 63 zy_En_insert, Cond.privateMethod zy_En_insert, Cond.instanceMethod zy_En_insert, Cond.code zy_En_insert zb_En_insert 3 none]
def zW2_10 : List Cond := [Cond.methodLink zr_En 70 zy_Ta_append, Cond.methodLink zr_En 39 zy_Ta_get, Cond.methodLink zr_En 73 zy_En_isAhead, Cond.privateMethod zy_En_isAhead, Cond.instanceMethod zy_En_isAhead, Cond.code zy_En_isAhead zb_En_isAhead 5 (some .boolean), Cond.methodLink zr_En 77 zy_Ta_copyRow, Cond.instanceMethod zy_Ta_copyRow, Cond.selects zr_Ta zy_Ta_copyRow zy_Ta_copyRow, Cond.code zy_Ta_copyRow zb_Ta_copyRow 6 none, Cond.methodLink zr_En 81 zy_Ta_set, Cond.methodLink zr_EL 117 zy_En_startTurn, Cond.instanceMethod zy_En_startTurn, Cond.selects zr_En zy_En_startTurn zy_En_startTurn, Cond.code zy_En_startTurn zb_En_startTurn 1 none, Cond.methodLink zr_En 94 zy_En_current]
def zW2_11 : List Cond := [Cond.instanceMethod zy_En_current, Cond.selects zr_En zy_En_current zy_En_current, Cond.code zy_En_current zb_En_current 1 (some .int), Cond.methodLink zr_En 97 zy_Jo_write, Cond.methodLink zr_En 102 zy_Co_countSourceTurn, Cond.instanceMethod zy_Co_countSourceTurn, Cond.selects zr_Co zy_Co_countSourceTurn zy_Co_countSourceTurn, Cond.code zy_Co_countSourceTurn zb_Co_countSourceTurn 3 none, Cond.methodLink zr_Co 28 zy_Ta_used, Cond.methodLink zr_Co 36 zy_Ta_get, Cond.methodLink zr_Co 47 zy_Ta_set, Cond.methodLink zr_Co 60 zy_Co_endCounted, Cond.privateMethod zy_Co_endCounted, Cond.instanceMethod zy_Co_endCounted, Cond.code zy_Co_endCounted zb_Co_endCounted 3 none, Cond.methodLink zr_Co 55 zy_Jo_write]
def zW2_12 : List Cond := [Cond.methodLink zr_Co 63 zy_Ta_copyRow, Cond.methodLink zr_Co 67 zy_Ta_cut, Cond.instanceMethod zy_Ta_cut, Cond.selects zr_Ta zy_Ta_cut zy_Ta_cut, Cond.code zy_Ta_cut zb_Ta_cut 2 none, Cond.methodLink zr_En 107 zy_Fi_sufferPoisons, Cond.instanceMethod zy_Fi_sufferPoisons, Cond.selects zr_Fi zy_Fi_sufferPoisons zy_Fi_sufferPoisons, Cond.code zy_Fi_sufferPoisons zb_Fi_sufferPoisons 4 none, Cond.methodLink zr_Fi 78 zy_Co_listPoisoners, Cond.instanceMethod zy_Co_listPoisoners, Cond.selects zr_Co zy_Co_listPoisoners zy_Co_listPoisoners, Cond.code zy_Co_listPoisoners zb_Co_listPoisoners 5 (some .int), Cond.methodLink zr_Fi 82 zy_Co_poisonBy, Cond.instanceMethod zy_Co_poisonBy, Cond.selects zr_Co zy_Co_poisonBy zy_Co_poisonBy]
def zW2_13 : List Cond := [Cond.code zy_Co_poisonBy zb_Co_poisonBy 4 (some .int), Cond.methodLink zr_Co 40 zy_Co_find, Cond.instanceMethod zy_Co_find, Cond.selects zr_Co zy_Co_find zy_Co_find, Cond.code zy_Co_find zb_Co_find 5 (some .int), Cond.methodLink zr_Fi 59 zy_Fi_lose, Cond.privateMethod zy_Fi_lose, Cond.instanceMethod zy_Fi_lose, Cond.code zy_Fi_lose zb_Fi_lose 5 (some .int), Cond.methodLink zr_Fi 62 ⟨"java/lang/Math", "min", "(II)I"⟩, Cond.methodLink zr_Fi 71 zy_Co_endAllOf, Cond.instanceMethod zy_Co_endAllOf, Cond.selects zr_Co zy_Co_endAllOf zy_Co_endAllOf, Cond.code zy_Co_endAllOf zb_Co_endAllOf 3 none, Cond.methodLink zr_Fi 75 zy_Co_endHarmedOf, Cond.instanceMethod zy_Co_endHarmedOf]
def zW2_14 : List Cond := [Cond.selects zr_Co zy_Co_endHarmedOf zy_Co_endHarmedOf, Cond.code zy_Co_endHarmedOf zb_Co_endHarmedOf 4 none, Cond.methodLink zr_EL 120 zy_En_current, Cond.methodLink zr_La 32 zy_EL_finish, Cond.instanceMethod zy_EL_finish, Cond.selects zr_EL zy_EL_finish zy_EL_finish, Cond.code zy_EL_finish zb_EL_finish 2 (some .int), Cond.methodLink zr_EL 126 zy_En_close, Cond.instanceMethod zy_En_close, Cond.selects zr_En zy_En_close zy_En_close, Cond.code zy_En_close zb_En_close 2 none, Cond.methodLink zr_En 120 zy_Ta_cut, Cond.methodLink zr_En 123 zy_Co_endOfEncounter, Cond.instanceMethod zy_Co_endOfEncounter, Cond.selects zr_Co zy_Co_endOfEncounter zy_Co_endOfEncounter, Cond.code zy_Co_endOfEncounter zb_Co_endOfEncounter 2 none]
set_option maxRecDepth 100000 in
theorem zE2 : tables_1_2 = zW2_0 ++ (zW2_1 ++ (zW2_2 ++ (zW2_3 ++ (zW2_4 ++ (zW2_5 ++ (zW2_6 ++ (zW2_7 ++ (zW2_8 ++ (zW2_9 ++ (zW2_10 ++ (zW2_11 ++ (zW2_12 ++ (zW2_13 ++ (zW2_14)))))))))))))) := rfl
theorem zF2 : ∀ w ∈ zW2_0 ++ (zW2_1 ++ (zW2_2 ++ (zW2_3 ++ (zW2_4 ++ (zW2_5 ++ (zW2_6 ++ (zW2_7 ++ (zW2_8 ++ (zW2_9 ++ (zW2_10 ++ (zW2_11 ++ (zW2_12 ++ (zW2_13 ++ (zW2_14)))))))))))))), w ∈ lw_tbl := zE2 ▸ zT_2
theorem zV2_0 : ∀ w ∈ zW2_0, w ∈ lw_tbl := zM_l (zF2)
theorem zV2_1 : ∀ w ∈ zW2_1, w ∈ lw_tbl := zM_l (zM_r (zF2))
theorem zV2_2 : ∀ w ∈ zW2_2, w ∈ lw_tbl := zM_l (zM_r (zM_r (zF2)))
theorem zV2_3 : ∀ w ∈ zW2_3, w ∈ lw_tbl := zM_l (zM_r (zM_r (zM_r (zF2))))
theorem zV2_4 : ∀ w ∈ zW2_4, w ∈ lw_tbl := zM_l (zM_r (zM_r (zM_r (zM_r (zF2)))))
theorem zV2_5 : ∀ w ∈ zW2_5, w ∈ lw_tbl := zM_l (zM_r (zM_r (zM_r (zM_r (zM_r (zF2))))))
theorem zV2_6 : ∀ w ∈ zW2_6, w ∈ lw_tbl := zM_l (zM_r (zM_r (zM_r (zM_r (zM_r (zM_r (zF2)))))))
theorem zV2_7 : ∀ w ∈ zW2_7, w ∈ lw_tbl := zM_l (zM_r (zM_r (zM_r (zM_r (zM_r (zM_r (zM_r (zF2))))))))
theorem zV2_8 : ∀ w ∈ zW2_8, w ∈ lw_tbl := zM_l (zM_r (zM_r (zM_r (zM_r (zM_r (zM_r (zM_r (zM_r (zF2)))))))))
theorem zV2_9 : ∀ w ∈ zW2_9, w ∈ lw_tbl := zM_l (zM_r (zM_r (zM_r (zM_r (zM_r (zM_r (zM_r (zM_r (zM_r (zF2))))))))))
theorem zV2_10 : ∀ w ∈ zW2_10, w ∈ lw_tbl := zM_l (zM_r (zM_r (zM_r (zM_r (zM_r (zM_r (zM_r (zM_r (zM_r (zM_r (zF2)))))))))))
theorem zV2_11 : ∀ w ∈ zW2_11, w ∈ lw_tbl := zM_l (zM_r (zM_r (zM_r (zM_r (zM_r (zM_r (zM_r (zM_r (zM_r (zM_r (zM_r (zF2))))))))))))
theorem zV2_12 : ∀ w ∈ zW2_12, w ∈ lw_tbl := zM_l (zM_r (zM_r (zM_r (zM_r (zM_r (zM_r (zM_r (zM_r (zM_r (zM_r (zM_r (zM_r (zF2)))))))))))))
theorem zV2_13 : ∀ w ∈ zW2_13, w ∈ lw_tbl := zM_l (zM_r (zM_r (zM_r (zM_r (zM_r (zM_r (zM_r (zM_r (zM_r (zM_r (zM_r (zM_r (zM_r (zF2))))))))))))))
theorem zV2_14 : ∀ w ∈ zW2_14, w ∈ lw_tbl := zM_r (zM_r (zM_r (zM_r (zM_r (zM_r (zM_r (zM_r (zM_r (zM_r (zM_r (zM_r (zM_r (zM_r (zF2))))))))))))))
def zW3_0 : List Cond := [Cond.methodLink zr_La 37 zy_EL_endTurn, Cond.instanceMethod zy_EL_endTurn, Cond.selects zr_EL zy_EL_endTurn zy_EL_endTurn, Cond.code zy_EL_endTurn zb_EL_endTurn 1 (some .int), Cond.methodLink zr_EL 129 zy_En_leaveTurn, Cond.instanceMethod zy_En_leaveTurn, Cond.selects zr_En zy_En_leaveTurn zy_En_leaveTurn, Cond.code zy_En_leaveTurn zb_En_leaveTurn 1 none, Cond.methodLink zr_En 110 zy_Co_countTurnEnd, Cond.instanceMethod zy_Co_countTurnEnd, Cond.selects zr_Co zy_Co_countTurnEnd zy_Co_countTurnEnd, Cond.code zy_Co_countTurnEnd zb_Co_countTurnEnd 3 none, Cond.methodLink zr_En 47 zy_Ta_used, Cond.methodLink zr_La 41 zy_EL_delay, Cond.instanceMethod zy_EL_delay, Cond.selects zr_EL zy_EL_delay zy_EL_delay]
def zW3_1 : List Cond := [Cond.code zy_EL_delay zb_EL_delay 3 (some .int), Cond.methodLink zr_EL 132 zy_EL_whyNoAct, Cond.privateMethod zy_EL_whyNoAct, Cond.instanceMethod zy_EL_whyNoAct, Cond.code zy_EL_whyNoAct zb_EL_whyNoAct 2 (some .int), Cond.methodLink zr_EL 141 zy_EL_whyCannotAct, Cond.privateMethod zy_EL_whyCannotAct, Cond.instanceMethod zy_EL_whyCannotAct, Cond.code zy_EL_whyCannotAct zb_EL_whyCannotAct 1 (some .int), Cond.methodLink zr_EL 235 zy_Fi_canAct, Cond.instanceMethod zy_Fi_canAct, Cond.selects zr_Fi zy_Fi_canAct zy_Fi_canAct, Cond.code zy_Fi_canAct zb_Fi_canAct 2 (some .boolean), Cond.methodLink zr_Fi 51 zy_Fi_isDown, Cond.instanceMethod zy_Fi_isDown, Cond.selects zr_Fi zy_Fi_isDown zy_Fi_isDown]
def zW3_2 : List Cond := [Cond.code zy_Fi_isDown zb_Fi_isDown 2 (some .boolean), Cond.methodLink zr_Fi 54 zy_Co_sumOf, Cond.instanceMethod zy_Co_sumOf, Cond.selects zr_Co zy_Co_sumOf zy_Co_sumOf, Cond.code zy_Co_sumOf zb_Co_sumOf 5 (some .int), Cond.methodLink zr_EL 135 zy_En_comesLater, Cond.instanceMethod zy_En_comesLater, Cond.selects zr_En zy_En_comesLater zy_En_comesLater, Cond.code zy_En_comesLater zb_En_comesLater 2 (some .boolean), Cond.methodLink zr_En 113 zy_En_placeOf, Cond.instanceMethod zy_En_placeOf, Cond.selects zr_En zy_En_placeOf zy_En_placeOf, Cond.code zy_En_placeOf zb_En_placeOf 3 (some .int), Cond.methodLink zr_EL 138 zy_En_putBehind, Cond.instanceMethod zy_En_putBehind, Cond.selects zr_En zy_En_putBehind zy_En_putBehind]
def zW3_3 : List Cond := [Cond.code zy_En_putBehind zb_En_putBehind 5 none, Cond.methodLink zr_La 45 zy_EL_move, Cond.instanceMethod zy_EL_move, Cond.selects zr_EL zy_EL_move zy_EL_move, Cond.code zy_EL_move zb_EL_move 4 (some .int), Cond.methodLink zr_EL 144 zy_Wa_measure, Cond.instanceMethod zy_Wa_measure, Cond.selects zr_Wa zy_Wa_measure zy_Wa_measure, Cond.code zy_Wa_measure zb_Wa_measure 5 (some .int), Cond.methodLink zr_Wa 22 zy_Wa_markClosed, Cond.privateMethod zy_Wa_markClosed, Cond.instanceMethod zy_Wa_markClosed, Cond.code zy_Wa_markClosed zb_Wa_markClosed 6 none, Cond.methodLink zr_Wa 50 zy_Ta_get, Cond.methodLink zr_Wa 55 zy_Fi_size, Cond.methodLink zr_Wa 34 zy_Fi_at]
def zW3_4 : List Cond := [Cond.methodLink zr_Wa 59 zy_Fi_areFoes, Cond.instanceMethod zy_Fi_areFoes, Cond.selects zr_Fi zy_Fi_areFoes zy_Fi_areFoes, Cond.code zy_Fi_areFoes zb_Fi_areFoes 3 (some .boolean), Cond.methodLink zr_Wa 63 zy_Fi_isDown, Cond.methodLink zr_Wa 38 zy_Wa_reach, Cond.privateMethod zy_Wa_reach, Cond.instanceMethod zy_Wa_reach, Cond.code zy_Wa_reach zb_Wa_reach 4 none, Cond.methodLink zr_Wa 42 zy_Wa_reachNeighbors, Cond.privateMethod zy_Wa_reachNeighbors, Cond.instanceMethod zy_Wa_reachNeighbors, Cond.code zy_Wa_reachNeighbors zb_Wa_reachNeighbors 6 none, Cond.methodLinkNest zr_Wa 67 zy_EL_columnStep "EncounterLedger", Cond.static zy_EL_columnStep, Cond.code zy_EL_columnStep zb_EL_columnStep 1 (some .int)]
def zW3_5 : List Cond := [Cond.methodLinkNest zr_Wa 71 zy_EL_rowStep "EncounterLedger", Cond.static zy_EL_rowStep, Cond.code zy_EL_rowStep zb_EL_rowStep 1 (some .int), Cond.methodLink zr_EL 148 zy_EL_stepsLeft, Cond.privateMethod zy_EL_stepsLeft, Cond.instanceMethod zy_EL_stepsLeft, Cond.code zy_EL_stepsLeft zb_EL_stepsLeft 4 (some .int), Cond.methodLink zr_EL 232 zy_Co_sumOf, Cond.methodLink zr_EL 329 ⟨"java/lang/Math", "max", "(II)I"⟩, Cond.methodLink zr_EL 154 zy_Fi_moveTo, Cond.instanceMethod zy_Fi_moveTo, Cond.selects zr_Fi zy_Fi_moveTo zy_Fi_moveTo, Cond.code zy_Fi_moveTo zb_Fi_moveTo 3 none, Cond.methodLink zr_La 49 zy_EL_strike, Cond.instanceMethod zy_EL_strike, Cond.selects zr_EL zy_EL_strike zy_EL_strike]
def zW3_6 : List Cond := [Cond.code zy_EL_strike zb_EL_strike 3 (some .int), Cond.methodLink zr_EL 158 zy_EL_canBeStruck, Cond.privateMethod zy_EL_canBeStruck, Cond.instanceMethod zy_EL_canBeStruck, Cond.code zy_EL_canBeStruck zb_EL_canBeStruck 3 (some .boolean), Cond.methodLink zr_EL 322 zy_Fi_areFoes, Cond.methodLink zr_EL 326 zy_Fi_isDown, Cond.methodLink zr_EL 253 zy_EL_isInArea, Cond.static zy_EL_isInArea, Cond.code zy_EL_isInArea zb_EL_isInArea 9 (some .boolean), Cond.methodLink zr_EL 351 zy_EL_columnStep, Cond.methodLink zr_EL 354 zy_EL_rowStep, Cond.methodLink zr_EL 357 ⟨"java/lang/Math", "abs", "(I)I"⟩, Cond.static ⟨"java/lang/Math", "abs", "(I)I"⟩, Cond.code ⟨"java/lang/Math", "abs", "(I)I"⟩ prog_13_method_59_code 1 (some .int), Cond.methodLink zr_EL 161 zy_En_act]
def zW3_7 : List Cond := [Cond.instanceMethod zy_En_act, Cond.selects zr_En zy_En_act zy_En_act, Cond.code zy_En_act zb_En_act 2 none, Cond.methodLink zr_EL 164 zy_Fi_hurt, Cond.instanceMethod zy_Fi_hurt, Cond.selects zr_Fi zy_Fi_hurt zy_Fi_hurt, Cond.code zy_Fi_hurt zb_Fi_hurt 3 (some .int), Cond.methodLink zr_La 53 zy_EL_feed, Cond.instanceMethod zy_EL_feed, Cond.selects zr_EL zy_EL_feed zy_EL_feed, Cond.code zy_EL_feed zb_EL_feed 9 (some .int), Cond.methodLink zr_EL 167 zy_EL_isByte, Cond.static zy_EL_isByte, Cond.code zy_EL_isByte zb_EL_isByte 1 (some .boolean), Cond.methodLink zr_EL 170 zy_Tp_hasRoomFor, Cond.instanceMethod zy_Tp_hasRoomFor]
def zW3_8 : List Cond := [Cond.selects zr_Tp zy_Tp_hasRoomFor zy_Tp_hasRoomFor, Cond.code zy_Tp_hasRoomFor zb_Tp_hasRoomFor 2 (some .boolean), Cond.methodLink zr_EL 173 zy_Tp_append, Cond.instanceMethod zy_Tp_append, Cond.selects zr_Tp zy_Tp_append zy_Tp_append, Cond.code zy_Tp_append zb_Tp_append 2 none, Cond.methodLink zr_La 58 zy_EL_power, Cond.instanceMethod zy_EL_power, Cond.selects zr_EL zy_EL_power zy_EL_power, Cond.code zy_EL_power zb_EL_power 5 (some .int), Cond.methodLink zr_EL 182 zy_Ta_holds, Cond.methodLink zr_EL 185 zy_Tp_readPower, Cond.instanceMethod zy_Tp_readPower, Cond.selects zr_Tp zy_Tp_readPower zy_Tp_readPower, Cond.code zy_Tp_readPower zb_Tp_readPower 1 (some .boolean), Cond.methodLink zr_Tp 25 zy_Ar_fill]
def zW3_9 : List Cond := [Cond.static zy_Ar_fill, Cond.code zy_Ar_fill zb_Ar_fill 4 none, Cond.methodLink zr_Tp 31 zy_Tp_readShape, Cond.privateMethod zy_Tp_readShape, Cond.instanceMethod zy_Tp_readShape, Cond.code zy_Tp_readShape zb_Tp_readShape 3 (some .boolean), Cond.methodLink zr_Tp 49 zy_Tp_peek, Cond.privateMethod zy_Tp_peek, Cond.instanceMethod zy_Tp_peek, Cond.code zy_Tp_peek zb_Tp_peek 2 (some .int), Cond.methodLink zr_Tp 53 zy_Tp_setPart, Cond.privateMethod zy_Tp_setPart, Cond.instanceMethod zy_Tp_setPart, Cond.code zy_Tp_setPart zb_Tp_setPart 3 none, Cond.methodLink zr_Tp 39 zy_Tp_skip, Cond.privateMethod zy_Tp_skip]
def zW3_10 : List Cond := [Cond.instanceMethod zy_Tp_skip, Cond.code zy_Tp_skip zb_Tp_skip 3 (some .boolean), Cond.methodLink zr_Tp 35 zy_Tp_readDigit, Cond.privateMethod zy_Tp_readDigit, Cond.instanceMethod zy_Tp_readDigit, Cond.code zy_Tp_readDigit zb_Tp_readDigit 6 (some .boolean), Cond.methodLink zr_Tp 43 zy_Tp_readEffects, Cond.privateMethod zy_Tp_readEffects, Cond.instanceMethod zy_Tp_readEffects, Cond.code zy_Tp_readEffects zb_Tp_readEffects 2 (some .boolean), Cond.methodLink zr_Tp 57 zy_Tp_readEffect, Cond.privateMethod zy_Tp_readEffect, Cond.instanceMethod zy_Tp_readEffect, Cond.code zy_Tp_readEffect zb_Tp_readEffect 3 (some .boolean), Cond.methodLink zr_Tp 60 zy_Tp_readNumber, Cond.privateMethod zy_Tp_readNumber]
def zW3_11 : List Cond := [Cond.instanceMethod zy_Tp_readNumber, Cond.code zy_Tp_readNumber zb_Tp_readNumber 3 (some .boolean), Cond.methodLink zr_Tp 63 zy_Tp_part, Cond.instanceMethod zy_Tp_part, Cond.selects zr_Tp zy_Tp_part zy_Tp_part, Cond.code zy_Tp_part zb_Tp_part 2 (some .int), Cond.methodLink zr_Tp 46 zy_Tp_readCost, Cond.privateMethod zy_Tp_readCost, Cond.instanceMethod zy_Tp_readCost, Cond.code zy_Tp_readCost zb_Tp_readCost 1 (some .boolean), Cond.methodLink zr_EL 191 zy_Tp_clear, Cond.instanceMethod zy_Tp_clear, Cond.selects zr_Tp zy_Tp_clear zy_Tp_clear, Cond.code zy_Tp_clear zb_Tp_clear 1 none, Cond.methodLink zr_EL 194 zy_Tp_part, Cond.methodLink zr_La 62 zy_EL_cast]
def zW3_12 : List Cond := [Cond.instanceMethod zy_EL_cast, Cond.selects zr_EL zy_EL_cast zy_EL_cast, Cond.code zy_EL_cast zb_EL_cast 11 (some .int), Cond.methodLink zr_EL 197 zy_EL_isDirection, Cond.static zy_EL_isDirection, Cond.code zy_EL_isDirection zb_EL_isDirection 1 (some .boolean), Cond.methodLink zr_EL 200 zy_EL_whyNoCast, Cond.privateMethod zy_EL_whyNoCast, Cond.instanceMethod zy_EL_whyNoCast, Cond.code zy_EL_whyNoCast zb_EL_whyNoCast 5 (some .int), Cond.methodLink zr_EL 203 zy_EL_countMet, Cond.privateMethod zy_EL_countMet, Cond.instanceMethod zy_EL_countMet, Cond.code zy_EL_countMet zb_EL_countMet 6 (some .int), Cond.methodLink zr_EL 334 zy_EL_isMet, Cond.privateMethod zy_EL_isMet]
def zW3_13 : List Cond := [Cond.instanceMethod zy_EL_isMet, Cond.code zy_EL_isMet zb_EL_isMet 5 (some .boolean), Cond.methodLink zr_EL 207 zy_Fi_spend, Cond.instanceMethod zy_Fi_spend, Cond.selects zr_Fi zy_Fi_spend zy_Fi_spend, Cond.code zy_Fi_spend zb_Fi_spend 4 none, Cond.methodLink zr_EL 210 zy_EL_spread, Cond.privateMethod zy_EL_spread, Cond.instanceMethod zy_EL_spread, Cond.code zy_EL_spread zb_EL_spread 12 none, Cond.methodLink zr_EL 338 zy_En_inOrder, Cond.instanceMethod zy_En_inOrder, Cond.selects zr_En zy_En_inOrder zy_En_inOrder, Cond.code zy_En_inOrder zb_En_inOrder 2 (some .int), Cond.methodLink zr_En 43 zy_Ta_holds, Cond.methodLink zr_EL 341 zy_Fi_mend]
def zW3_14 : List Cond := [Cond.instanceMethod zy_Fi_mend, Cond.selects zr_Fi zy_Fi_mend zy_Fi_mend, Cond.code zy_Fi_mend zb_Fi_mend 5 (some .int), Cond.methodLink zr_EL 344 zy_Co_make, Cond.instanceMethod zy_Co_make, Cond.selects zr_Co zy_Co_make zy_Co_make, Cond.code zy_Co_make zb_Co_make 8 none, Cond.methodLink zr_Co 44 zy_Ta_append, Cond.methodLink zr_Co 50 ⟨"java/lang/Math", "max", "(II)I"⟩, Cond.methodLink zr_La 66 zy_EL_rest, Cond.instanceMethod zy_EL_rest, Cond.selects zr_EL zy_EL_rest zy_EL_rest, Cond.code zy_EL_rest zb_EL_rest 4 (some .int), Cond.methodLink zr_EL 217 zy_Fi_restLong, Cond.instanceMethod zy_Fi_restLong, Cond.selects zr_Fi zy_Fi_restLong zy_Fi_restLong]
set_option maxRecDepth 100000 in
theorem zE3 : tables_1_3 = zW3_0 ++ (zW3_1 ++ (zW3_2 ++ (zW3_3 ++ (zW3_4 ++ (zW3_5 ++ (zW3_6 ++ (zW3_7 ++ (zW3_8 ++ (zW3_9 ++ (zW3_10 ++ (zW3_11 ++ (zW3_12 ++ (zW3_13 ++ (zW3_14)))))))))))))) := rfl
theorem zF3 : ∀ w ∈ zW3_0 ++ (zW3_1 ++ (zW3_2 ++ (zW3_3 ++ (zW3_4 ++ (zW3_5 ++ (zW3_6 ++ (zW3_7 ++ (zW3_8 ++ (zW3_9 ++ (zW3_10 ++ (zW3_11 ++ (zW3_12 ++ (zW3_13 ++ (zW3_14)))))))))))))), w ∈ lw_tbl := zE3 ▸ zT_3
theorem zV3_0 : ∀ w ∈ zW3_0, w ∈ lw_tbl := zM_l (zF3)
theorem zV3_1 : ∀ w ∈ zW3_1, w ∈ lw_tbl := zM_l (zM_r (zF3))
theorem zV3_2 : ∀ w ∈ zW3_2, w ∈ lw_tbl := zM_l (zM_r (zM_r (zF3)))
theorem zV3_3 : ∀ w ∈ zW3_3, w ∈ lw_tbl := zM_l (zM_r (zM_r (zM_r (zF3))))
theorem zV3_4 : ∀ w ∈ zW3_4, w ∈ lw_tbl := zM_l (zM_r (zM_r (zM_r (zM_r (zF3)))))
theorem zV3_5 : ∀ w ∈ zW3_5, w ∈ lw_tbl := zM_l (zM_r (zM_r (zM_r (zM_r (zM_r (zF3))))))
theorem zV3_6 : ∀ w ∈ zW3_6, w ∈ lw_tbl := zM_l (zM_r (zM_r (zM_r (zM_r (zM_r (zM_r (zF3)))))))
theorem zV3_7 : ∀ w ∈ zW3_7, w ∈ lw_tbl := zM_l (zM_r (zM_r (zM_r (zM_r (zM_r (zM_r (zM_r (zF3))))))))
theorem zV3_8 : ∀ w ∈ zW3_8, w ∈ lw_tbl := zM_l (zM_r (zM_r (zM_r (zM_r (zM_r (zM_r (zM_r (zM_r (zF3)))))))))
theorem zV3_9 : ∀ w ∈ zW3_9, w ∈ lw_tbl := zM_l (zM_r (zM_r (zM_r (zM_r (zM_r (zM_r (zM_r (zM_r (zM_r (zF3))))))))))
theorem zV3_10 : ∀ w ∈ zW3_10, w ∈ lw_tbl := zM_l (zM_r (zM_r (zM_r (zM_r (zM_r (zM_r (zM_r (zM_r (zM_r (zM_r (zF3)))))))))))
theorem zV3_11 : ∀ w ∈ zW3_11, w ∈ lw_tbl := zM_l (zM_r (zM_r (zM_r (zM_r (zM_r (zM_r (zM_r (zM_r (zM_r (zM_r (zM_r (zF3))))))))))))
theorem zV3_12 : ∀ w ∈ zW3_12, w ∈ lw_tbl := zM_l (zM_r (zM_r (zM_r (zM_r (zM_r (zM_r (zM_r (zM_r (zM_r (zM_r (zM_r (zM_r (zF3)))))))))))))
theorem zV3_13 : ∀ w ∈ zW3_13, w ∈ lw_tbl := zM_l (zM_r (zM_r (zM_r (zM_r (zM_r (zM_r (zM_r (zM_r (zM_r (zM_r (zM_r (zM_r (zM_r (zF3))))))))))))))
theorem zV3_14 : ∀ w ∈ zW3_14, w ∈ lw_tbl := zM_r (zM_r (zM_r (zM_r (zM_r (zM_r (zM_r (zM_r (zM_r (zM_r (zM_r (zM_r (zM_r (zM_r (zF3))))))))))))))
def zW4_0 : List Cond := [Cond.code zy_Fi_restLong zb_Fi_restLong 4 (some .int), Cond.methodLink zr_Fi 88 zy_Fi_mend, Cond.methodLink zr_Fi 91 zy_Fi_refill, Cond.privateMethod zy_Fi_refill, Cond.instanceMethod zy_Fi_refill, Cond.code zy_Fi_refill zb_Fi_refill 5 none, Cond.methodLink zr_EL 220 zy_Fi_restShort, Cond.instanceMethod zy_Fi_restShort, Cond.selects zr_Fi zy_Fi_restShort zy_Fi_restShort, Cond.code zy_Fi_restShort zb_Fi_restShort 3 (some .int), Cond.methodLink zr_EL 227 zy_Co_endWith, Cond.instanceMethod zy_Co_endWith, Cond.selects zr_Co zy_Co_endWith zy_Co_endWith, Cond.code zy_Co_endWith zb_Co_endWith 3 none, Cond.methodLink zr_La 70 zy_EL_fighter, Cond.instanceMethod zy_EL_fighter]
def zW4_1 : List Cond := [Cond.selects zr_EL zy_EL_fighter zy_EL_fighter, Cond.code zy_EL_fighter zb_EL_fighter 3 (some .int), Cond.methodLink zr_EL 238 zy_En_placeOf, Cond.methodLink zr_EL 241 zy_Co_numberOf, Cond.instanceMethod zy_Co_numberOf, Cond.selects zr_Co zy_Co_numberOf zy_Co_numberOf, Cond.code zy_Co_numberOf zb_Co_numberOf 4 (some .int), Cond.methodLink zr_La 75 zy_EL_turn, Cond.instanceMethod zy_EL_turn, Cond.selects zr_EL zy_EL_turn zy_EL_turn, Cond.code zy_EL_turn zb_EL_turn 2 (some .int), Cond.methodLink zr_EL 247 zy_En_atPlace, Cond.instanceMethod zy_En_atPlace, Cond.selects zr_En zy_En_atPlace zy_En_atPlace, Cond.code zy_En_atPlace zb_En_atPlace 2 (some .int), Cond.methodLink zr_La 79 zy_EL_condition]
def zW4_2 : List Cond := [Cond.instanceMethod zy_EL_condition, Cond.selects zr_EL zy_EL_condition zy_EL_condition, Cond.code zy_EL_condition zb_EL_condition 3 (some .int), Cond.methodLink zr_EL 250 zy_Co_size, Cond.instanceMethod zy_Co_size, Cond.selects zr_Co zy_Co_size zy_Co_size, Cond.code zy_Co_size zb_Co_size 1 (some .int), Cond.methodLink zr_EL 251 zy_Co_has, Cond.instanceMethod zy_Co_has, Cond.selects zr_Co zy_Co_has zy_Co_has, Cond.code zy_Co_has zb_Co_has 2 (some .boolean), Cond.methodLink zr_Co 32 zy_Ta_holds, Cond.methodLink zr_EL 252 zy_Co_at, Cond.instanceMethod zy_Co_at, Cond.selects zr_Co zy_Co_at zy_Co_at, Cond.code zy_Co_at zb_Co_at 3 (some .int)]
def zW4_3 : List Cond := [Cond.methodLink zr_La 83 zy_EL_area, Cond.instanceMethod zy_EL_area, Cond.selects zr_EL zy_EL_area zy_EL_area, Cond.code zy_EL_area zb_EL_area 8 (some .int), Cond.methodLink zr_La 87 zy_EL_way, Cond.instanceMethod zy_EL_way, Cond.selects zr_EL zy_EL_way zy_EL_way, Cond.code zy_EL_way zb_EL_way 3 (some .int), Cond.methodLink zr_La 91 zy_EL_entry, Cond.instanceMethod zy_EL_entry, Cond.selects zr_EL zy_EL_entry zy_EL_entry, Cond.code zy_EL_entry zb_EL_entry 3 (some .int), Cond.methodLink zr_EL 266 zy_Jo_keeps, Cond.instanceMethod zy_Jo_keeps, Cond.selects zr_Jo zy_Jo_keeps zy_Jo_keeps, Cond.code zy_Jo_keeps zb_Jo_keeps 2 (some .boolean)]
def zW4_4 : List Cond := [Cond.methodLink zr_EL 269 zy_Jo_at, Cond.instanceMethod zy_Jo_at, Cond.selects zr_Jo zy_Jo_at zy_Jo_at, Cond.code zy_Jo_at zb_Jo_at 4 (some .int), Cond.methodLink zr_La 95 zy_EL_replayed, Cond.instanceMethod zy_EL_replayed, Cond.selects zr_EL zy_EL_replayed zy_EL_replayed, Cond.code zy_EL_replayed zb_EL_replayed 3 (some .int), Cond.methodLink zr_EL 270 zy_Jo_keepsAll, Cond.instanceMethod zy_Jo_keepsAll, Cond.selects zr_Jo zy_Jo_keepsAll zy_Jo_keepsAll, Cond.code zy_Jo_keepsAll zb_Jo_keepsAll 1 (some .boolean), Cond.methodLink zr_EL 273 zy_Jo_lifeOf, Cond.instanceMethod zy_Jo_lifeOf, Cond.selects zr_Jo zy_Jo_lifeOf zy_Jo_lifeOf, Cond.code zy_Jo_lifeOf zb_Jo_lifeOf 2 (some .int)]
def zW4_5 : List Cond := [Cond.methodLink zr_Jo 27 zy_Jo_sumOf, Cond.privateMethod zy_Jo_sumOf, Cond.instanceMethod zy_Jo_sumOf, Cond.code zy_Jo_sumOf zb_Jo_sumOf 5 (some .int), Cond.methodLink zr_Jo 23 zy_Jo_tells, Cond.privateMethod zy_Jo_tells, Cond.instanceMethod zy_Jo_tells, Cond.code zy_Jo_tells zb_Jo_tells 4 (some .boolean), Cond.methodLink zr_Jo 19 zy_Jo_at, Cond.methodLink zr_EL 276 zy_Jo_numberOf, Cond.instanceMethod zy_Jo_numberOf, Cond.selects zr_Jo zy_Jo_numberOf zy_Jo_numberOf, Cond.code zy_Jo_numberOf zb_Jo_numberOf 5 (some .int), Cond.methodLink zr_EL 278 zy_Jo_spentBy, Cond.instanceMethod zy_Jo_spentBy, Cond.selects zr_Jo zy_Jo_spentBy zy_Jo_spentBy]
def zW4_6 : List Cond := [Cond.code zy_Jo_spentBy zb_Jo_spentBy 2 (some .int), Cond.methodLink zr_Jo 30 zy_Jo_sumOfAmounts, Cond.privateMethod zy_Jo_sumOfAmounts, Cond.instanceMethod zy_Jo_sumOfAmounts, Cond.code zy_Jo_sumOfAmounts zb_Jo_sumOfAmounts 5 (some .int), Cond.methodLink zr_EL 281 zy_Jo_latestMoveOf, Cond.instanceMethod zy_Jo_latestMoveOf, Cond.selects zr_Jo zy_Jo_latestMoveOf zy_Jo_latestMoveOf, Cond.code zy_Jo_latestMoveOf zb_Jo_latestMoveOf 4 (some .int), Cond.methodLink zr_La 99 zy_EL_reason, Cond.instanceMethod zy_EL_reason, Cond.selects zr_EL zy_EL_reason zy_EL_reason, Cond.code zy_EL_reason zb_EL_reason 1 (some .int), Cond.methodLink zr_La 103 zy_EL_account, Cond.instanceMethod zy_EL_account, Cond.selects zr_EL zy_EL_account zy_EL_account]
def zW4_7 : List Cond := [Cond.code zy_EL_account zb_EL_account 2 (some .int), Cond.methodLink zr_EL 284 zy_Fi_numberDown, Cond.instanceMethod zy_Fi_numberDown, Cond.selects zr_Fi zy_Fi_numberDown zy_Fi_numberDown, Cond.code zy_Fi_numberDown zb_Fi_numberDown 3 (some .int), Cond.methodLink zr_EL 287 zy_Fi_livesOf, Cond.instanceMethod zy_Fi_livesOf, Cond.selects zr_Fi zy_Fi_livesOf zy_Fi_livesOf, Cond.code zy_Fi_livesOf zb_Fi_livesOf 4 (some .int), Cond.methodLink zr_EL 305 zy_St_numberOfWalls, Cond.instanceMethod zy_St_numberOfWalls, Cond.selects zr_St zy_St_numberOfWalls zy_St_numberOfWalls, Cond.code zy_St_numberOfWalls zb_St_numberOfWalls 3 (some .int), Cond.methodLink zr_La 107 zy_EL_back, Cond.instanceMethod zy_EL_back, Cond.selects zr_EL zy_EL_back zy_EL_back]
def zW4_8 : List Cond := [Cond.code zy_EL_back zb_EL_back 1 (some .int), Cond.methodLink zr_EL 310 zy_Ch_takeBack, Cond.instanceMethod zy_Ch_takeBack, Cond.selects zr_Ch zy_Ch_takeBack zy_Ch_takeBack, Cond.code zy_Ch_takeBack zb_Ch_takeBack 4 none, Cond.methodLink zr_La 111 zy_EL_image, Cond.instanceMethod zy_EL_image, Cond.selects zr_EL zy_EL_image zy_EL_image, Cond.code zy_EL_image zb_EL_image 1 (some .int), Cond.methodLink zr_EL 313 zy_St_become, Cond.methodLink zr_La 115 zy_EL_undo, Cond.instanceMethod zy_EL_undo, Cond.selects zr_EL zy_EL_undo zy_EL_undo, Cond.code zy_EL_undo zb_EL_undo 1 (some .int), Cond.methodLink zr_EL 316 zy_Ch_forget, Cond.instanceMethod zy_Ch_forget]
def zW4_9 : List Cond := [Cond.selects zr_Ch zy_Ch_forget zy_Ch_forget, Cond.code zy_Ch_forget zb_Ch_forget 1 none, Cond.methodLink zr_La 119 zy_EL_count, Cond.instanceMethod zy_EL_count, Cond.selects zr_EL zy_EL_count zy_EL_count, Cond.code zy_EL_count zb_EL_count 2 (some .int), Cond.methodLink zr_EL 319 zy_EL_setOfPowers, Cond.privateMethod zy_EL_setOfPowers, Cond.instanceMethod zy_EL_setOfPowers, Cond.code zy_EL_setOfPowers zb_EL_setOfPowers 3 (some .int), Cond.methodLink zr_EL 348 zy_Ta_used, Cond.classLink zr_La 10 zr_Mo, Cond.instantiable zr_Mo 46, Cond.methodLink zr_La 12 zy_Mo_init, Cond.instanceMethod zy_Mo_init, Cond.code zy_Mo_init zb_Mo_init 1 none]
def zW4_10 : List Cond := [Cond.methodLink zr_Mo 1 ⟨"java/lang/Object", "<init>", "()V"⟩, Cond.fieldLink zr_Mo 7 "EncounterLedgerModel" "wall" "[I", Cond.fieldLink zr_Mo 13 "EncounterLedgerModel" "side" "[I", Cond.fieldLink zr_Mo 16 "EncounterLedgerModel" "cell" "[I", Cond.fieldLink zr_Mo 19 "EncounterLedgerModel" "most" "[I", Cond.fieldLink zr_Mo 22 "EncounterLedgerModel" "life" "[I", Cond.fieldLink zr_Mo 25 "EncounterLedgerModel" "bonus" "[I", Cond.fieldLink zr_Mo 28 "EncounterLedgerModel" "speed" "[I", Cond.fieldLink zr_Mo 31 "EncounterLedgerModel" "score" "[I", Cond.fieldLink zr_Mo 34 "EncounterLedgerModel" "amount" "[I", Cond.fieldLink zr_Mo 37 "EncounterLedgerModel" "greatest" "[I", Cond.fieldLink zr_Mo 40 "EncounterLedgerModel" "order" "[I", Cond.fieldLink zr_Mo 81 "EncounterLedgerModel" "fighters" "I", Cond.fieldLink zr_Mo 43 "EncounterLedgerModel" "lastReason" "I", Cond.fieldLink zr_Mo 47 "EncounterLedgerModel" "journal" "[I", Cond.fieldLink zr_Mo 92 "EncounterLedgerModel" "entries" "I"]
def zW4_11 : List Cond := [Cond.fieldLink zr_Mo 50 "EncounterLedgerModel" "condition" "[I", Cond.fieldLink zr_Mo 95 "EncounterLedgerModel" "conditions" "I", Cond.fieldLink zr_Mo 120 "EncounterLedgerModel" "harmed" "I", Cond.fieldLink zr_Mo 123 "EncounterLedgerModel" "mended" "I", Cond.fieldLink zr_Mo 181 "EncounterLedgerModel" "isOn" "I", Cond.fieldLink zr_Mo 126 "EncounterLedgerModel" "now" "I", Cond.fieldLink zr_Mo 133 "EncounterLedgerModel" "orderMany" "I", Cond.fieldLink zr_Mo 149 "EncounterLedgerModel" "round" "I", Cond.fieldLink zr_Mo 140 "EncounterLedgerModel" "made" "I", Cond.fieldLink zr_Mo 143 "EncounterLedgerModel" "acted" "I", Cond.fieldLink zr_Mo 129 "EncounterLedgerModel" "z" "I", Cond.fieldLink zr_Mo 191 "EncounterLedgerModel" "begun" "I", Cond.fieldLink zr_Mo 146 "EncounterLedgerModel" "turns" "I", Cond.fieldLink zr_Mo 218 "EncounterLedgerModel" "deeds" "I", Cond.fieldLink zr_Mo 280 "EncounterLedgerModel" "rests" "I", Cond.fieldLink zr_Mo 53 "EncounterLedgerModel" "poisoner" "[I"]
def zW4_12 : List Cond := [Cond.fieldLink zr_Mo 56 "EncounterLedgerModel" "steps" "[I", Cond.fieldLink zr_Mo 59 "EncounterLedgerModel" "queue" "[I", Cond.fieldLink zr_Mo 62 "EncounterLedgerModel" "power" "[I", Cond.fieldLink zr_Mo 65 "EncounterLedgerModel" "tape" "[I", Cond.fieldLink zr_Mo 68 "EncounterLedgerModel" "read" "[I", Cond.fieldLink zr_Mo 224 "EncounterLedgerModel" "length" "I", Cond.fieldLink zr_Mo 231 "EncounterLedgerModel" "at" "I", Cond.fieldLink zr_Mo 253 "EncounterLedgerModel" "powersRead" "I", Cond.fieldLink zr_Mo 71 "EncounterLedgerModel" "within" "[Z", Cond.fieldLink zr_Mo 75 "EncounterLedgerModel" "earlier" "[I", Cond.fieldLink zr_Mo 78 "EncounterLedgerModel" "saved" "[I", Cond.fieldLink zr_Mo 317 "EncounterLedgerModel" "changes" "I", Cond.fieldLink zr_Mo 302 "EncounterLedgerModel" "cursor" "I", Cond.fieldLink zr_Mo 324 "EncounterLedgerModel" "isSaved" "Z", Cond.fieldLink zr_Mo 298 "EncounterLedgerModel" "isKeeping" "Z", Cond.laysFinal "EncounterLedgerModel" "EncounterLedgerModel" "wall" "[I"]
def zW4_13 : List Cond := [Cond.soleField "EncounterLedgerModel" "wall", Cond.laysFinal "EncounterLedgerModel" "EncounterLedgerModel" "side" "[I", Cond.soleField "EncounterLedgerModel" "side", Cond.laysFinal "EncounterLedgerModel" "EncounterLedgerModel" "cell" "[I", Cond.soleField "EncounterLedgerModel" "cell", Cond.laysFinal "EncounterLedgerModel" "EncounterLedgerModel" "most" "[I", Cond.soleField "EncounterLedgerModel" "most", Cond.laysFinal "EncounterLedgerModel" "EncounterLedgerModel" "life" "[I", Cond.soleField "EncounterLedgerModel" "life", Cond.laysFinal "EncounterLedgerModel" "EncounterLedgerModel" "bonus" "[I", Cond.soleField "EncounterLedgerModel" "bonus", Cond.laysFinal "EncounterLedgerModel" "EncounterLedgerModel" "speed" "[I", Cond.soleField "EncounterLedgerModel" "speed", Cond.laysFinal "EncounterLedgerModel" "EncounterLedgerModel" "score" "[I", Cond.soleField "EncounterLedgerModel" "score", Cond.laysFinal "EncounterLedgerModel" "EncounterLedgerModel" "amount" "[I"]
def zW4_14 : List Cond := [Cond.soleField "EncounterLedgerModel" "amount", Cond.laysFinal "EncounterLedgerModel" "EncounterLedgerModel" "greatest" "[I", Cond.soleField "EncounterLedgerModel" "greatest", Cond.laysFinal "EncounterLedgerModel" "EncounterLedgerModel" "order" "[I", Cond.soleField "EncounterLedgerModel" "order", Cond.lays "EncounterLedgerModel" "EncounterLedgerModel" "fighters" "I", Cond.soleField "EncounterLedgerModel" "fighters", Cond.lays "EncounterLedgerModel" "EncounterLedgerModel" "lastReason" "I", Cond.soleField "EncounterLedgerModel" "lastReason", Cond.laysFinal "EncounterLedgerModel" "EncounterLedgerModel" "journal" "[I", Cond.soleField "EncounterLedgerModel" "journal", Cond.lays "EncounterLedgerModel" "EncounterLedgerModel" "entries" "I", Cond.soleField "EncounterLedgerModel" "entries", Cond.laysFinal "EncounterLedgerModel" "EncounterLedgerModel" "condition" "[I", Cond.soleField "EncounterLedgerModel" "condition", Cond.lays "EncounterLedgerModel" "EncounterLedgerModel" "conditions" "I"]
set_option maxRecDepth 100000 in
theorem zE4 : tables_1_4 = zW4_0 ++ (zW4_1 ++ (zW4_2 ++ (zW4_3 ++ (zW4_4 ++ (zW4_5 ++ (zW4_6 ++ (zW4_7 ++ (zW4_8 ++ (zW4_9 ++ (zW4_10 ++ (zW4_11 ++ (zW4_12 ++ (zW4_13 ++ (zW4_14)))))))))))))) := rfl
theorem zF4 : ∀ w ∈ zW4_0 ++ (zW4_1 ++ (zW4_2 ++ (zW4_3 ++ (zW4_4 ++ (zW4_5 ++ (zW4_6 ++ (zW4_7 ++ (zW4_8 ++ (zW4_9 ++ (zW4_10 ++ (zW4_11 ++ (zW4_12 ++ (zW4_13 ++ (zW4_14)))))))))))))), w ∈ lw_tbl := zE4 ▸ zT_4
theorem zV4_0 : ∀ w ∈ zW4_0, w ∈ lw_tbl := zM_l (zF4)
theorem zV4_1 : ∀ w ∈ zW4_1, w ∈ lw_tbl := zM_l (zM_r (zF4))
theorem zV4_2 : ∀ w ∈ zW4_2, w ∈ lw_tbl := zM_l (zM_r (zM_r (zF4)))
theorem zV4_3 : ∀ w ∈ zW4_3, w ∈ lw_tbl := zM_l (zM_r (zM_r (zM_r (zF4))))
theorem zV4_4 : ∀ w ∈ zW4_4, w ∈ lw_tbl := zM_l (zM_r (zM_r (zM_r (zM_r (zF4)))))
theorem zV4_5 : ∀ w ∈ zW4_5, w ∈ lw_tbl := zM_l (zM_r (zM_r (zM_r (zM_r (zM_r (zF4))))))
theorem zV4_6 : ∀ w ∈ zW4_6, w ∈ lw_tbl := zM_l (zM_r (zM_r (zM_r (zM_r (zM_r (zM_r (zF4)))))))
theorem zV4_7 : ∀ w ∈ zW4_7, w ∈ lw_tbl := zM_l (zM_r (zM_r (zM_r (zM_r (zM_r (zM_r (zM_r (zF4))))))))
theorem zV4_8 : ∀ w ∈ zW4_8, w ∈ lw_tbl := zM_l (zM_r (zM_r (zM_r (zM_r (zM_r (zM_r (zM_r (zM_r (zF4)))))))))
theorem zV4_9 : ∀ w ∈ zW4_9, w ∈ lw_tbl := zM_l (zM_r (zM_r (zM_r (zM_r (zM_r (zM_r (zM_r (zM_r (zM_r (zF4))))))))))
theorem zV4_10 : ∀ w ∈ zW4_10, w ∈ lw_tbl := zM_l (zM_r (zM_r (zM_r (zM_r (zM_r (zM_r (zM_r (zM_r (zM_r (zM_r (zF4)))))))))))
theorem zV4_11 : ∀ w ∈ zW4_11, w ∈ lw_tbl := zM_l (zM_r (zM_r (zM_r (zM_r (zM_r (zM_r (zM_r (zM_r (zM_r (zM_r (zM_r (zF4))))))))))))
theorem zV4_12 : ∀ w ∈ zW4_12, w ∈ lw_tbl := zM_l (zM_r (zM_r (zM_r (zM_r (zM_r (zM_r (zM_r (zM_r (zM_r (zM_r (zM_r (zM_r (zF4)))))))))))))
theorem zV4_13 : ∀ w ∈ zW4_13, w ∈ lw_tbl := zM_l (zM_r (zM_r (zM_r (zM_r (zM_r (zM_r (zM_r (zM_r (zM_r (zM_r (zM_r (zM_r (zM_r (zF4))))))))))))))
theorem zV4_14 : ∀ w ∈ zW4_14, w ∈ lw_tbl := zM_r (zM_r (zM_r (zM_r (zM_r (zM_r (zM_r (zM_r (zM_r (zM_r (zM_r (zM_r (zM_r (zM_r (zF4))))))))))))))
def zW5_0 : List Cond := [Cond.soleField "EncounterLedgerModel" "conditions", Cond.lays "EncounterLedgerModel" "EncounterLedgerModel" "harmed" "I", Cond.soleField "EncounterLedgerModel" "harmed", Cond.lays "EncounterLedgerModel" "EncounterLedgerModel" "mended" "I", Cond.soleField "EncounterLedgerModel" "mended", Cond.lays "EncounterLedgerModel" "EncounterLedgerModel" "isOn" "I", Cond.soleField "EncounterLedgerModel" "isOn", Cond.lays "EncounterLedgerModel" "EncounterLedgerModel" "now" "I", Cond.soleField "EncounterLedgerModel" "now", Cond.lays "EncounterLedgerModel" "EncounterLedgerModel" "orderMany" "I", Cond.soleField "EncounterLedgerModel" "orderMany", Cond.lays "EncounterLedgerModel" "EncounterLedgerModel" "round" "I", Cond.soleField "EncounterLedgerModel" "round", Cond.lays "EncounterLedgerModel" "EncounterLedgerModel" "made" "I", Cond.soleField "EncounterLedgerModel" "made", Cond.lays "EncounterLedgerModel" "EncounterLedgerModel" "acted" "I"]
def zW5_1 : List Cond := [Cond.soleField "EncounterLedgerModel" "acted", Cond.lays "EncounterLedgerModel" "EncounterLedgerModel" "z" "I", Cond.soleField "EncounterLedgerModel" "z", Cond.lays "EncounterLedgerModel" "EncounterLedgerModel" "begun" "I", Cond.soleField "EncounterLedgerModel" "begun", Cond.lays "EncounterLedgerModel" "EncounterLedgerModel" "turns" "I", Cond.soleField "EncounterLedgerModel" "turns", Cond.lays "EncounterLedgerModel" "EncounterLedgerModel" "deeds" "I", Cond.soleField "EncounterLedgerModel" "deeds", Cond.lays "EncounterLedgerModel" "EncounterLedgerModel" "rests" "I", Cond.soleField "EncounterLedgerModel" "rests", Cond.laysFinal "EncounterLedgerModel" "EncounterLedgerModel" "poisoner" "[I", Cond.soleField "EncounterLedgerModel" "poisoner", Cond.laysFinal "EncounterLedgerModel" "EncounterLedgerModel" "steps" "[I", Cond.soleField "EncounterLedgerModel" "steps", Cond.laysFinal "EncounterLedgerModel" "EncounterLedgerModel" "queue" "[I"]
def zW5_2 : List Cond := [Cond.soleField "EncounterLedgerModel" "queue", Cond.laysFinal "EncounterLedgerModel" "EncounterLedgerModel" "power" "[I", Cond.soleField "EncounterLedgerModel" "power", Cond.laysFinal "EncounterLedgerModel" "EncounterLedgerModel" "tape" "[I", Cond.soleField "EncounterLedgerModel" "tape", Cond.laysFinal "EncounterLedgerModel" "EncounterLedgerModel" "read" "[I", Cond.soleField "EncounterLedgerModel" "read", Cond.lays "EncounterLedgerModel" "EncounterLedgerModel" "length" "I", Cond.soleField "EncounterLedgerModel" "length", Cond.lays "EncounterLedgerModel" "EncounterLedgerModel" "at" "I", Cond.soleField "EncounterLedgerModel" "at", Cond.lays "EncounterLedgerModel" "EncounterLedgerModel" "powersRead" "I", Cond.soleField "EncounterLedgerModel" "powersRead", Cond.laysFinal "EncounterLedgerModel" "EncounterLedgerModel" "within" "[Z", Cond.soleField "EncounterLedgerModel" "within", Cond.laysFinal "EncounterLedgerModel" "EncounterLedgerModel" "earlier" "[I"]
def zW5_3 : List Cond := [Cond.soleField "EncounterLedgerModel" "earlier", Cond.laysFinal "EncounterLedgerModel" "EncounterLedgerModel" "saved" "[I", Cond.soleField "EncounterLedgerModel" "saved", Cond.lays "EncounterLedgerModel" "EncounterLedgerModel" "changes" "I", Cond.soleField "EncounterLedgerModel" "changes", Cond.lays "EncounterLedgerModel" "EncounterLedgerModel" "cursor" "I", Cond.soleField "EncounterLedgerModel" "cursor", Cond.lays "EncounterLedgerModel" "EncounterLedgerModel" "isSaved" "Z", Cond.soleField "EncounterLedgerModel" "isSaved", Cond.lays "EncounterLedgerModel" "EncounterLedgerModel" "isKeeping" "Z", Cond.soleField "EncounterLedgerModel" "isKeeping", Cond.superclass "EncounterLedgerModel" "java/lang/Object", Cond.arrayClass (Jvm.ClassFile.FieldType.boolean), Cond.methodLink zr_La 17 zy_Mo_add, Cond.instanceMethod zy_Mo_add, Cond.selects zr_Mo zy_Mo_add zy_Mo_add]
def zW5_4 : List Cond := [Cond.code zy_Mo_add zb_Mo_add 8 (some .int), Cond.methodLink zr_Mo 84 zy_Mo_isBetween, Cond.static zy_Mo_isBetween, Cond.code zy_Mo_isBetween zb_Mo_isBetween 3 (some .boolean), Cond.methodLink zr_Mo 166 zy_Mo_isCell, Cond.static zy_Mo_isCell, Cond.code zy_Mo_isCell zb_Mo_isCell 1 (some .boolean), Cond.methodLink zr_Mo 169 zy_Mo_isFree, Cond.privateMethod zy_Mo_isFree, Cond.instanceMethod zy_Mo_isFree, Cond.code zy_Mo_isFree zb_Mo_isFree 2 (some .boolean), Cond.methodLink zr_Mo 88 zy_Mo_fighterOn, Cond.privateMethod zy_Mo_fighterOn, Cond.instanceMethod zy_Mo_fighterOn, Cond.code zy_Mo_fighterOn zb_Mo_fighterOn 3 (some .int), Cond.methodLink zr_Mo 172 zy_Mo_refuses]
def zW5_5 : List Cond := [Cond.privateMethod zy_Mo_refuses, Cond.instanceMethod zy_Mo_refuses, Cond.code zy_Mo_refuses zb_Mo_refuses 2 (some .int), Cond.methodLink zr_Mo 175 zy_Mo_remembers, Cond.privateMethod zy_Mo_remembers, Cond.instanceMethod zy_Mo_remembers, Cond.code zy_Mo_remembers zb_Mo_remembers 2 none, Cond.methodLink zr_Mo 320 zy_Mo_passAll, Cond.privateMethod zy_Mo_passAll, Cond.instanceMethod zy_Mo_passAll, Cond.code zy_Mo_passAll zb_Mo_passAll 4 none, Cond.methodLink zr_Mo 305 zy_Mo_passes, Cond.privateMethod zy_Mo_passes, Cond.instanceMethod zy_Mo_passes, Cond.code zy_Mo_passes zb_Mo_passes 4 none, Cond.methodLink zr_Mo 309 zy_Mo_pass]
def zW5_6 : List Cond := [Cond.privateMethod zy_Mo_pass, Cond.instanceMethod zy_Mo_pass, Cond.code zy_Mo_pass zb_Mo_pass 4 (some .int), Cond.methodLink zr_Mo 313 zy_Mo_passCounts, Cond.privateMethod zy_Mo_passCounts, Cond.instanceMethod zy_Mo_passCounts, Cond.code zy_Mo_passCounts zb_Mo_passCounts 2 none, Cond.methodLink zr_Mo 102 zy_Mo_notes, Cond.privateMethod zy_Mo_notes, Cond.instanceMethod zy_Mo_notes, Cond.code zy_Mo_notes zb_Mo_notes 4 none, Cond.methodLink zr_La 22 zy_Mo_wall, Cond.instanceMethod zy_Mo_wall, Cond.selects zr_Mo zy_Mo_wall zy_Mo_wall, Cond.code zy_Mo_wall zb_Mo_wall 2 (some .int), Cond.methodLink zr_La 27 zy_Mo_amount]
def zW5_7 : List Cond := [Cond.instanceMethod zy_Mo_amount, Cond.selects zr_Mo zy_Mo_amount zy_Mo_amount, Cond.code zy_Mo_amount zb_Mo_amount 5 (some .int), Cond.methodLink zr_Mo 178 zy_Mo_isFighter, Cond.privateMethod zy_Mo_isFighter, Cond.instanceMethod zy_Mo_isFighter, Cond.code zy_Mo_isFighter zb_Mo_isFighter 2 (some .boolean), Cond.methodLink zr_La 31 zy_Mo_begin, Cond.instanceMethod zy_Mo_begin, Cond.selects zr_Mo zy_Mo_begin zy_Mo_begin, Cond.code zy_Mo_begin zb_Mo_begin 4 (some .int), Cond.methodLink zr_Mo 184 zy_Mo_draws, Cond.privateMethod zy_Mo_draws, Cond.instanceMethod zy_Mo_draws, Cond.code zy_Mo_draws zb_Mo_draws 1 (some .int), Cond.constant zr_Mo 132 1103515245]
def zW5_8 : List Cond := [Cond.methodLink zr_Mo 187 zy_Mo_isAhead, Cond.privateMethod zy_Mo_isAhead, Cond.instanceMethod zy_Mo_isAhead, Cond.code zy_Mo_isAhead zb_Mo_isAhead 3 (some .boolean), Cond.methodLink zr_Mo 163 zy_Mo_beginsTurn, Cond.privateMethod zy_Mo_beginsTurn, Cond.instanceMethod zy_Mo_beginsTurn, Cond.code zy_Mo_beginsTurn zb_Mo_beginsTurn 4 none, Cond.methodLink zr_Mo 136 zy_Mo_current, Cond.privateMethod zy_Mo_current, Cond.instanceMethod zy_Mo_current, Cond.code zy_Mo_current zb_Mo_current 1 (some .int), Cond.methodLink zr_Mo 152 zy_Mo_counts, Cond.privateMethod zy_Mo_counts, Cond.instanceMethod zy_Mo_counts, Cond.code zy_Mo_counts zb_Mo_counts 4 none]
def zW5_9 : List Cond := [Cond.methodLink zr_Mo 98 zy_Mo_partOf, Cond.privateMethod zy_Mo_partOf, Cond.instanceMethod zy_Mo_partOf, Cond.code zy_Mo_partOf zb_Mo_partOf 4 (some .int), Cond.methodLink zr_Mo 117 zy_Mo_endsAt, Cond.privateMethod zy_Mo_endsAt, Cond.instanceMethod zy_Mo_endsAt, Cond.code zy_Mo_endsAt zb_Mo_endsAt 3 (some .int), Cond.methodLink zr_Mo 156 zy_Mo_poisonBy, Cond.privateMethod zy_Mo_poisonBy, Cond.instanceMethod zy_Mo_poisonBy, Cond.code zy_Mo_poisonBy zb_Mo_poisonBy 4 (some .int), Cond.methodLink zr_Mo 159 zy_Mo_harms, Cond.privateMethod zy_Mo_harms, Cond.instanceMethod zy_Mo_harms, Cond.code zy_Mo_harms zb_Mo_harms 6 (some .int)]
def zW5_10 : List Cond := [Cond.methodLink zr_Mo 110 zy_Mo_isDown, Cond.privateMethod zy_Mo_isDown, Cond.instanceMethod zy_Mo_isDown, Cond.code zy_Mo_isDown zb_Mo_isDown 2 (some .boolean), Cond.methodLink zr_Mo 114 zy_Mo_sumOf, Cond.privateMethod zy_Mo_sumOf, Cond.instanceMethod zy_Mo_sumOf, Cond.code zy_Mo_sumOf zb_Mo_sumOf 5 (some .int), Cond.methodLink zr_La 36 zy_Mo_finish, Cond.instanceMethod zy_Mo_finish, Cond.selects zr_Mo zy_Mo_finish zy_Mo_finish, Cond.code zy_Mo_finish zb_Mo_finish 3 (some .int), Cond.methodLink zr_La 40 zy_Mo_endTurn, Cond.instanceMethod zy_Mo_endTurn, Cond.selects zr_Mo zy_Mo_endTurn zy_Mo_endTurn, Cond.code zy_Mo_endTurn zb_Mo_endTurn 2 (some .int)]
def zW5_11 : List Cond := [Cond.methodLink zr_Mo 194 zy_Mo_passesTurn, Cond.privateMethod zy_Mo_passesTurn, Cond.instanceMethod zy_Mo_passesTurn, Cond.code zy_Mo_passesTurn zb_Mo_passesTurn 1 none, Cond.methodLink zr_La 44 zy_Mo_delay, Cond.instanceMethod zy_Mo_delay, Cond.selects zr_Mo zy_Mo_delay zy_Mo_delay, Cond.code zy_Mo_delay zb_Mo_delay 5 (some .int), Cond.methodLink zr_Mo 197 zy_Mo_canAct, Cond.privateMethod zy_Mo_canAct, Cond.instanceMethod zy_Mo_canAct, Cond.code zy_Mo_canAct zb_Mo_canAct 2 (some .boolean), Cond.methodLink zr_Mo 200 zy_Mo_placeOf, Cond.privateMethod zy_Mo_placeOf, Cond.instanceMethod zy_Mo_placeOf, Cond.code zy_Mo_placeOf zb_Mo_placeOf 3 (some .int)]
def zW5_12 : List Cond := [Cond.methodLink zr_La 48 zy_Mo_move, Cond.instanceMethod zy_Mo_move, Cond.selects zr_Mo zy_Mo_move zy_Mo_move, Cond.code zy_Mo_move zb_Mo_move 3 (some .int), Cond.methodLink zr_Mo 209 zy_Mo_findSteps, Cond.privateMethod zy_Mo_findSteps, Cond.instanceMethod zy_Mo_findSteps, Cond.code zy_Mo_findSteps zb_Mo_findSteps 6 none, Cond.methodLink zr_Mo 203 zy_Mo_beside, Cond.static zy_Mo_beside, Cond.code zy_Mo_beside zb_Mo_beside 4 (some .int), Cond.methodLink zr_Mo 206 zy_Mo_isHeld, Cond.privateMethod zy_Mo_isHeld, Cond.instanceMethod zy_Mo_isHeld, Cond.code zy_Mo_isHeld zb_Mo_isHeld 4 (some .boolean), Cond.methodLink zr_Mo 212 zy_Mo_left]
def zW5_13 : List Cond := [Cond.privateMethod zy_Mo_left, Cond.instanceMethod zy_Mo_left, Cond.code zy_Mo_left zb_Mo_left 3 (some .int), Cond.methodLink zr_La 90 zy_Mo_way, Cond.instanceMethod zy_Mo_way, Cond.selects zr_Mo zy_Mo_way zy_Mo_way, Cond.code zy_Mo_way zb_Mo_way 2 (some .int), Cond.methodLink zr_La 52 zy_Mo_strike, Cond.instanceMethod zy_Mo_strike, Cond.selects zr_Mo zy_Mo_strike zy_Mo_strike, Cond.code zy_Mo_strike zb_Mo_strike 3 (some .int), Cond.methodLink zr_Mo 215 zy_Mo_areNeighbors, Cond.privateMethod zy_Mo_areNeighbors, Cond.instanceMethod zy_Mo_areNeighbors, Cond.code zy_Mo_areNeighbors zb_Mo_areNeighbors 4 (some .boolean), Cond.methodLink zr_La 57 zy_Mo_feed]
def zW5_14 : List Cond := [Cond.instanceMethod zy_Mo_feed, Cond.selects zr_Mo zy_Mo_feed zy_Mo_feed, Cond.code zy_Mo_feed zb_Mo_feed 7 (some .int), Cond.methodLink zr_Mo 221 zy_Mo_isByte, Cond.static zy_Mo_isByte, Cond.code zy_Mo_isByte zb_Mo_isByte 1 (some .boolean), Cond.methodLink zr_Mo 227 zy_Mo_comes, Cond.privateMethod zy_Mo_comes, Cond.instanceMethod zy_Mo_comes, Cond.code zy_Mo_comes zb_Mo_comes 3 none, Cond.methodLink zr_La 61 zy_Mo_power, Cond.instanceMethod zy_Mo_power, Cond.selects zr_Mo zy_Mo_power zy_Mo_power, Cond.code zy_Mo_power zb_Mo_power 4 (some .int), Cond.methodLink zr_Mo 250 zy_Mo_takesPower, Cond.privateMethod zy_Mo_takesPower]
set_option maxRecDepth 100000 in
theorem zE5 : tables_1_5 = zW5_0 ++ (zW5_1 ++ (zW5_2 ++ (zW5_3 ++ (zW5_4 ++ (zW5_5 ++ (zW5_6 ++ (zW5_7 ++ (zW5_8 ++ (zW5_9 ++ (zW5_10 ++ (zW5_11 ++ (zW5_12 ++ (zW5_13 ++ (zW5_14)))))))))))))) := rfl
theorem zF5 : ∀ w ∈ zW5_0 ++ (zW5_1 ++ (zW5_2 ++ (zW5_3 ++ (zW5_4 ++ (zW5_5 ++ (zW5_6 ++ (zW5_7 ++ (zW5_8 ++ (zW5_9 ++ (zW5_10 ++ (zW5_11 ++ (zW5_12 ++ (zW5_13 ++ (zW5_14)))))))))))))), w ∈ lw_tbl := zE5 ▸ zT_5
theorem zV5_0 : ∀ w ∈ zW5_0, w ∈ lw_tbl := zM_l (zF5)
theorem zV5_1 : ∀ w ∈ zW5_1, w ∈ lw_tbl := zM_l (zM_r (zF5))
theorem zV5_2 : ∀ w ∈ zW5_2, w ∈ lw_tbl := zM_l (zM_r (zM_r (zF5)))
theorem zV5_3 : ∀ w ∈ zW5_3, w ∈ lw_tbl := zM_l (zM_r (zM_r (zM_r (zF5))))
theorem zV5_4 : ∀ w ∈ zW5_4, w ∈ lw_tbl := zM_l (zM_r (zM_r (zM_r (zM_r (zF5)))))
theorem zV5_5 : ∀ w ∈ zW5_5, w ∈ lw_tbl := zM_l (zM_r (zM_r (zM_r (zM_r (zM_r (zF5))))))
theorem zV5_6 : ∀ w ∈ zW5_6, w ∈ lw_tbl := zM_l (zM_r (zM_r (zM_r (zM_r (zM_r (zM_r (zF5)))))))
theorem zV5_7 : ∀ w ∈ zW5_7, w ∈ lw_tbl := zM_l (zM_r (zM_r (zM_r (zM_r (zM_r (zM_r (zM_r (zF5))))))))
theorem zV5_8 : ∀ w ∈ zW5_8, w ∈ lw_tbl := zM_l (zM_r (zM_r (zM_r (zM_r (zM_r (zM_r (zM_r (zM_r (zF5)))))))))
theorem zV5_9 : ∀ w ∈ zW5_9, w ∈ lw_tbl := zM_l (zM_r (zM_r (zM_r (zM_r (zM_r (zM_r (zM_r (zM_r (zM_r (zF5))))))))))
theorem zV5_10 : ∀ w ∈ zW5_10, w ∈ lw_tbl := zM_l (zM_r (zM_r (zM_r (zM_r (zM_r (zM_r (zM_r (zM_r (zM_r (zM_r (zF5)))))))))))
theorem zV5_11 : ∀ w ∈ zW5_11, w ∈ lw_tbl := zM_l (zM_r (zM_r (zM_r (zM_r (zM_r (zM_r (zM_r (zM_r (zM_r (zM_r (zM_r (zF5))))))))))))
theorem zV5_12 : ∀ w ∈ zW5_12, w ∈ lw_tbl := zM_l (zM_r (zM_r (zM_r (zM_r (zM_r (zM_r (zM_r (zM_r (zM_r (zM_r (zM_r (zM_r (zF5)))))))))))))
theorem zV5_13 : ∀ w ∈ zW5_13, w ∈ lw_tbl := zM_l (zM_r (zM_r (zM_r (zM_r (zM_r (zM_r (zM_r (zM_r (zM_r (zM_r (zM_r (zM_r (zM_r (zF5))))))))))))))
theorem zV5_14 : ∀ w ∈ zW5_14, w ∈ lw_tbl := zM_r (zM_r (zM_r (zM_r (zM_r (zM_r (zM_r (zM_r (zM_r (zM_r (zM_r (zM_r (zM_r (zM_r (zF5))))))))))))))
def zW6_0 : List Cond := [Cond.instanceMethod zy_Mo_takesPower, Cond.code zy_Mo_takesPower zb_Mo_takesPower 2 (some .boolean), Cond.methodLink zr_Mo 240 zy_Mo_shapeOf, Cond.static zy_Mo_shapeOf, Cond.code zy_Mo_shapeOf zb_Mo_shapeOf 1 (some .int), Cond.methodLink zr_Mo 234 zy_Mo_takes, Cond.privateMethod zy_Mo_takes, Cond.instanceMethod zy_Mo_takes, Cond.code zy_Mo_takes zb_Mo_takes 4 (some .boolean), Cond.methodLink zr_Mo 243 zy_Mo_skips, Cond.privateMethod zy_Mo_skips, Cond.instanceMethod zy_Mo_skips, Cond.code zy_Mo_skips zb_Mo_skips 2 (some .boolean), Cond.methodLink zr_Mo 246 zy_Mo_takesEffect, Cond.privateMethod zy_Mo_takesEffect, Cond.instanceMethod zy_Mo_takesEffect]
def zW6_1 : List Cond := [Cond.code zy_Mo_takesEffect zb_Mo_takesEffect 3 (some .boolean), Cond.methodLink zr_Mo 237 zy_Mo_takesNumber, Cond.privateMethod zy_Mo_takesNumber, Cond.instanceMethod zy_Mo_takesNumber, Cond.code zy_Mo_takesNumber zb_Mo_takesNumber 3 (some .boolean), Cond.methodLink zr_La 86 zy_Mo_area, Cond.instanceMethod zy_Mo_area, Cond.selects zr_Mo zy_Mo_area zy_Mo_area, Cond.code zy_Mo_area zb_Mo_area 9 (some .int), Cond.methodLink zr_Mo 263 zy_Mo_findArea, Cond.privateMethod zy_Mo_findArea, Cond.instanceMethod zy_Mo_findArea, Cond.code zy_Mo_findArea zb_Mo_findArea 7 (some .int), Cond.methodLink zr_Mo 256 zy_Mo_isWithin, Cond.static zy_Mo_isWithin, Cond.code zy_Mo_isWithin zb_Mo_isWithin 9 (some .boolean)]
def zW6_2 : List Cond := [Cond.methodLink zr_Mo 260 zy_Mo_distance, Cond.static zy_Mo_distance, Cond.code zy_Mo_distance zb_Mo_distance 2 (some .int), Cond.methodLink zr_La 65 zy_Mo_cast, Cond.instanceMethod zy_Mo_cast, Cond.selects zr_Mo zy_Mo_cast zy_Mo_cast, Cond.code zy_Mo_cast zb_Mo_cast 11 (some .int), Cond.methodLink zr_Mo 274 zy_Mo_inTurn, Cond.privateMethod zy_Mo_inTurn, Cond.instanceMethod zy_Mo_inTurn, Cond.code zy_Mo_inTurn zb_Mo_inTurn 4 (some .int), Cond.methodLink zr_Mo 277 zy_Mo_affects, Cond.privateMethod zy_Mo_affects, Cond.instanceMethod zy_Mo_affects, Cond.code zy_Mo_affects zb_Mo_affects 6 none, Cond.methodLink zr_Mo 267 zy_Mo_mends]
def zW6_3 : List Cond := [Cond.privateMethod zy_Mo_mends, Cond.instanceMethod zy_Mo_mends, Cond.code zy_Mo_mends zb_Mo_mends 4 (some .int), Cond.methodLink zr_Mo 270 zy_Mo_makes, Cond.privateMethod zy_Mo_makes, Cond.instanceMethod zy_Mo_makes, Cond.code zy_Mo_makes zb_Mo_makes 10 none, Cond.methodLink zr_Mo 106 zy_Mo_packed, Cond.static zy_Mo_packed, Cond.code zy_Mo_packed zb_Mo_packed 6 (some .int), Cond.methodLink zr_La 69 zy_Mo_rest, Cond.instanceMethod zy_Mo_rest, Cond.selects zr_Mo zy_Mo_rest zy_Mo_rest, Cond.code zy_Mo_rest zb_Mo_rest 5 (some .int), Cond.methodLink zr_Mo 283 zy_Mo_refills, Cond.privateMethod zy_Mo_refills]
def zW6_4 : List Cond := [Cond.instanceMethod zy_Mo_refills, Cond.code zy_Mo_refills zb_Mo_refills 5 none, Cond.methodLink zr_La 74 zy_Mo_fighter, Cond.instanceMethod zy_Mo_fighter, Cond.selects zr_Mo zy_Mo_fighter zy_Mo_fighter, Cond.code zy_Mo_fighter zb_Mo_fighter 3 (some .int), Cond.methodLink zr_Mo 286 zy_Mo_fighterMore, Cond.privateMethod zy_Mo_fighterMore, Cond.instanceMethod zy_Mo_fighterMore, Cond.code zy_Mo_fighterMore zb_Mo_fighterMore 5 (some .int), Cond.methodLink zr_La 78 zy_Mo_turn, Cond.instanceMethod zy_Mo_turn, Cond.selects zr_Mo zy_Mo_turn zy_Mo_turn, Cond.code zy_Mo_turn zb_Mo_turn 2 (some .int), Cond.methodLink zr_La 82 zy_Mo_condition, Cond.instanceMethod zy_Mo_condition]
def zW6_5 : List Cond := [Cond.selects zr_Mo zy_Mo_condition zy_Mo_condition, Cond.code zy_Mo_condition zb_Mo_condition 3 (some .int), Cond.methodLink zr_La 94 zy_Mo_entry, Cond.instanceMethod zy_Mo_entry, Cond.selects zr_Mo zy_Mo_entry zy_Mo_entry, Cond.code zy_Mo_entry zb_Mo_entry 4 (some .int), Cond.methodLink zr_Mo 289 zy_Mo_entryPart, Cond.privateMethod zy_Mo_entryPart, Cond.instanceMethod zy_Mo_entryPart, Cond.code zy_Mo_entryPart zb_Mo_entryPart 3 (some .int), Cond.methodLink zr_La 98 zy_Mo_replayed, Cond.instanceMethod zy_Mo_replayed, Cond.selects zr_Mo zy_Mo_replayed zy_Mo_replayed, Cond.code zy_Mo_replayed zb_Mo_replayed 5 (some .int), Cond.methodLink zr_Mo 292 zy_Mo_replays, Cond.static zy_Mo_replays]
def zW6_6 : List Cond := [Cond.code zy_Mo_replays zb_Mo_replays 4 (some .int), Cond.methodLink zr_La 102 zy_Mo_reason, Cond.instanceMethod zy_Mo_reason, Cond.selects zr_Mo zy_Mo_reason zy_Mo_reason, Cond.code zy_Mo_reason zb_Mo_reason 1 (some .int), Cond.methodLink zr_La 106 zy_Mo_account, Cond.instanceMethod zy_Mo_account, Cond.selects zr_Mo zy_Mo_account zy_Mo_account, Cond.code zy_Mo_account zb_Mo_account 4 (some .int), Cond.methodLink zr_Mo 295 zy_Mo_livesOf, Cond.privateMethod zy_Mo_livesOf, Cond.instanceMethod zy_Mo_livesOf, Cond.code zy_Mo_livesOf zb_Mo_livesOf 4 (some .int), Cond.methodLink zr_La 110 zy_Mo_back, Cond.instanceMethod zy_Mo_back, Cond.selects zr_Mo zy_Mo_back zy_Mo_back]
def zW6_7 : List Cond := [Cond.code zy_Mo_back zb_Mo_back 1 (some .int), Cond.methodLink zr_La 114 zy_Mo_image, Cond.instanceMethod zy_Mo_image, Cond.selects zr_Mo zy_Mo_image zy_Mo_image, Cond.code zy_Mo_image zb_Mo_image 1 (some .int), Cond.methodLink zr_La 118 zy_Mo_undo, Cond.instanceMethod zy_Mo_undo, Cond.selects zr_Mo zy_Mo_undo zy_Mo_undo, Cond.code zy_Mo_undo zb_Mo_undo 1 (some .int), Cond.methodLink zr_La 122 zy_Mo_count, Cond.instanceMethod zy_Mo_count, Cond.selects zr_Mo zy_Mo_count zy_Mo_count, Cond.code zy_Mo_count zb_Mo_count 2 (some .int)]
set_option maxRecDepth 100000 in
theorem zE6 : tables_1_6 = zW6_0 ++ (zW6_1 ++ (zW6_2 ++ (zW6_3 ++ (zW6_4 ++ (zW6_5 ++ (zW6_6 ++ (zW6_7))))))) := rfl
theorem zF6 : ∀ w ∈ zW6_0 ++ (zW6_1 ++ (zW6_2 ++ (zW6_3 ++ (zW6_4 ++ (zW6_5 ++ (zW6_6 ++ (zW6_7))))))), w ∈ lw_tbl := zE6 ▸ zT_6
theorem zV6_0 : ∀ w ∈ zW6_0, w ∈ lw_tbl := zM_l (zF6)
theorem zV6_1 : ∀ w ∈ zW6_1, w ∈ lw_tbl := zM_l (zM_r (zF6))
theorem zV6_2 : ∀ w ∈ zW6_2, w ∈ lw_tbl := zM_l (zM_r (zM_r (zF6)))
theorem zV6_3 : ∀ w ∈ zW6_3, w ∈ lw_tbl := zM_l (zM_r (zM_r (zM_r (zF6))))
theorem zV6_4 : ∀ w ∈ zW6_4, w ∈ lw_tbl := zM_l (zM_r (zM_r (zM_r (zM_r (zF6)))))
theorem zV6_5 : ∀ w ∈ zW6_5, w ∈ lw_tbl := zM_l (zM_r (zM_r (zM_r (zM_r (zM_r (zF6))))))
theorem zV6_6 : ∀ w ∈ zW6_6, w ∈ lw_tbl := zM_l (zM_r (zM_r (zM_r (zM_r (zM_r (zM_r (zF6)))))))
theorem zV6_7 : ∀ w ∈ zW6_7, w ∈ lw_tbl := zM_r (zM_r (zM_r (zM_r (zM_r (zM_r (zM_r (zF6)))))))
theorem zl_Ch_0 : u_lay zr_Ch zf_Ch 0 ∈ zB := zm (i := 7) zV1_12 rfl rfl
theorem zl_Ch_1 : u_lay zr_Ch zf_Ch 1 ∈ zB := zm (i := 9) zV1_12 rfl rfl
theorem zl_Ch_2 : u_lay zr_Ch zf_Ch 2 ∈ zB := zm (i := 11) zV1_12 rfl rfl
theorem zi_Ch : ∀ w ∈ u_ws zr_Ch zf_Ch 3, w ∈ zB := show ∀ w ∈ [u_lay zr_Ch zf_Ch 0, u_lay zr_Ch zf_Ch 1, u_lay zr_Ch zf_Ch 2], w ∈ zB from List.forall_mem_cons.mpr ⟨zl_Ch_0, List.forall_mem_cons.mpr ⟨zl_Ch_1, List.forall_mem_cons.mpr ⟨zl_Ch_2, fun _ h => absurd h List.not_mem_nil⟩⟩⟩
theorem zl_Co_0 : u_lay zr_Co zf_Co 0 ∈ zB := zm (i := 10) zV1_4 rfl rfl
theorem zl_Co_1 : u_lay zr_Co zf_Co 1 ∈ zB := zm (i := 12) zV1_4 rfl rfl
theorem zl_Co_2 : u_lay zr_Co zf_Co 2 ∈ zB := zm (i := 14) zV1_4 rfl rfl
theorem zi_Co : ∀ w ∈ u_ws zr_Co zf_Co 3, w ∈ zB := show ∀ w ∈ [u_lay zr_Co zf_Co 0, u_lay zr_Co zf_Co 1, u_lay zr_Co zf_Co 2], w ∈ zB from List.forall_mem_cons.mpr ⟨zl_Co_0, List.forall_mem_cons.mpr ⟨zl_Co_1, List.forall_mem_cons.mpr ⟨zl_Co_2, fun _ h => absurd h List.not_mem_nil⟩⟩⟩
theorem zl_En_0 : u_lay zr_En zf_En 0 ∈ zB := zm (i := 4) zV1_8 rfl rfl
theorem zl_En_1 : u_lay zr_En zf_En 1 ∈ zB := zm (i := 6) zV1_8 rfl rfl
theorem zl_En_2 : u_lay zr_En zf_En 2 ∈ zB := zm (i := 8) zV1_8 rfl rfl
theorem zl_En_3 : u_lay zr_En zf_En 3 ∈ zB := zm (i := 10) zV1_8 rfl rfl
theorem zl_En_4 : u_lay zr_En zf_En 4 ∈ zB := zm (i := 12) zV1_8 rfl rfl
theorem zl_En_5 : u_lay zr_En zf_En 5 ∈ zB := zm (i := 14) zV1_8 rfl rfl
theorem zl_En_6 : u_lay zr_En zf_En 6 ∈ zB := zm (i := 0) zV1_9 rfl rfl
theorem zl_En_7 : u_lay zr_En zf_En 7 ∈ zB := zm (i := 2) zV1_9 rfl rfl
theorem zl_En_8 : u_lay zr_En zf_En 8 ∈ zB := zm (i := 4) zV1_9 rfl rfl
theorem zl_En_9 : u_lay zr_En zf_En 9 ∈ zB := zm (i := 6) zV1_9 rfl rfl
theorem zl_En_10 : u_lay zr_En zf_En 10 ∈ zB := zm (i := 8) zV1_9 rfl rfl
theorem zi_En : ∀ w ∈ u_ws zr_En zf_En 11, w ∈ zB := show ∀ w ∈ [u_lay zr_En zf_En 0, u_lay zr_En zf_En 1, u_lay zr_En zf_En 2, u_lay zr_En zf_En 3, u_lay zr_En zf_En 4, u_lay zr_En zf_En 5, u_lay zr_En zf_En 6, u_lay zr_En zf_En 7, u_lay zr_En zf_En 8, u_lay zr_En zf_En 9, u_lay zr_En zf_En 10], w ∈ zB from List.forall_mem_cons.mpr ⟨zl_En_0, List.forall_mem_cons.mpr ⟨zl_En_1, List.forall_mem_cons.mpr ⟨zl_En_2, List.forall_mem_cons.mpr ⟨zl_En_3, List.forall_mem_cons.mpr ⟨zl_En_4, List.forall_mem_cons.mpr ⟨zl_En_5, List.forall_mem_cons.mpr ⟨zl_En_6, List.forall_mem_cons.mpr ⟨zl_En_7, List.forall_mem_cons.mpr ⟨zl_En_8, List.forall_mem_cons.mpr ⟨zl_En_9, List.forall_mem_cons.mpr ⟨zl_En_10, fun _ h => absurd h List.not_mem_nil⟩⟩⟩⟩⟩⟩⟩⟩⟩⟩⟩
theorem zl_Fi_0 : u_lay zr_Fi zf_Fi 0 ∈ zB := zm (i := 0) zV1_6 rfl rfl
theorem zl_Fi_1 : u_lay zr_Fi zf_Fi 1 ∈ zB := zm (i := 2) zV1_6 rfl rfl
theorem zl_Fi_2 : u_lay zr_Fi zf_Fi 2 ∈ zB := zm (i := 4) zV1_6 rfl rfl
theorem zl_Fi_3 : u_lay zr_Fi zf_Fi 3 ∈ zB := zm (i := 6) zV1_6 rfl rfl
theorem zl_Fi_4 : u_lay zr_Fi zf_Fi 4 ∈ zB := zm (i := 8) zV1_6 rfl rfl
theorem zi_Fi : ∀ w ∈ u_ws zr_Fi zf_Fi 5, w ∈ zB := show ∀ w ∈ [u_lay zr_Fi zf_Fi 0, u_lay zr_Fi zf_Fi 1, u_lay zr_Fi zf_Fi 2, u_lay zr_Fi zf_Fi 3, u_lay zr_Fi zf_Fi 4], w ∈ zB from List.forall_mem_cons.mpr ⟨zl_Fi_0, List.forall_mem_cons.mpr ⟨zl_Fi_1, List.forall_mem_cons.mpr ⟨zl_Fi_2, List.forall_mem_cons.mpr ⟨zl_Fi_3, List.forall_mem_cons.mpr ⟨zl_Fi_4, fun _ h => absurd h List.not_mem_nil⟩⟩⟩⟩⟩
theorem zl_Jo_0 : u_lay zr_Jo zf_Jo 0 ∈ zB := zm (i := 10) zV1_3 rfl rfl
theorem zl_Jo_1 : u_lay zr_Jo zf_Jo 1 ∈ zB := zm (i := 12) zV1_3 rfl rfl
theorem zi_Jo : ∀ w ∈ u_ws zr_Jo zf_Jo 2, w ∈ zB := show ∀ w ∈ [u_lay zr_Jo zf_Jo 0, u_lay zr_Jo zf_Jo 1], w ∈ zB from List.forall_mem_cons.mpr ⟨zl_Jo_0, List.forall_mem_cons.mpr ⟨zl_Jo_1, fun _ h => absurd h List.not_mem_nil⟩⟩
theorem zl_St_0 : u_lay zr_St zf_St 0 ∈ zB := zm (i := 11) zV1_10 rfl rfl
theorem zl_St_1 : u_lay zr_St zf_St 1 ∈ zB := zm (i := 13) zV1_10 rfl rfl
theorem zl_St_2 : u_lay zr_St zf_St 2 ∈ zB := zm (i := 15) zV1_10 rfl rfl
theorem zl_St_3 : u_lay zr_St zf_St 3 ∈ zB := zm (i := 1) zV1_11 rfl rfl
theorem zl_St_4 : u_lay zr_St zf_St 4 ∈ zB := zm (i := 3) zV1_11 rfl rfl
theorem zl_St_5 : u_lay zr_St zf_St 5 ∈ zB := zm (i := 5) zV1_11 rfl rfl
theorem zl_St_6 : u_lay zr_St zf_St 6 ∈ zB := zm (i := 7) zV1_11 rfl rfl
theorem zi_St : ∀ w ∈ u_ws zr_St zf_St 7, w ∈ zB := show ∀ w ∈ [u_lay zr_St zf_St 0, u_lay zr_St zf_St 1, u_lay zr_St zf_St 2, u_lay zr_St zf_St 3, u_lay zr_St zf_St 4, u_lay zr_St zf_St 5, u_lay zr_St zf_St 6], w ∈ zB from List.forall_mem_cons.mpr ⟨zl_St_0, List.forall_mem_cons.mpr ⟨zl_St_1, List.forall_mem_cons.mpr ⟨zl_St_2, List.forall_mem_cons.mpr ⟨zl_St_3, List.forall_mem_cons.mpr ⟨zl_St_4, List.forall_mem_cons.mpr ⟨zl_St_5, List.forall_mem_cons.mpr ⟨zl_St_6, fun _ h => absurd h List.not_mem_nil⟩⟩⟩⟩⟩⟩⟩
theorem zl_Ta_0 : u_lay zr_Ta zf_Ta 0 ∈ zB := zm (i := 9) zV1_2 rfl rfl
theorem zl_Ta_1 : u_lay zr_Ta zf_Ta 1 ∈ zB := zm (i := 11) zV1_2 rfl rfl
theorem zl_Ta_2 : u_lay zr_Ta zf_Ta 2 ∈ zB := zm (i := 13) zV1_2 rfl rfl
theorem zi_Ta : ∀ w ∈ u_ws zr_Ta zf_Ta 3, w ∈ zB := show ∀ w ∈ [u_lay zr_Ta zf_Ta 0, u_lay zr_Ta zf_Ta 1, u_lay zr_Ta zf_Ta 2], w ∈ zB from List.forall_mem_cons.mpr ⟨zl_Ta_0, List.forall_mem_cons.mpr ⟨zl_Ta_1, List.forall_mem_cons.mpr ⟨zl_Ta_2, fun _ h => absurd h List.not_mem_nil⟩⟩⟩
theorem zl_Tp_0 : u_lay zr_Tp zf_Tp 0 ∈ zB := zm (i := 10) zV1_13 rfl rfl
theorem zl_Tp_1 : u_lay zr_Tp zf_Tp 1 ∈ zB := zm (i := 12) zV1_13 rfl rfl
theorem zl_Tp_2 : u_lay zr_Tp zf_Tp 2 ∈ zB := zm (i := 14) zV1_13 rfl rfl
theorem zl_Tp_3 : u_lay zr_Tp zf_Tp 3 ∈ zB := zm (i := 0) zV1_14 rfl rfl
theorem zi_Tp : ∀ w ∈ u_ws zr_Tp zf_Tp 4, w ∈ zB := show ∀ w ∈ [u_lay zr_Tp zf_Tp 0, u_lay zr_Tp zf_Tp 1, u_lay zr_Tp zf_Tp 2, u_lay zr_Tp zf_Tp 3], w ∈ zB from List.forall_mem_cons.mpr ⟨zl_Tp_0, List.forall_mem_cons.mpr ⟨zl_Tp_1, List.forall_mem_cons.mpr ⟨zl_Tp_2, List.forall_mem_cons.mpr ⟨zl_Tp_3, fun _ h => absurd h List.not_mem_nil⟩⟩⟩⟩
theorem zl_Wa_0 : u_lay zr_Wa zf_Wa 0 ∈ zB := zm (i := 12) zV1_14 rfl rfl
theorem zl_Wa_1 : u_lay zr_Wa zf_Wa 1 ∈ zB := zm (i := 14) zV1_14 rfl rfl
theorem zl_Wa_2 : u_lay zr_Wa zf_Wa 2 ∈ zB := zm (i := 0) zV2_0 rfl rfl
theorem zi_Wa : ∀ w ∈ u_ws zr_Wa zf_Wa 3, w ∈ zB := show ∀ w ∈ [u_lay zr_Wa zf_Wa 0, u_lay zr_Wa zf_Wa 1, u_lay zr_Wa zf_Wa 2], w ∈ zB from List.forall_mem_cons.mpr ⟨zl_Wa_0, List.forall_mem_cons.mpr ⟨zl_Wa_1, List.forall_mem_cons.mpr ⟨zl_Wa_2, fun _ h => absurd h List.not_mem_nil⟩⟩⟩
theorem zl_EL_0 : u_lay zr_EL zf_EL 0 ∈ zB := zm (i := 10) zV2_0 rfl rfl
theorem zl_EL_1 : u_lay zr_EL zf_EL 1 ∈ zB := zm (i := 12) zV2_0 rfl rfl
theorem zl_EL_2 : u_lay zr_EL zf_EL 2 ∈ zB := zm (i := 14) zV2_0 rfl rfl
theorem zl_EL_3 : u_lay zr_EL zf_EL 3 ∈ zB := zm (i := 0) zV2_1 rfl rfl
theorem zl_EL_4 : u_lay zr_EL zf_EL 4 ∈ zB := zm (i := 2) zV2_1 rfl rfl
theorem zl_EL_5 : u_lay zr_EL zf_EL 5 ∈ zB := zm (i := 4) zV2_1 rfl rfl
theorem zl_EL_6 : u_lay zr_EL zf_EL 6 ∈ zB := zm (i := 6) zV2_1 rfl rfl
theorem zi_EL : ∀ w ∈ u_ws zr_EL zf_EL 7, w ∈ zB := show ∀ w ∈ [u_lay zr_EL zf_EL 0, u_lay zr_EL zf_EL 1, u_lay zr_EL zf_EL 2, u_lay zr_EL zf_EL 3, u_lay zr_EL zf_EL 4, u_lay zr_EL zf_EL 5, u_lay zr_EL zf_EL 6], w ∈ zB from List.forall_mem_cons.mpr ⟨zl_EL_0, List.forall_mem_cons.mpr ⟨zl_EL_1, List.forall_mem_cons.mpr ⟨zl_EL_2, List.forall_mem_cons.mpr ⟨zl_EL_3, List.forall_mem_cons.mpr ⟨zl_EL_4, List.forall_mem_cons.mpr ⟨zl_EL_5, List.forall_mem_cons.mpr ⟨zl_EL_6, fun _ h => absurd h List.not_mem_nil⟩⟩⟩⟩⟩⟩⟩
theorem zl_Mo_0 : u_lay zr_Mo zf_Mo 0 ∈ zB := zm (i := 15) zV4_12 rfl rfl
theorem zl_Mo_1 : u_lay zr_Mo zf_Mo 1 ∈ zB := zm (i := 1) zV4_13 rfl rfl
theorem zl_Mo_2 : u_lay zr_Mo zf_Mo 2 ∈ zB := zm (i := 3) zV4_13 rfl rfl
theorem zl_Mo_3 : u_lay zr_Mo zf_Mo 3 ∈ zB := zm (i := 5) zV4_13 rfl rfl
theorem zl_Mo_4 : u_lay zr_Mo zf_Mo 4 ∈ zB := zm (i := 7) zV4_13 rfl rfl
theorem zl_Mo_5 : u_lay zr_Mo zf_Mo 5 ∈ zB := zm (i := 9) zV4_13 rfl rfl
theorem zl_Mo_6 : u_lay zr_Mo zf_Mo 6 ∈ zB := zm (i := 11) zV4_13 rfl rfl
theorem zl_Mo_7 : u_lay zr_Mo zf_Mo 7 ∈ zB := zm (i := 13) zV4_13 rfl rfl
theorem zl_Mo_8 : u_lay zr_Mo zf_Mo 8 ∈ zB := zm (i := 15) zV4_13 rfl rfl
theorem zl_Mo_9 : u_lay zr_Mo zf_Mo 9 ∈ zB := zm (i := 1) zV4_14 rfl rfl
theorem zl_Mo_10 : u_lay zr_Mo zf_Mo 10 ∈ zB := zm (i := 3) zV4_14 rfl rfl
theorem zl_Mo_11 : u_lay zr_Mo zf_Mo 11 ∈ zB := zm (i := 5) zV4_14 rfl rfl
theorem zl_Mo_12 : u_lay zr_Mo zf_Mo 12 ∈ zB := zm (i := 7) zV4_14 rfl rfl
theorem zl_Mo_13 : u_lay zr_Mo zf_Mo 13 ∈ zB := zm (i := 9) zV4_14 rfl rfl
theorem zl_Mo_14 : u_lay zr_Mo zf_Mo 14 ∈ zB := zm (i := 11) zV4_14 rfl rfl
theorem zl_Mo_15 : u_lay zr_Mo zf_Mo 15 ∈ zB := zm (i := 13) zV4_14 rfl rfl
theorem zl_Mo_16 : u_lay zr_Mo zf_Mo 16 ∈ zB := zm (i := 15) zV4_14 rfl rfl
theorem zl_Mo_17 : u_lay zr_Mo zf_Mo 17 ∈ zB := zm (i := 1) zV5_0 rfl rfl
theorem zl_Mo_18 : u_lay zr_Mo zf_Mo 18 ∈ zB := zm (i := 3) zV5_0 rfl rfl
theorem zl_Mo_19 : u_lay zr_Mo zf_Mo 19 ∈ zB := zm (i := 5) zV5_0 rfl rfl
theorem zl_Mo_20 : u_lay zr_Mo zf_Mo 20 ∈ zB := zm (i := 7) zV5_0 rfl rfl
theorem zl_Mo_21 : u_lay zr_Mo zf_Mo 21 ∈ zB := zm (i := 9) zV5_0 rfl rfl
theorem zl_Mo_22 : u_lay zr_Mo zf_Mo 22 ∈ zB := zm (i := 11) zV5_0 rfl rfl
theorem zl_Mo_23 : u_lay zr_Mo zf_Mo 23 ∈ zB := zm (i := 13) zV5_0 rfl rfl
theorem zl_Mo_24 : u_lay zr_Mo zf_Mo 24 ∈ zB := zm (i := 15) zV5_0 rfl rfl
theorem zl_Mo_25 : u_lay zr_Mo zf_Mo 25 ∈ zB := zm (i := 1) zV5_1 rfl rfl
theorem zl_Mo_26 : u_lay zr_Mo zf_Mo 26 ∈ zB := zm (i := 3) zV5_1 rfl rfl
theorem zl_Mo_27 : u_lay zr_Mo zf_Mo 27 ∈ zB := zm (i := 5) zV5_1 rfl rfl
theorem zl_Mo_28 : u_lay zr_Mo zf_Mo 28 ∈ zB := zm (i := 7) zV5_1 rfl rfl
theorem zl_Mo_29 : u_lay zr_Mo zf_Mo 29 ∈ zB := zm (i := 9) zV5_1 rfl rfl
theorem zl_Mo_30 : u_lay zr_Mo zf_Mo 30 ∈ zB := zm (i := 11) zV5_1 rfl rfl
theorem zl_Mo_31 : u_lay zr_Mo zf_Mo 31 ∈ zB := zm (i := 13) zV5_1 rfl rfl
theorem zl_Mo_32 : u_lay zr_Mo zf_Mo 32 ∈ zB := zm (i := 15) zV5_1 rfl rfl
theorem zl_Mo_33 : u_lay zr_Mo zf_Mo 33 ∈ zB := zm (i := 1) zV5_2 rfl rfl
theorem zl_Mo_34 : u_lay zr_Mo zf_Mo 34 ∈ zB := zm (i := 3) zV5_2 rfl rfl
theorem zl_Mo_35 : u_lay zr_Mo zf_Mo 35 ∈ zB := zm (i := 5) zV5_2 rfl rfl
theorem zl_Mo_36 : u_lay zr_Mo zf_Mo 36 ∈ zB := zm (i := 7) zV5_2 rfl rfl
theorem zl_Mo_37 : u_lay zr_Mo zf_Mo 37 ∈ zB := zm (i := 9) zV5_2 rfl rfl
theorem zl_Mo_38 : u_lay zr_Mo zf_Mo 38 ∈ zB := zm (i := 11) zV5_2 rfl rfl
theorem zl_Mo_39 : u_lay zr_Mo zf_Mo 39 ∈ zB := zm (i := 13) zV5_2 rfl rfl
theorem zl_Mo_40 : u_lay zr_Mo zf_Mo 40 ∈ zB := zm (i := 15) zV5_2 rfl rfl
theorem zl_Mo_41 : u_lay zr_Mo zf_Mo 41 ∈ zB := zm (i := 1) zV5_3 rfl rfl
theorem zl_Mo_42 : u_lay zr_Mo zf_Mo 42 ∈ zB := zm (i := 3) zV5_3 rfl rfl
theorem zl_Mo_43 : u_lay zr_Mo zf_Mo 43 ∈ zB := zm (i := 5) zV5_3 rfl rfl
theorem zl_Mo_44 : u_lay zr_Mo zf_Mo 44 ∈ zB := zm (i := 7) zV5_3 rfl rfl
theorem zl_Mo_45 : u_lay zr_Mo zf_Mo 45 ∈ zB := zm (i := 9) zV5_3 rfl rfl
theorem zi_Mo : ∀ w ∈ u_ws zr_Mo zf_Mo 46, w ∈ zB := show ∀ w ∈ [u_lay zr_Mo zf_Mo 0, u_lay zr_Mo zf_Mo 1, u_lay zr_Mo zf_Mo 2, u_lay zr_Mo zf_Mo 3, u_lay zr_Mo zf_Mo 4, u_lay zr_Mo zf_Mo 5, u_lay zr_Mo zf_Mo 6, u_lay zr_Mo zf_Mo 7, u_lay zr_Mo zf_Mo 8, u_lay zr_Mo zf_Mo 9, u_lay zr_Mo zf_Mo 10, u_lay zr_Mo zf_Mo 11, u_lay zr_Mo zf_Mo 12, u_lay zr_Mo zf_Mo 13, u_lay zr_Mo zf_Mo 14, u_lay zr_Mo zf_Mo 15, u_lay zr_Mo zf_Mo 16, u_lay zr_Mo zf_Mo 17, u_lay zr_Mo zf_Mo 18, u_lay zr_Mo zf_Mo 19, u_lay zr_Mo zf_Mo 20, u_lay zr_Mo zf_Mo 21, u_lay zr_Mo zf_Mo 22, u_lay zr_Mo zf_Mo 23, u_lay zr_Mo zf_Mo 24, u_lay zr_Mo zf_Mo 25, u_lay zr_Mo zf_Mo 26, u_lay zr_Mo zf_Mo 27, u_lay zr_Mo zf_Mo 28, u_lay zr_Mo zf_Mo 29, u_lay zr_Mo zf_Mo 30, u_lay zr_Mo zf_Mo 31, u_lay zr_Mo zf_Mo 32, u_lay zr_Mo zf_Mo 33, u_lay zr_Mo zf_Mo 34, u_lay zr_Mo zf_Mo 35, u_lay zr_Mo zf_Mo 36, u_lay zr_Mo zf_Mo 37, u_lay zr_Mo zf_Mo 38, u_lay zr_Mo zf_Mo 39, u_lay zr_Mo zf_Mo 40, u_lay zr_Mo zf_Mo 41, u_lay zr_Mo zf_Mo 42, u_lay zr_Mo zf_Mo 43, u_lay zr_Mo zf_Mo 44, u_lay zr_Mo zf_Mo 45], w ∈ zB from List.forall_mem_cons.mpr ⟨zl_Mo_0, List.forall_mem_cons.mpr ⟨zl_Mo_1, List.forall_mem_cons.mpr ⟨zl_Mo_2, List.forall_mem_cons.mpr ⟨zl_Mo_3, List.forall_mem_cons.mpr ⟨zl_Mo_4, List.forall_mem_cons.mpr ⟨zl_Mo_5, List.forall_mem_cons.mpr ⟨zl_Mo_6, List.forall_mem_cons.mpr ⟨zl_Mo_7, List.forall_mem_cons.mpr ⟨zl_Mo_8, List.forall_mem_cons.mpr ⟨zl_Mo_9, List.forall_mem_cons.mpr ⟨zl_Mo_10, List.forall_mem_cons.mpr ⟨zl_Mo_11, List.forall_mem_cons.mpr ⟨zl_Mo_12, List.forall_mem_cons.mpr ⟨zl_Mo_13, List.forall_mem_cons.mpr ⟨zl_Mo_14, List.forall_mem_cons.mpr ⟨zl_Mo_15, List.forall_mem_cons.mpr ⟨zl_Mo_16, List.forall_mem_cons.mpr ⟨zl_Mo_17, List.forall_mem_cons.mpr ⟨zl_Mo_18, List.forall_mem_cons.mpr ⟨zl_Mo_19, List.forall_mem_cons.mpr ⟨zl_Mo_20, List.forall_mem_cons.mpr ⟨zl_Mo_21, List.forall_mem_cons.mpr ⟨zl_Mo_22, List.forall_mem_cons.mpr ⟨zl_Mo_23, List.forall_mem_cons.mpr ⟨zl_Mo_24, List.forall_mem_cons.mpr ⟨zl_Mo_25, List.forall_mem_cons.mpr ⟨zl_Mo_26, List.forall_mem_cons.mpr ⟨zl_Mo_27, List.forall_mem_cons.mpr ⟨zl_Mo_28, List.forall_mem_cons.mpr ⟨zl_Mo_29, List.forall_mem_cons.mpr ⟨zl_Mo_30, List.forall_mem_cons.mpr ⟨zl_Mo_31, List.forall_mem_cons.mpr ⟨zl_Mo_32, List.forall_mem_cons.mpr ⟨zl_Mo_33, List.forall_mem_cons.mpr ⟨zl_Mo_34, List.forall_mem_cons.mpr ⟨zl_Mo_35, List.forall_mem_cons.mpr ⟨zl_Mo_36, List.forall_mem_cons.mpr ⟨zl_Mo_37, List.forall_mem_cons.mpr ⟨zl_Mo_38, List.forall_mem_cons.mpr ⟨zl_Mo_39, List.forall_mem_cons.mpr ⟨zl_Mo_40, List.forall_mem_cons.mpr ⟨zl_Mo_41, List.forall_mem_cons.mpr ⟨zl_Mo_42, List.forall_mem_cons.mpr ⟨zl_Mo_43, List.forall_mem_cons.mpr ⟨zl_Mo_44, List.forall_mem_cons.mpr ⟨zl_Mo_45, fun _ h => absurd h List.not_mem_nil⟩⟩⟩⟩⟩⟩⟩⟩⟩⟩⟩⟩⟩⟩⟩⟩⟩⟩⟩⟩⟩⟩⟩⟩⟩⟩⟩⟩⟩⟩⟩⟩⟩⟩⟩⟩⟩⟩⟩⟩⟩⟩⟩⟩⟩⟩
abbrev zCal (y : MethodName) (bytes : ByteArray) (maxL : Nat) (ret : Option FieldType) (n : Nat) : Prop :=
  Cond.instanceMethod y ∈ zB ∧ Cond.initialized y.cls ∈ zB ∧ Cond.code y bytes maxL ret ∈ zB ∧ (y.cls ≠ "java/lang/invoke/MethodHandle" ∧ y.cls ≠ "java/lang/invoke/VarHandle" ∧ (parseMethodDescriptor y.desc).map (fun d => d.parameters.length) = some n)
abbrev zCas (y : MethodName) (bytes : ByteArray) (maxL : Nat) (ret : Option FieldType) (n : Nat) : Prop :=
  Cond.static y ∈ zB ∧ Cond.initialized y.cls ∈ zB ∧ Cond.code y bytes maxL ret ∈ zB ∧ (y.cls ≠ "java/lang/invoke/MethodHandle" ∧ y.cls ≠ "java/lang/invoke/VarHandle" ∧ (parseMethodDescriptor y.desc).map (fun d => d.parameters.length) = some n)

theorem zk_Ch_init : zCal zy_Ch_init zb_Ch_init 2 none 0 := ⟨zm (i := 13) zV1_11 rfl rfl, zm (i := 9) zV1_0 rfl rfl, zm (i := 14) zV1_11 rfl rfl, by decide +kernel⟩
theorem zk_Ch_keep : zCal zy_Ch_keep zb_Ch_keep 3 none 1 := ⟨zm (i := 10) zV2_3 rfl rfl, zm (i := 9) zV1_0 rfl rfl, zm (i := 12) zV2_3 rfl rfl, by decide +kernel⟩
theorem zs_Ch_keep : Cond.selects zr_Ch zy_Ch_keep zy_Ch_keep ∈ zB := zm (i := 11) zV2_3 rfl rfl
theorem zk_Ch_takeBack : zCal zy_Ch_takeBack zb_Ch_takeBack 4 none 1 := ⟨zm (i := 2) zV4_8 rfl rfl, zm (i := 9) zV1_0 rfl rfl, zm (i := 4) zV4_8 rfl rfl, by decide +kernel⟩
theorem zs_Ch_takeBack : Cond.selects zr_Ch zy_Ch_takeBack zy_Ch_takeBack ∈ zB := zm (i := 3) zV4_8 rfl rfl
theorem zk_Ch_forget : zCal zy_Ch_forget zb_Ch_forget 1 none 0 := ⟨zm (i := 15) zV4_8 rfl rfl, zm (i := 9) zV1_0 rfl rfl, zm (i := 1) zV4_9 rfl rfl, by decide +kernel⟩
theorem zs_Ch_forget : Cond.selects zr_Ch zy_Ch_forget zy_Ch_forget ∈ zB := zm (i := 0) zV4_9 rfl rfl
theorem zk_Co_init : zCal zy_Co_init zb_Co_init 2 none 1 := ⟨zm (i := 2) zV1_4 rfl rfl, zm (i := 6) zV1_0 rfl rfl, zm (i := 3) zV1_4 rfl rfl, by decide +kernel⟩
theorem zk_Co_size : zCal zy_Co_size zb_Co_size 1 (some .int) 0 := ⟨zm (i := 4) zV4_2 rfl rfl, zm (i := 6) zV1_0 rfl rfl, zm (i := 6) zV4_2 rfl rfl, by decide +kernel⟩
theorem zs_Co_size : Cond.selects zr_Co zy_Co_size zy_Co_size ∈ zB := zm (i := 5) zV4_2 rfl rfl
theorem zk_Co_has : zCal zy_Co_has zb_Co_has 2 (some .boolean) 1 := ⟨zm (i := 8) zV4_2 rfl rfl, zm (i := 6) zV1_0 rfl rfl, zm (i := 10) zV4_2 rfl rfl, by decide +kernel⟩
theorem zs_Co_has : Cond.selects zr_Co zy_Co_has zy_Co_has ∈ zB := zm (i := 9) zV4_2 rfl rfl
theorem zk_Co_at : zCal zy_Co_at zb_Co_at 3 (some .int) 2 := ⟨zm (i := 13) zV4_2 rfl rfl, zm (i := 6) zV1_0 rfl rfl, zm (i := 15) zV4_2 rfl rfl, by decide +kernel⟩
theorem zs_Co_at : Cond.selects zr_Co zy_Co_at zy_Co_at ∈ zB := zm (i := 14) zV4_2 rfl rfl
theorem zk_Co_find : zCal zy_Co_find zb_Co_find 5 (some .int) 3 := ⟨zm (i := 2) zV2_13 rfl rfl, zm (i := 6) zV1_0 rfl rfl, zm (i := 4) zV2_13 rfl rfl, by decide +kernel⟩
theorem zs_Co_find : Cond.selects zr_Co zy_Co_find zy_Co_find ∈ zB := zm (i := 3) zV2_13 rfl rfl
theorem zk_Co_make : zCal zy_Co_make zb_Co_make 8 none 6 := ⟨zm (i := 4) zV3_14 rfl rfl, zm (i := 6) zV1_0 rfl rfl, zm (i := 6) zV3_14 rfl rfl, by decide +kernel⟩
theorem zs_Co_make : Cond.selects zr_Co zy_Co_make zy_Co_make ∈ zB := zm (i := 5) zV3_14 rfl rfl
theorem zk_Co_sumOf : zCal zy_Co_sumOf zb_Co_sumOf 5 (some .int) 2 := ⟨zm (i := 2) zV3_2 rfl rfl, zm (i := 6) zV1_0 rfl rfl, zm (i := 4) zV3_2 rfl rfl, by decide +kernel⟩
theorem zs_Co_sumOf : Cond.selects zr_Co zy_Co_sumOf zy_Co_sumOf ∈ zB := zm (i := 3) zV3_2 rfl rfl
theorem zk_Co_numberOf : zCal zy_Co_numberOf zb_Co_numberOf 4 (some .int) 1 := ⟨zm (i := 4) zV4_1 rfl rfl, zm (i := 6) zV1_0 rfl rfl, zm (i := 6) zV4_1 rfl rfl, by decide +kernel⟩
theorem zs_Co_numberOf : Cond.selects zr_Co zy_Co_numberOf zy_Co_numberOf ∈ zB := zm (i := 5) zV4_1 rfl rfl
theorem zk_Co_listPoisoners : zCal zy_Co_listPoisoners zb_Co_listPoisoners 5 (some .int) 1 := ⟨zm (i := 10) zV2_12 rfl rfl, zm (i := 6) zV1_0 rfl rfl, zm (i := 12) zV2_12 rfl rfl, by decide +kernel⟩
theorem zs_Co_listPoisoners : Cond.selects zr_Co zy_Co_listPoisoners zy_Co_listPoisoners ∈ zB := zm (i := 11) zV2_12 rfl rfl
theorem zk_Co_poisonBy : zCal zy_Co_poisonBy zb_Co_poisonBy 4 (some .int) 2 := ⟨zm (i := 14) zV2_12 rfl rfl, zm (i := 6) zV1_0 rfl rfl, zm (i := 0) zV2_13 rfl rfl, by decide +kernel⟩
theorem zs_Co_poisonBy : Cond.selects zr_Co zy_Co_poisonBy zy_Co_poisonBy ∈ zB := zm (i := 15) zV2_12 rfl rfl
theorem zk_Co_countTurnEnd : zCal zy_Co_countTurnEnd zb_Co_countTurnEnd 3 none 1 := ⟨zm (i := 9) zV3_0 rfl rfl, zm (i := 6) zV1_0 rfl rfl, zm (i := 11) zV3_0 rfl rfl, by decide +kernel⟩
theorem zs_Co_countTurnEnd : Cond.selects zr_Co zy_Co_countTurnEnd zy_Co_countTurnEnd ∈ zB := zm (i := 10) zV3_0 rfl rfl
theorem zk_Co_countSourceTurn : zCal zy_Co_countSourceTurn zb_Co_countSourceTurn 3 none 1 := ⟨zm (i := 5) zV2_11 rfl rfl, zm (i := 6) zV1_0 rfl rfl, zm (i := 7) zV2_11 rfl rfl, by decide +kernel⟩
theorem zs_Co_countSourceTurn : Cond.selects zr_Co zy_Co_countSourceTurn zy_Co_countSourceTurn ∈ zB := zm (i := 6) zV2_11 rfl rfl
theorem zk_Co_endAllOf : zCal zy_Co_endAllOf zb_Co_endAllOf 3 none 1 := ⟨zm (i := 11) zV2_13 rfl rfl, zm (i := 6) zV1_0 rfl rfl, zm (i := 13) zV2_13 rfl rfl, by decide +kernel⟩
theorem zs_Co_endAllOf : Cond.selects zr_Co zy_Co_endAllOf zy_Co_endAllOf ∈ zB := zm (i := 12) zV2_13 rfl rfl
theorem zk_Co_endHarmedOf : zCal zy_Co_endHarmedOf zb_Co_endHarmedOf 4 none 1 := ⟨zm (i := 15) zV2_13 rfl rfl, zm (i := 6) zV1_0 rfl rfl, zm (i := 1) zV2_14 rfl rfl, by decide +kernel⟩
theorem zs_Co_endHarmedOf : Cond.selects zr_Co zy_Co_endHarmedOf zy_Co_endHarmedOf ∈ zB := zm (i := 0) zV2_14 rfl rfl
theorem zk_Co_endOfEncounter : zCal zy_Co_endOfEncounter zb_Co_endOfEncounter 2 none 0 := ⟨zm (i := 13) zV2_14 rfl rfl, zm (i := 6) zV1_0 rfl rfl, zm (i := 15) zV2_14 rfl rfl, by decide +kernel⟩
theorem zs_Co_endOfEncounter : Cond.selects zr_Co zy_Co_endOfEncounter zy_Co_endOfEncounter ∈ zB := zm (i := 14) zV2_14 rfl rfl
theorem zk_Co_endWith : zCal zy_Co_endWith zb_Co_endWith 3 none 1 := ⟨zm (i := 11) zV4_0 rfl rfl, zm (i := 6) zV1_0 rfl rfl, zm (i := 13) zV4_0 rfl rfl, by decide +kernel⟩
theorem zs_Co_endWith : Cond.selects zr_Co zy_Co_endWith zy_Co_endWith ∈ zB := zm (i := 12) zV4_0 rfl rfl
theorem zk_Co_endCounted : zCal zy_Co_endCounted zb_Co_endCounted 3 none 0 := ⟨zm (i := 13) zV2_11 rfl rfl, zm (i := 6) zV1_0 rfl rfl, zm (i := 14) zV2_11 rfl rfl, by decide +kernel⟩
theorem zs_Co_endCounted : Cond.selects zr_Co zy_Co_endCounted zy_Co_endCounted ∈ zB := zm (i := 3) zT_0 rfl rfl
theorem zk_Co_copyFrom : zCal zy_Co_copyFrom zb_Co_copyFrom 2 none 1 := ⟨zm (i := 12) zV2_4 rfl rfl, zm (i := 6) zV1_0 rfl rfl, zm (i := 14) zV2_4 rfl rfl, by decide +kernel⟩
theorem zs_Co_copyFrom : Cond.selects zr_Co zy_Co_copyFrom zy_Co_copyFrom ∈ zB := zm (i := 13) zV2_4 rfl rfl
theorem zk_En_init : zCal zy_En_init zb_En_init 4 none 3 := ⟨zm (i := 14) zV1_6 rfl rfl, zm (i := 8) zV1_0 rfl rfl, zm (i := 15) zV1_6 rfl rfl, by decide +kernel⟩
theorem zk_En_isOn : zCal zy_En_isOn zb_En_isOn 1 (some .boolean) 0 := ⟨zm (i := 5) zV2_8 rfl rfl, zm (i := 8) zV1_0 rfl rfl, zm (i := 7) zV2_8 rfl rfl, by decide +kernel⟩
theorem zs_En_isOn : Cond.selects zr_En zy_En_isOn zy_En_isOn ∈ zB := zm (i := 6) zV2_8 rfl rfl
theorem zk_En_current : zCal zy_En_current zb_En_current 1 (some .int) 0 := ⟨zm (i := 0) zV2_11 rfl rfl, zm (i := 8) zV1_0 rfl rfl, zm (i := 2) zV2_11 rfl rfl, by decide +kernel⟩
theorem zs_En_current : Cond.selects zr_En zy_En_current zy_En_current ∈ zB := zm (i := 1) zV2_11 rfl rfl
theorem zk_En_atPlace : zCal zy_En_atPlace zb_En_atPlace 2 (some .int) 1 := ⟨zm (i := 12) zV4_1 rfl rfl, zm (i := 8) zV1_0 rfl rfl, zm (i := 14) zV4_1 rfl rfl, by decide +kernel⟩
theorem zs_En_atPlace : Cond.selects zr_En zy_En_atPlace zy_En_atPlace ∈ zB := zm (i := 13) zV4_1 rfl rfl
theorem zk_En_placeOf : zCal zy_En_placeOf zb_En_placeOf 3 (some .int) 1 := ⟨zm (i := 10) zV3_2 rfl rfl, zm (i := 8) zV1_0 rfl rfl, zm (i := 12) zV3_2 rfl rfl, by decide +kernel⟩
theorem zs_En_placeOf : Cond.selects zr_En zy_En_placeOf zy_En_placeOf ∈ zB := zm (i := 11) zV3_2 rfl rfl
theorem zk_En_inOrder : zCal zy_En_inOrder zb_En_inOrder 2 (some .int) 1 := ⟨zm (i := 11) zV3_13 rfl rfl, zm (i := 8) zV1_0 rfl rfl, zm (i := 13) zV3_13 rfl rfl, by decide +kernel⟩
theorem zs_En_inOrder : Cond.selects zr_En zy_En_inOrder zy_En_inOrder ∈ zB := zm (i := 12) zV3_13 rfl rfl
theorem zk_En_open : zCal zy_En_open zb_En_open 5 none 1 := ⟨zm (i := 5) zV2_9 rfl rfl, zm (i := 8) zV1_0 rfl rfl, zm (i := 7) zV2_9 rfl rfl, by decide +kernel⟩
theorem zs_En_open : Cond.selects zr_En zy_En_open zy_En_open ∈ zB := zm (i := 6) zV2_9 rfl rfl
theorem zk_En_insert : zCal zy_En_insert zb_En_insert 3 none 1 := ⟨zm (i := 14) zV2_9 rfl rfl, zm (i := 8) zV1_0 rfl rfl, zm (i := 15) zV2_9 rfl rfl, by decide +kernel⟩
theorem zs_En_insert : Cond.selects zr_En zy_En_insert zy_En_insert ∈ zB := zm (i := 1) zT_0 rfl rfl
theorem zk_En_isAhead : zCal zy_En_isAhead zb_En_isAhead 5 (some .boolean) 2 := ⟨zm (i := 4) zV2_10 rfl rfl, zm (i := 8) zV1_0 rfl rfl, zm (i := 5) zV2_10 rfl rfl, by decide +kernel⟩
theorem zs_En_isAhead : Cond.selects zr_En zy_En_isAhead zy_En_isAhead ∈ zB := zm (i := 2) zT_0 rfl rfl
theorem zk_En_startTurn : zCal zy_En_startTurn zb_En_startTurn 1 none 0 := ⟨zm (i := 12) zV2_10 rfl rfl, zm (i := 8) zV1_0 rfl rfl, zm (i := 14) zV2_10 rfl rfl, by decide +kernel⟩
theorem zs_En_startTurn : Cond.selects zr_En zy_En_startTurn zy_En_startTurn ∈ zB := zm (i := 13) zV2_10 rfl rfl
theorem zk_En_leaveTurn : zCal zy_En_leaveTurn zb_En_leaveTurn 1 none 0 := ⟨zm (i := 5) zV3_0 rfl rfl, zm (i := 8) zV1_0 rfl rfl, zm (i := 7) zV3_0 rfl rfl, by decide +kernel⟩
theorem zs_En_leaveTurn : Cond.selects zr_En zy_En_leaveTurn zy_En_leaveTurn ∈ zB := zm (i := 6) zV3_0 rfl rfl
theorem zk_En_comesLater : zCal zy_En_comesLater zb_En_comesLater 2 (some .boolean) 1 := ⟨zm (i := 6) zV3_2 rfl rfl, zm (i := 8) zV1_0 rfl rfl, zm (i := 8) zV3_2 rfl rfl, by decide +kernel⟩
theorem zs_En_comesLater : Cond.selects zr_En zy_En_comesLater zy_En_comesLater ∈ zB := zm (i := 7) zV3_2 rfl rfl
theorem zk_En_putBehind : zCal zy_En_putBehind zb_En_putBehind 5 none 1 := ⟨zm (i := 14) zV3_2 rfl rfl, zm (i := 8) zV1_0 rfl rfl, zm (i := 0) zV3_3 rfl rfl, by decide +kernel⟩
theorem zs_En_putBehind : Cond.selects zr_En zy_En_putBehind zy_En_putBehind ∈ zB := zm (i := 15) zV3_2 rfl rfl
theorem zk_En_act : zCal zy_En_act zb_En_act 2 none 1 := ⟨zm (i := 0) zV3_7 rfl rfl, zm (i := 8) zV1_0 rfl rfl, zm (i := 2) zV3_7 rfl rfl, by decide +kernel⟩
theorem zs_En_act : Cond.selects zr_En zy_En_act zy_En_act ∈ zB := zm (i := 1) zV3_7 rfl rfl
theorem zk_En_close : zCal zy_En_close zb_En_close 2 none 0 := ⟨zm (i := 8) zV2_14 rfl rfl, zm (i := 8) zV1_0 rfl rfl, zm (i := 10) zV2_14 rfl rfl, by decide +kernel⟩
theorem zs_En_close : Cond.selects zr_En zy_En_close zy_En_close ∈ zB := zm (i := 9) zV2_14 rfl rfl
theorem zk_En_copyFrom : zCal zy_En_copyFrom zb_En_copyFrom 2 none 1 := ⟨zm (i := 11) zV2_5 rfl rfl, zm (i := 8) zV1_0 rfl rfl, zm (i := 13) zV2_5 rfl rfl, by decide +kernel⟩
theorem zs_En_copyFrom : Cond.selects zr_En zy_En_copyFrom zy_En_copyFrom ∈ zB := zm (i := 12) zV2_5 rfl rfl
theorem zk_Fi_init : zCal zy_Fi_init zb_Fi_init 3 none 2 := ⟨zm (i := 4) zV1_5 rfl rfl, zm (i := 7) zV1_0 rfl rfl, zm (i := 5) zV1_5 rfl rfl, by decide +kernel⟩
theorem zk_Fi_size : zCal zy_Fi_size zb_Fi_size 1 (some .int) 0 := ⟨zm (i := 6) zV2_3 rfl rfl, zm (i := 7) zV1_0 rfl rfl, zm (i := 8) zV2_3 rfl rfl, by decide +kernel⟩
theorem zs_Fi_size : Cond.selects zr_Fi zy_Fi_size zy_Fi_size ∈ zB := zm (i := 7) zV2_3 rfl rfl
theorem zk_Fi_has : zCal zy_Fi_has zb_Fi_has 2 (some .boolean) 1 := ⟨zm (i := 13) zV2_7 rfl rfl, zm (i := 7) zV1_0 rfl rfl, zm (i := 15) zV2_7 rfl rfl, by decide +kernel⟩
theorem zs_Fi_has : Cond.selects zr_Fi zy_Fi_has zy_Fi_has ∈ zB := zm (i := 14) zV2_7 rfl rfl
theorem zk_Fi_at : zCal zy_Fi_at zb_Fi_at 3 (some .int) 2 := ⟨zm (i := 9) zV2_8 rfl rfl, zm (i := 7) zV1_0 rfl rfl, zm (i := 11) zV2_8 rfl rfl, by decide +kernel⟩
theorem zs_Fi_at : Cond.selects zr_Fi zy_Fi_at zy_Fi_at ∈ zB := zm (i := 10) zV2_8 rfl rfl
theorem zk_Fi_put : zCal zy_Fi_put zb_Fi_put 4 none 3 := ⟨zm (i := 13) zV2_8 rfl rfl, zm (i := 7) zV1_0 rfl rfl, zm (i := 15) zV2_8 rfl rfl, by decide +kernel⟩
theorem zs_Fi_put : Cond.selects zr_Fi zy_Fi_put zy_Fi_put ∈ zB := zm (i := 14) zV2_8 rfl rfl
theorem zk_Fi_join : zCal zy_Fi_join zb_Fi_join 9 (some .int) 5 := ⟨zm (i := 2) zV2_6 rfl rfl, zm (i := 7) zV1_0 rfl rfl, zm (i := 4) zV2_6 rfl rfl, by decide +kernel⟩
theorem zs_Fi_join : Cond.selects zr_Fi zy_Fi_join zy_Fi_join ∈ zB := zm (i := 3) zV2_6 rfl rfl
theorem zk_Fi_standingOn : zCal zy_Fi_standingOn zb_Fi_standingOn 3 (some .int) 1 := ⟨zm (i := 9) zV2_2 rfl rfl, zm (i := 7) zV1_0 rfl rfl, zm (i := 11) zV2_2 rfl rfl, by decide +kernel⟩
theorem zs_Fi_standingOn : Cond.selects zr_Fi zy_Fi_standingOn zy_Fi_standingOn ∈ zB := zm (i := 10) zV2_2 rfl rfl
theorem zk_Fi_isDown : zCal zy_Fi_isDown zb_Fi_isDown 2 (some .boolean) 1 := ⟨zm (i := 14) zV3_1 rfl rfl, zm (i := 7) zV1_0 rfl rfl, zm (i := 0) zV3_2 rfl rfl, by decide +kernel⟩
theorem zs_Fi_isDown : Cond.selects zr_Fi zy_Fi_isDown zy_Fi_isDown ∈ zB := zm (i := 15) zV3_1 rfl rfl
theorem zk_Fi_canAct : zCal zy_Fi_canAct zb_Fi_canAct 2 (some .boolean) 1 := ⟨zm (i := 10) zV3_1 rfl rfl, zm (i := 7) zV1_0 rfl rfl, zm (i := 12) zV3_1 rfl rfl, by decide +kernel⟩
theorem zs_Fi_canAct : Cond.selects zr_Fi zy_Fi_canAct zy_Fi_canAct ∈ zB := zm (i := 11) zV3_1 rfl rfl
theorem zk_Fi_areFoes : zCal zy_Fi_areFoes zb_Fi_areFoes 3 (some .boolean) 2 := ⟨zm (i := 1) zV3_4 rfl rfl, zm (i := 7) zV1_0 rfl rfl, zm (i := 3) zV3_4 rfl rfl, by decide +kernel⟩
theorem zs_Fi_areFoes : Cond.selects zr_Fi zy_Fi_areFoes zy_Fi_areFoes ∈ zB := zm (i := 2) zV3_4 rfl rfl
theorem zk_Fi_numberDown : zCal zy_Fi_numberDown zb_Fi_numberDown 3 (some .int) 0 := ⟨zm (i := 2) zV4_7 rfl rfl, zm (i := 7) zV1_0 rfl rfl, zm (i := 4) zV4_7 rfl rfl, by decide +kernel⟩
theorem zs_Fi_numberDown : Cond.selects zr_Fi zy_Fi_numberDown zy_Fi_numberDown ∈ zB := zm (i := 3) zV4_7 rfl rfl
theorem zk_Fi_livesOf : zCal zy_Fi_livesOf zb_Fi_livesOf 4 (some .int) 1 := ⟨zm (i := 6) zV4_7 rfl rfl, zm (i := 7) zV1_0 rfl rfl, zm (i := 8) zV4_7 rfl rfl, by decide +kernel⟩
theorem zs_Fi_livesOf : Cond.selects zr_Fi zy_Fi_livesOf zy_Fi_livesOf ∈ zB := zm (i := 7) zV4_7 rfl rfl
theorem zk_Fi_moveTo : zCal zy_Fi_moveTo zb_Fi_moveTo 3 none 2 := ⟨zm (i := 10) zV3_5 rfl rfl, zm (i := 7) zV1_0 rfl rfl, zm (i := 12) zV3_5 rfl rfl, by decide +kernel⟩
theorem zs_Fi_moveTo : Cond.selects zr_Fi zy_Fi_moveTo zy_Fi_moveTo ∈ zB := zm (i := 11) zV3_5 rfl rfl
theorem zk_Fi_hurt : zCal zy_Fi_hurt zb_Fi_hurt 3 (some .int) 2 := ⟨zm (i := 4) zV3_7 rfl rfl, zm (i := 7) zV1_0 rfl rfl, zm (i := 6) zV3_7 rfl rfl, by decide +kernel⟩
theorem zs_Fi_hurt : Cond.selects zr_Fi zy_Fi_hurt zy_Fi_hurt ∈ zB := zm (i := 5) zV3_7 rfl rfl
theorem zk_Fi_lose : zCal zy_Fi_lose zb_Fi_lose 5 (some .int) 2 := ⟨zm (i := 7) zV2_13 rfl rfl, zm (i := 7) zV1_0 rfl rfl, zm (i := 8) zV2_13 rfl rfl, by decide +kernel⟩
theorem zs_Fi_lose : Cond.selects zr_Fi zy_Fi_lose zy_Fi_lose ∈ zB := zm (i := 4) zT_0 rfl rfl
theorem zk_Fi_sufferPoisons : zCal zy_Fi_sufferPoisons zb_Fi_sufferPoisons 4 none 1 := ⟨zm (i := 6) zV2_12 rfl rfl, zm (i := 7) zV1_0 rfl rfl, zm (i := 8) zV2_12 rfl rfl, by decide +kernel⟩
theorem zs_Fi_sufferPoisons : Cond.selects zr_Fi zy_Fi_sufferPoisons zy_Fi_sufferPoisons ∈ zB := zm (i := 7) zV2_12 rfl rfl
theorem zk_Fi_mend : zCal zy_Fi_mend zb_Fi_mend 5 (some .int) 2 := ⟨zm (i := 0) zV3_14 rfl rfl, zm (i := 7) zV1_0 rfl rfl, zm (i := 2) zV3_14 rfl rfl, by decide +kernel⟩
theorem zs_Fi_mend : Cond.selects zr_Fi zy_Fi_mend zy_Fi_mend ∈ zB := zm (i := 1) zV3_14 rfl rfl
theorem zk_Fi_spend : zCal zy_Fi_spend zb_Fi_spend 4 none 3 := ⟨zm (i := 3) zV3_13 rfl rfl, zm (i := 7) zV1_0 rfl rfl, zm (i := 5) zV3_13 rfl rfl, by decide +kernel⟩
theorem zs_Fi_spend : Cond.selects zr_Fi zy_Fi_spend zy_Fi_spend ∈ zB := zm (i := 4) zV3_13 rfl rfl
theorem zk_Fi_refill : zCal zy_Fi_refill zb_Fi_refill 5 none 2 := ⟨zm (i := 4) zV4_0 rfl rfl, zm (i := 7) zV1_0 rfl rfl, zm (i := 5) zV4_0 rfl rfl, by decide +kernel⟩
theorem zs_Fi_refill : Cond.selects zr_Fi zy_Fi_refill zy_Fi_refill ∈ zB := zm (i := 25) zT_0 rfl rfl
theorem zk_Fi_restShort : zCal zy_Fi_restShort zb_Fi_restShort 3 (some .int) 1 := ⟨zm (i := 7) zV4_0 rfl rfl, zm (i := 7) zV1_0 rfl rfl, zm (i := 9) zV4_0 rfl rfl, by decide +kernel⟩
theorem zs_Fi_restShort : Cond.selects zr_Fi zy_Fi_restShort zy_Fi_restShort ∈ zB := zm (i := 8) zV4_0 rfl rfl
theorem zk_Fi_restLong : zCal zy_Fi_restLong zb_Fi_restLong 4 (some .int) 1 := ⟨zm (i := 14) zV3_14 rfl rfl, zm (i := 7) zV1_0 rfl rfl, zm (i := 0) zV4_0 rfl rfl, by decide +kernel⟩
theorem zs_Fi_restLong : Cond.selects zr_Fi zy_Fi_restLong zy_Fi_restLong ∈ zB := zm (i := 15) zV3_14 rfl rfl
theorem zk_Fi_copyFrom : zCal zy_Fi_copyFrom zb_Fi_copyFrom 2 none 1 := ⟨zm (i := 6) zV2_5 rfl rfl, zm (i := 7) zV1_0 rfl rfl, zm (i := 8) zV2_5 rfl rfl, by decide +kernel⟩
theorem zs_Fi_copyFrom : Cond.selects zr_Fi zy_Fi_copyFrom zy_Fi_copyFrom ∈ zB := zm (i := 7) zV2_5 rfl rfl
theorem zk_Jo_init : zCal zy_Jo_init zb_Jo_init 1 none 0 := ⟨zm (i := 4) zV1_3 rfl rfl, zm (i := 5) zV1_0 rfl rfl, zm (i := 5) zV1_3 rfl rfl, by decide +kernel⟩
theorem zk_Jo_write : zCal zy_Jo_write zb_Jo_write 5 none 3 := ⟨zm (i := 14) zV2_6 rfl rfl, zm (i := 5) zV1_0 rfl rfl, zm (i := 0) zV2_7 rfl rfl, by decide +kernel⟩
theorem zs_Jo_write : Cond.selects zr_Jo zy_Jo_write zy_Jo_write ∈ zB := zm (i := 15) zV2_6 rfl rfl
theorem zk_Jo_keeps : zCal zy_Jo_keeps zb_Jo_keeps 2 (some .boolean) 1 := ⟨zm (i := 13) zV4_3 rfl rfl, zm (i := 5) zV1_0 rfl rfl, zm (i := 15) zV4_3 rfl rfl, by decide +kernel⟩
theorem zs_Jo_keeps : Cond.selects zr_Jo zy_Jo_keeps zy_Jo_keeps ∈ zB := zm (i := 14) zV4_3 rfl rfl
theorem zk_Jo_keepsAll : zCal zy_Jo_keepsAll zb_Jo_keepsAll 1 (some .boolean) 0 := ⟨zm (i := 9) zV4_4 rfl rfl, zm (i := 5) zV1_0 rfl rfl, zm (i := 11) zV4_4 rfl rfl, by decide +kernel⟩
theorem zs_Jo_keepsAll : Cond.selects zr_Jo zy_Jo_keepsAll zy_Jo_keepsAll ∈ zB := zm (i := 10) zV4_4 rfl rfl
theorem zk_Jo_at : zCal zy_Jo_at zb_Jo_at 4 (some .int) 2 := ⟨zm (i := 1) zV4_4 rfl rfl, zm (i := 5) zV1_0 rfl rfl, zm (i := 3) zV4_4 rfl rfl, by decide +kernel⟩
theorem zs_Jo_at : Cond.selects zr_Jo zy_Jo_at zy_Jo_at ∈ zB := zm (i := 2) zV4_4 rfl rfl
theorem zk_Jo_tells : zCal zy_Jo_tells zb_Jo_tells 4 (some .boolean) 3 := ⟨zm (i := 6) zV4_5 rfl rfl, zm (i := 5) zV1_0 rfl rfl, zm (i := 7) zV4_5 rfl rfl, by decide +kernel⟩
theorem zs_Jo_tells : Cond.selects zr_Jo zy_Jo_tells zy_Jo_tells ∈ zB := zm (i := 27) zT_0 rfl rfl
theorem zk_Jo_numberOf : zCal zy_Jo_numberOf zb_Jo_numberOf 5 (some .int) 2 := ⟨zm (i := 10) zV4_5 rfl rfl, zm (i := 5) zV1_0 rfl rfl, zm (i := 12) zV4_5 rfl rfl, by decide +kernel⟩
theorem zs_Jo_numberOf : Cond.selects zr_Jo zy_Jo_numberOf zy_Jo_numberOf ∈ zB := zm (i := 11) zV4_5 rfl rfl
theorem zk_Jo_sumOf : zCal zy_Jo_sumOf zb_Jo_sumOf 5 (some .int) 2 := ⟨zm (i := 2) zV4_5 rfl rfl, zm (i := 5) zV1_0 rfl rfl, zm (i := 3) zV4_5 rfl rfl, by decide +kernel⟩
theorem zs_Jo_sumOf : Cond.selects zr_Jo zy_Jo_sumOf zy_Jo_sumOf ∈ zB := zm (i := 26) zT_0 rfl rfl
theorem zk_Jo_sumOfAmounts : zCal zy_Jo_sumOfAmounts zb_Jo_sumOfAmounts 5 (some .int) 2 := ⟨zm (i := 3) zV4_6 rfl rfl, zm (i := 5) zV1_0 rfl rfl, zm (i := 4) zV4_6 rfl rfl, by decide +kernel⟩
theorem zs_Jo_sumOfAmounts : Cond.selects zr_Jo zy_Jo_sumOfAmounts zy_Jo_sumOfAmounts ∈ zB := zm (i := 28) zT_0 rfl rfl
theorem zk_Jo_lifeOf : zCal zy_Jo_lifeOf zb_Jo_lifeOf 2 (some .int) 1 := ⟨zm (i := 13) zV4_4 rfl rfl, zm (i := 5) zV1_0 rfl rfl, zm (i := 15) zV4_4 rfl rfl, by decide +kernel⟩
theorem zs_Jo_lifeOf : Cond.selects zr_Jo zy_Jo_lifeOf zy_Jo_lifeOf ∈ zB := zm (i := 14) zV4_4 rfl rfl
theorem zk_Jo_spentBy : zCal zy_Jo_spentBy zb_Jo_spentBy 2 (some .int) 1 := ⟨zm (i := 14) zV4_5 rfl rfl, zm (i := 5) zV1_0 rfl rfl, zm (i := 0) zV4_6 rfl rfl, by decide +kernel⟩
theorem zs_Jo_spentBy : Cond.selects zr_Jo zy_Jo_spentBy zy_Jo_spentBy ∈ zB := zm (i := 15) zV4_5 rfl rfl
theorem zk_Jo_latestMoveOf : zCal zy_Jo_latestMoveOf zb_Jo_latestMoveOf 4 (some .int) 1 := ⟨zm (i := 6) zV4_6 rfl rfl, zm (i := 5) zV1_0 rfl rfl, zm (i := 8) zV4_6 rfl rfl, by decide +kernel⟩
theorem zs_Jo_latestMoveOf : Cond.selects zr_Jo zy_Jo_latestMoveOf zy_Jo_latestMoveOf ∈ zB := zm (i := 7) zV4_6 rfl rfl
theorem zk_Jo_copyFrom : zCal zy_Jo_copyFrom zb_Jo_copyFrom 3 none 1 := ⟨zm (i := 2) zV2_4 rfl rfl, zm (i := 5) zV1_0 rfl rfl, zm (i := 4) zV2_4 rfl rfl, by decide +kernel⟩
theorem zs_Jo_copyFrom : Cond.selects zr_Jo zy_Jo_copyFrom zy_Jo_copyFrom ∈ zB := zm (i := 3) zV2_4 rfl rfl
theorem zk_St_init : zCal zy_St_init zb_St_init 4 none 0 := ⟨zm (i := 10) zV1_1 rfl rfl, zm (i := 2) zV1_0 rfl rfl, zm (i := 11) zV1_1 rfl rfl, by decide +kernel⟩
theorem zk_St_isFree : zCal zy_St_isFree zb_St_isFree 2 (some .boolean) 1 := ⟨zm (i := 1) zV2_2 rfl rfl, zm (i := 2) zV1_0 rfl rfl, zm (i := 3) zV2_2 rfl rfl, by decide +kernel⟩
theorem zs_St_isFree : Cond.selects zr_St zy_St_isFree zy_St_isFree ∈ zB := zm (i := 2) zV2_2 rfl rfl
theorem zk_St_numberOfWalls : zCal zy_St_numberOfWalls zb_St_numberOfWalls 3 (some .int) 0 := ⟨zm (i := 10) zV4_7 rfl rfl, zm (i := 2) zV1_0 rfl rfl, zm (i := 12) zV4_7 rfl rfl, by decide +kernel⟩
theorem zs_St_numberOfWalls : Cond.selects zr_St zy_St_numberOfWalls zy_St_numberOfWalls ∈ zB := zm (i := 11) zV4_7 rfl rfl
theorem zk_St_become : zCal zy_St_become zb_St_become 2 none 1 := ⟨zm (i := 14) zV2_3 rfl rfl, zm (i := 2) zV1_0 rfl rfl, zm (i := 0) zV2_4 rfl rfl, by decide +kernel⟩
theorem zs_St_become : Cond.selects zr_St zy_St_become zy_St_become ∈ zB := zm (i := 15) zV2_3 rfl rfl
theorem zk_Ta_init : zCal zy_Ta_init zb_Ta_init 4 none 3 := ⟨zm (i := 0) zV1_2 rfl rfl, zm (i := 3) zV1_0 rfl rfl, zm (i := 1) zV1_2 rfl rfl, by decide +kernel⟩
theorem zk_Ta_used : zCal zy_Ta_used zb_Ta_used 1 (some .int) 0 := ⟨zm (i := 13) zV2_2 rfl rfl, zm (i := 3) zV1_0 rfl rfl, zm (i := 15) zV2_2 rfl rfl, by decide +kernel⟩
theorem zs_Ta_used : Cond.selects zr_Ta zy_Ta_used zy_Ta_used ∈ zB := zm (i := 14) zV2_2 rfl rfl
theorem zk_Ta_holds : zCal zy_Ta_holds zb_Ta_holds 2 (some .boolean) 1 := ⟨zm (i := 1) zV2_8 rfl rfl, zm (i := 3) zV1_0 rfl rfl, zm (i := 3) zV2_8 rfl rfl, by decide +kernel⟩
theorem zs_Ta_holds : Cond.selects zr_Ta zy_Ta_holds zy_Ta_holds ∈ zB := zm (i := 2) zV2_8 rfl rfl
theorem zk_Ta_get : zCal zy_Ta_get zb_Ta_get 4 (some .int) 2 := ⟨zm (i := 5) zV2_2 rfl rfl, zm (i := 3) zV1_0 rfl rfl, zm (i := 7) zV2_2 rfl rfl, by decide +kernel⟩
theorem zs_Ta_get : Cond.selects zr_Ta zy_Ta_get zy_Ta_get ∈ zB := zm (i := 6) zV2_2 rfl rfl
theorem zk_Ta_set : zCal zy_Ta_set zb_Ta_set 5 none 3 := ⟨zm (i := 10) zV2_6 rfl rfl, zm (i := 3) zV1_0 rfl rfl, zm (i := 12) zV2_6 rfl rfl, by decide +kernel⟩
theorem zs_Ta_set : Cond.selects zr_Ta zy_Ta_set zy_Ta_set ∈ zB := zm (i := 11) zV2_6 rfl rfl
theorem zk_Ta_append : zCal zy_Ta_append zb_Ta_append 3 (some .int) 0 := ⟨zm (i := 6) zV2_6 rfl rfl, zm (i := 3) zV1_0 rfl rfl, zm (i := 8) zV2_6 rfl rfl, by decide +kernel⟩
theorem zs_Ta_append : Cond.selects zr_Ta zy_Ta_append zy_Ta_append ∈ zB := zm (i := 7) zV2_6 rfl rfl
theorem zk_Ta_copyRow : zCal zy_Ta_copyRow zb_Ta_copyRow 6 none 2 := ⟨zm (i := 7) zV2_10 rfl rfl, zm (i := 3) zV1_0 rfl rfl, zm (i := 9) zV2_10 rfl rfl, by decide +kernel⟩
theorem zs_Ta_copyRow : Cond.selects zr_Ta zy_Ta_copyRow zy_Ta_copyRow ∈ zB := zm (i := 8) zV2_10 rfl rfl
theorem zk_Ta_cut : zCal zy_Ta_cut zb_Ta_cut 2 none 1 := ⟨zm (i := 2) zV2_12 rfl rfl, zm (i := 3) zV1_0 rfl rfl, zm (i := 4) zV2_12 rfl rfl, by decide +kernel⟩
theorem zs_Ta_cut : Cond.selects zr_Ta zy_Ta_cut zy_Ta_cut ∈ zB := zm (i := 3) zV2_12 rfl rfl
theorem zk_Ta_copyRows : zCal zy_Ta_copyRows zb_Ta_copyRows 3 none 1 := ⟨zm (i := 0) zV2_5 rfl rfl, zm (i := 3) zV1_0 rfl rfl, zm (i := 2) zV2_5 rfl rfl, by decide +kernel⟩
theorem zs_Ta_copyRows : Cond.selects zr_Ta zy_Ta_copyRows zy_Ta_copyRows ∈ zB := zm (i := 1) zV2_5 rfl rfl
theorem zk_Tp_init : zCal zy_Tp_init zb_Tp_init 1 none 0 := ⟨zm (i := 1) zV1_13 rfl rfl, zm (i := 10) zV1_0 rfl rfl, zm (i := 2) zV1_13 rfl rfl, by decide +kernel⟩
theorem zk_Tp_hasRoomFor : zCal zy_Tp_hasRoomFor zb_Tp_hasRoomFor 2 (some .boolean) 1 := ⟨zm (i := 15) zV3_7 rfl rfl, zm (i := 10) zV1_0 rfl rfl, zm (i := 1) zV3_8 rfl rfl, by decide +kernel⟩
theorem zs_Tp_hasRoomFor : Cond.selects zr_Tp zy_Tp_hasRoomFor zy_Tp_hasRoomFor ∈ zB := zm (i := 0) zV3_8 rfl rfl
theorem zk_Tp_append : zCal zy_Tp_append zb_Tp_append 2 none 1 := ⟨zm (i := 3) zV3_8 rfl rfl, zm (i := 10) zV1_0 rfl rfl, zm (i := 5) zV3_8 rfl rfl, by decide +kernel⟩
theorem zs_Tp_append : Cond.selects zr_Tp zy_Tp_append zy_Tp_append ∈ zB := zm (i := 4) zV3_8 rfl rfl
theorem zk_Tp_clear : zCal zy_Tp_clear zb_Tp_clear 1 none 0 := ⟨zm (i := 11) zV3_11 rfl rfl, zm (i := 10) zV1_0 rfl rfl, zm (i := 13) zV3_11 rfl rfl, by decide +kernel⟩
theorem zs_Tp_clear : Cond.selects zr_Tp zy_Tp_clear zy_Tp_clear ∈ zB := zm (i := 12) zV3_11 rfl rfl
theorem zk_Tp_part : zCal zy_Tp_part zb_Tp_part 2 (some .int) 1 := ⟨zm (i := 3) zV3_11 rfl rfl, zm (i := 10) zV1_0 rfl rfl, zm (i := 5) zV3_11 rfl rfl, by decide +kernel⟩
theorem zs_Tp_part : Cond.selects zr_Tp zy_Tp_part zy_Tp_part ∈ zB := zm (i := 4) zV3_11 rfl rfl
theorem zk_Tp_readPower : zCal zy_Tp_readPower zb_Tp_readPower 1 (some .boolean) 0 := ⟨zm (i := 12) zV3_8 rfl rfl, zm (i := 10) zV1_0 rfl rfl, zm (i := 14) zV3_8 rfl rfl, by decide +kernel⟩
theorem zs_Tp_readPower : Cond.selects zr_Tp zy_Tp_readPower zy_Tp_readPower ∈ zB := zm (i := 13) zV3_8 rfl rfl
theorem zk_Tp_peek : zCal zy_Tp_peek zb_Tp_peek 2 (some .int) 0 := ⟨zm (i := 8) zV3_9 rfl rfl, zm (i := 10) zV1_0 rfl rfl, zm (i := 9) zV3_9 rfl rfl, by decide +kernel⟩
theorem zs_Tp_peek : Cond.selects zr_Tp zy_Tp_peek zy_Tp_peek ∈ zB := zm (i := 13) zT_0 rfl rfl
theorem zk_Tp_skip : zCal zy_Tp_skip zb_Tp_skip 3 (some .boolean) 1 := ⟨zm (i := 0) zV3_10 rfl rfl, zm (i := 10) zV1_0 rfl rfl, zm (i := 1) zV3_10 rfl rfl, by decide +kernel⟩
theorem zs_Tp_skip : Cond.selects zr_Tp zy_Tp_skip zy_Tp_skip ∈ zB := zm (i := 15) zT_0 rfl rfl
theorem zk_Tp_setPart : zCal zy_Tp_setPart zb_Tp_setPart 3 none 2 := ⟨zm (i := 12) zV3_9 rfl rfl, zm (i := 10) zV1_0 rfl rfl, zm (i := 13) zV3_9 rfl rfl, by decide +kernel⟩
theorem zs_Tp_setPart : Cond.selects zr_Tp zy_Tp_setPart zy_Tp_setPart ∈ zB := zm (i := 14) zT_0 rfl rfl
theorem zk_Tp_readDigit : zCal zy_Tp_readDigit zb_Tp_readDigit 6 (some .boolean) 3 := ⟨zm (i := 4) zV3_10 rfl rfl, zm (i := 10) zV1_0 rfl rfl, zm (i := 5) zV3_10 rfl rfl, by decide +kernel⟩
theorem zs_Tp_readDigit : Cond.selects zr_Tp zy_Tp_readDigit zy_Tp_readDigit ∈ zB := zm (i := 16) zT_0 rfl rfl
theorem zk_Tp_readShape : zCal zy_Tp_readShape zb_Tp_readShape 3 (some .boolean) 0 := ⟨zm (i := 4) zV3_9 rfl rfl, zm (i := 10) zV1_0 rfl rfl, zm (i := 5) zV3_9 rfl rfl, by decide +kernel⟩
theorem zs_Tp_readShape : Cond.selects zr_Tp zy_Tp_readShape zy_Tp_readShape ∈ zB := zm (i := 12) zT_0 rfl rfl
theorem zk_Tp_readEffects : zCal zy_Tp_readEffects zb_Tp_readEffects 2 (some .boolean) 0 := ⟨zm (i := 8) zV3_10 rfl rfl, zm (i := 10) zV1_0 rfl rfl, zm (i := 9) zV3_10 rfl rfl, by decide +kernel⟩
theorem zs_Tp_readEffects : Cond.selects zr_Tp zy_Tp_readEffects zy_Tp_readEffects ∈ zB := zm (i := 17) zT_0 rfl rfl
theorem zk_Tp_readEffect : zCal zy_Tp_readEffect zb_Tp_readEffect 3 (some .boolean) 1 := ⟨zm (i := 12) zV3_10 rfl rfl, zm (i := 10) zV1_0 rfl rfl, zm (i := 13) zV3_10 rfl rfl, by decide +kernel⟩
theorem zs_Tp_readEffect : Cond.selects zr_Tp zy_Tp_readEffect zy_Tp_readEffect ∈ zB := zm (i := 18) zT_0 rfl rfl
theorem zk_Tp_readNumber : zCal zy_Tp_readNumber zb_Tp_readNumber 3 (some .boolean) 1 := ⟨zm (i := 0) zV3_11 rfl rfl, zm (i := 10) zV1_0 rfl rfl, zm (i := 1) zV3_11 rfl rfl, by decide +kernel⟩
theorem zs_Tp_readNumber : Cond.selects zr_Tp zy_Tp_readNumber zy_Tp_readNumber ∈ zB := zm (i := 19) zT_0 rfl rfl
theorem zk_Tp_readCost : zCal zy_Tp_readCost zb_Tp_readCost 1 (some .boolean) 0 := ⟨zm (i := 8) zV3_11 rfl rfl, zm (i := 10) zV1_0 rfl rfl, zm (i := 9) zV3_11 rfl rfl, by decide +kernel⟩
theorem zs_Tp_readCost : Cond.selects zr_Tp zy_Tp_readCost zy_Tp_readCost ∈ zB := zm (i := 20) zT_0 rfl rfl
theorem zk_Wa_init : zCal zy_Wa_init zb_Wa_init 1 none 0 := ⟨zm (i := 6) zV1_14 rfl rfl, zm (i := 11) zV1_0 rfl rfl, zm (i := 7) zV1_14 rfl rfl, by decide +kernel⟩
theorem zk_Wa_measure : zCal zy_Wa_measure zb_Wa_measure 5 (some .int) 3 := ⟨zm (i := 6) zV3_3 rfl rfl, zm (i := 11) zV1_0 rfl rfl, zm (i := 8) zV3_3 rfl rfl, by decide +kernel⟩
theorem zs_Wa_measure : Cond.selects zr_Wa zy_Wa_measure zy_Wa_measure ∈ zB := zm (i := 7) zV3_3 rfl rfl
theorem zk_Wa_markClosed : zCal zy_Wa_markClosed zb_Wa_markClosed 6 none 2 := ⟨zm (i := 11) zV3_3 rfl rfl, zm (i := 11) zV1_0 rfl rfl, zm (i := 12) zV3_3 rfl rfl, by decide +kernel⟩
theorem zs_Wa_markClosed : Cond.selects zr_Wa zy_Wa_markClosed zy_Wa_markClosed ∈ zB := zm (i := 7) zT_0 rfl rfl
theorem zk_Wa_reach : zCal zy_Wa_reach zb_Wa_reach 4 none 2 := ⟨zm (i := 7) zV3_4 rfl rfl, zm (i := 11) zV1_0 rfl rfl, zm (i := 8) zV3_4 rfl rfl, by decide +kernel⟩
theorem zs_Wa_reach : Cond.selects zr_Wa zy_Wa_reach zy_Wa_reach ∈ zB := zm (i := 8) zT_0 rfl rfl
theorem zk_Wa_reachNeighbors : zCal zy_Wa_reachNeighbors zb_Wa_reachNeighbors 6 none 1 := ⟨zm (i := 11) zV3_4 rfl rfl, zm (i := 11) zV1_0 rfl rfl, zm (i := 12) zV3_4 rfl rfl, by decide +kernel⟩
theorem zs_Wa_reachNeighbors : Cond.selects zr_Wa zy_Wa_reachNeighbors zy_Wa_reachNeighbors ∈ zB := zm (i := 9) zT_0 rfl rfl
theorem zk_EL_init : zCal zy_EL_init zb_EL_init 1 none 0 := ⟨zm (i := 2) zV1_1 rfl rfl, zm (i := 1) zV1_0 rfl rfl, zm (i := 3) zV1_1 rfl rfl, by decide +kernel⟩
theorem zk_EL_add : zCal zy_EL_add zb_EL_add 7 (some .int) 5 := ⟨zm (i := 10) zV2_1 rfl rfl, zm (i := 1) zV1_0 rfl rfl, zm (i := 12) zV2_1 rfl rfl, by decide +kernel⟩
theorem zs_EL_add : Cond.selects zr_EL zy_EL_add zy_EL_add ∈ zB := zm (i := 11) zV2_1 rfl rfl
theorem zk_EL_wall : zCal zy_EL_wall zb_EL_wall 3 (some .int) 1 := ⟨zm (i := 2) zV2_7 rfl rfl, zm (i := 1) zV1_0 rfl rfl, zm (i := 4) zV2_7 rfl rfl, by decide +kernel⟩
theorem zs_EL_wall : Cond.selects zr_EL zy_EL_wall zy_EL_wall ∈ zB := zm (i := 3) zV2_7 rfl rfl
theorem zk_EL_amount : zCal zy_EL_amount zb_EL_amount 5 (some .int) 3 := ⟨zm (i := 9) zV2_7 rfl rfl, zm (i := 1) zV1_0 rfl rfl, zm (i := 11) zV2_7 rfl rfl, by decide +kernel⟩
theorem zs_EL_amount : Cond.selects zr_EL zy_EL_amount zy_EL_amount ∈ zB := zm (i := 10) zV2_7 rfl rfl
theorem zk_EL_begin : zCal zy_EL_begin zb_EL_begin 2 (some .int) 1 := ⟨zm (i := 1) zV2_9 rfl rfl, zm (i := 1) zV1_0 rfl rfl, zm (i := 3) zV2_9 rfl rfl, by decide +kernel⟩
theorem zs_EL_begin : Cond.selects zr_EL zy_EL_begin zy_EL_begin ∈ zB := zm (i := 2) zV2_9 rfl rfl
theorem zk_EL_finish : zCal zy_EL_finish zb_EL_finish 2 (some .int) 0 := ⟨zm (i := 4) zV2_14 rfl rfl, zm (i := 1) zV1_0 rfl rfl, zm (i := 6) zV2_14 rfl rfl, by decide +kernel⟩
theorem zs_EL_finish : Cond.selects zr_EL zy_EL_finish zy_EL_finish ∈ zB := zm (i := 5) zV2_14 rfl rfl
theorem zk_EL_endTurn : zCal zy_EL_endTurn zb_EL_endTurn 1 (some .int) 0 := ⟨zm (i := 1) zV3_0 rfl rfl, zm (i := 1) zV1_0 rfl rfl, zm (i := 3) zV3_0 rfl rfl, by decide +kernel⟩
theorem zs_EL_endTurn : Cond.selects zr_EL zy_EL_endTurn zy_EL_endTurn ∈ zB := zm (i := 2) zV3_0 rfl rfl
theorem zk_EL_delay : zCal zy_EL_delay zb_EL_delay 3 (some .int) 1 := ⟨zm (i := 14) zV3_0 rfl rfl, zm (i := 1) zV1_0 rfl rfl, zm (i := 0) zV3_1 rfl rfl, by decide +kernel⟩
theorem zs_EL_delay : Cond.selects zr_EL zy_EL_delay zy_EL_delay ∈ zB := zm (i := 15) zV3_0 rfl rfl
theorem zk_EL_move : zCal zy_EL_move zb_EL_move 4 (some .int) 1 := ⟨zm (i := 2) zV3_3 rfl rfl, zm (i := 1) zV1_0 rfl rfl, zm (i := 4) zV3_3 rfl rfl, by decide +kernel⟩
theorem zs_EL_move : Cond.selects zr_EL zy_EL_move zy_EL_move ∈ zB := zm (i := 3) zV3_3 rfl rfl
theorem zk_EL_strike : zCal zy_EL_strike zb_EL_strike 3 (some .int) 1 := ⟨zm (i := 14) zV3_5 rfl rfl, zm (i := 1) zV1_0 rfl rfl, zm (i := 0) zV3_6 rfl rfl, by decide +kernel⟩
theorem zs_EL_strike : Cond.selects zr_EL zy_EL_strike zy_EL_strike ∈ zB := zm (i := 15) zV3_5 rfl rfl
theorem zk_EL_feed : zCal zy_EL_feed zb_EL_feed 9 (some .int) 6 := ⟨zm (i := 8) zV3_7 rfl rfl, zm (i := 1) zV1_0 rfl rfl, zm (i := 10) zV3_7 rfl rfl, by decide +kernel⟩
theorem zs_EL_feed : Cond.selects zr_EL zy_EL_feed zy_EL_feed ∈ zB := zm (i := 9) zV3_7 rfl rfl
theorem zk_EL_power : zCal zy_EL_power zb_EL_power 5 (some .int) 1 := ⟨zm (i := 7) zV3_8 rfl rfl, zm (i := 1) zV1_0 rfl rfl, zm (i := 9) zV3_8 rfl rfl, by decide +kernel⟩
theorem zs_EL_power : Cond.selects zr_EL zy_EL_power zy_EL_power ∈ zB := zm (i := 8) zV3_8 rfl rfl
theorem zk_EL_cast : zCal zy_EL_cast zb_EL_cast 11 (some .int) 3 := ⟨zm (i := 0) zV3_12 rfl rfl, zm (i := 1) zV1_0 rfl rfl, zm (i := 2) zV3_12 rfl rfl, by decide +kernel⟩
theorem zs_EL_cast : Cond.selects zr_EL zy_EL_cast zy_EL_cast ∈ zB := zm (i := 1) zV3_12 rfl rfl
theorem zk_EL_rest : zCal zy_EL_rest zb_EL_rest 4 (some .int) 1 := ⟨zm (i := 10) zV3_14 rfl rfl, zm (i := 1) zV1_0 rfl rfl, zm (i := 12) zV3_14 rfl rfl, by decide +kernel⟩
theorem zs_EL_rest : Cond.selects zr_EL zy_EL_rest zy_EL_rest ∈ zB := zm (i := 11) zV3_14 rfl rfl
theorem zk_EL_fighter : zCal zy_EL_fighter zb_EL_fighter 3 (some .int) 2 := ⟨zm (i := 15) zV4_0 rfl rfl, zm (i := 1) zV1_0 rfl rfl, zm (i := 1) zV4_1 rfl rfl, by decide +kernel⟩
theorem zs_EL_fighter : Cond.selects zr_EL zy_EL_fighter zy_EL_fighter ∈ zB := zm (i := 0) zV4_1 rfl rfl
theorem zk_EL_turn : zCal zy_EL_turn zb_EL_turn 2 (some .int) 1 := ⟨zm (i := 8) zV4_1 rfl rfl, zm (i := 1) zV1_0 rfl rfl, zm (i := 10) zV4_1 rfl rfl, by decide +kernel⟩
theorem zs_EL_turn : Cond.selects zr_EL zy_EL_turn zy_EL_turn ∈ zB := zm (i := 9) zV4_1 rfl rfl
theorem zk_EL_condition : zCal zy_EL_condition zb_EL_condition 3 (some .int) 2 := ⟨zm (i := 0) zV4_2 rfl rfl, zm (i := 1) zV1_0 rfl rfl, zm (i := 2) zV4_2 rfl rfl, by decide +kernel⟩
theorem zs_EL_condition : Cond.selects zr_EL zy_EL_condition zy_EL_condition ∈ zB := zm (i := 1) zV4_2 rfl rfl
theorem zk_EL_area : zCal zy_EL_area zb_EL_area 8 (some .int) 5 := ⟨zm (i := 1) zV4_3 rfl rfl, zm (i := 1) zV1_0 rfl rfl, zm (i := 3) zV4_3 rfl rfl, by decide +kernel⟩
theorem zs_EL_area : Cond.selects zr_EL zy_EL_area zy_EL_area ∈ zB := zm (i := 2) zV4_3 rfl rfl
theorem zk_EL_way : zCal zy_EL_way zb_EL_way 3 (some .int) 1 := ⟨zm (i := 5) zV4_3 rfl rfl, zm (i := 1) zV1_0 rfl rfl, zm (i := 7) zV4_3 rfl rfl, by decide +kernel⟩
theorem zs_EL_way : Cond.selects zr_EL zy_EL_way zy_EL_way ∈ zB := zm (i := 6) zV4_3 rfl rfl
theorem zk_EL_entry : zCal zy_EL_entry zb_EL_entry 3 (some .int) 2 := ⟨zm (i := 9) zV4_3 rfl rfl, zm (i := 1) zV1_0 rfl rfl, zm (i := 11) zV4_3 rfl rfl, by decide +kernel⟩
theorem zs_EL_entry : Cond.selects zr_EL zy_EL_entry zy_EL_entry ∈ zB := zm (i := 10) zV4_3 rfl rfl
theorem zk_EL_replayed : zCal zy_EL_replayed zb_EL_replayed 3 (some .int) 2 := ⟨zm (i := 5) zV4_4 rfl rfl, zm (i := 1) zV1_0 rfl rfl, zm (i := 7) zV4_4 rfl rfl, by decide +kernel⟩
theorem zs_EL_replayed : Cond.selects zr_EL zy_EL_replayed zy_EL_replayed ∈ zB := zm (i := 6) zV4_4 rfl rfl
theorem zk_EL_reason : zCal zy_EL_reason zb_EL_reason 1 (some .int) 0 := ⟨zm (i := 10) zV4_6 rfl rfl, zm (i := 1) zV1_0 rfl rfl, zm (i := 12) zV4_6 rfl rfl, by decide +kernel⟩
theorem zs_EL_reason : Cond.selects zr_EL zy_EL_reason zy_EL_reason ∈ zB := zm (i := 11) zV4_6 rfl rfl
theorem zk_EL_account : zCal zy_EL_account zb_EL_account 2 (some .int) 1 := ⟨zm (i := 14) zV4_6 rfl rfl, zm (i := 1) zV1_0 rfl rfl, zm (i := 0) zV4_7 rfl rfl, by decide +kernel⟩
theorem zs_EL_account : Cond.selects zr_EL zy_EL_account zy_EL_account ∈ zB := zm (i := 15) zV4_6 rfl rfl
theorem zk_EL_back : zCal zy_EL_back zb_EL_back 1 (some .int) 0 := ⟨zm (i := 14) zV4_7 rfl rfl, zm (i := 1) zV1_0 rfl rfl, zm (i := 0) zV4_8 rfl rfl, by decide +kernel⟩
theorem zs_EL_back : Cond.selects zr_EL zy_EL_back zy_EL_back ∈ zB := zm (i := 15) zV4_7 rfl rfl
theorem zk_EL_image : zCal zy_EL_image zb_EL_image 1 (some .int) 0 := ⟨zm (i := 6) zV4_8 rfl rfl, zm (i := 1) zV1_0 rfl rfl, zm (i := 8) zV4_8 rfl rfl, by decide +kernel⟩
theorem zs_EL_image : Cond.selects zr_EL zy_EL_image zy_EL_image ∈ zB := zm (i := 7) zV4_8 rfl rfl
theorem zk_EL_undo : zCal zy_EL_undo zb_EL_undo 1 (some .int) 0 := ⟨zm (i := 11) zV4_8 rfl rfl, zm (i := 1) zV1_0 rfl rfl, zm (i := 13) zV4_8 rfl rfl, by decide +kernel⟩
theorem zs_EL_undo : Cond.selects zr_EL zy_EL_undo zy_EL_undo ∈ zB := zm (i := 12) zV4_8 rfl rfl
theorem zk_EL_count : zCal zy_EL_count zb_EL_count 2 (some .int) 1 := ⟨zm (i := 3) zV4_9 rfl rfl, zm (i := 1) zV1_0 rfl rfl, zm (i := 5) zV4_9 rfl rfl, by decide +kernel⟩
theorem zs_EL_count : Cond.selects zr_EL zy_EL_count zy_EL_count ∈ zB := zm (i := 4) zV4_9 rfl rfl
theorem zk_EL_isCell : zCas zy_EL_isCell zb_EL_isCell 1 (some .boolean) 1 := ⟨zm (i := 14) zV2_1 rfl rfl, zm (i := 1) zV1_0 rfl rfl, zm (i := 15) zV2_1 rfl rfl, by decide +kernel⟩
theorem zk_EL_isDirection : zCas zy_EL_isDirection zb_EL_isDirection 1 (some .boolean) 1 := ⟨zm (i := 4) zV3_12 rfl rfl, zm (i := 1) zV1_0 rfl rfl, zm (i := 5) zV3_12 rfl rfl, by decide +kernel⟩
theorem zk_EL_isByte : zCas zy_EL_isByte zb_EL_isByte 1 (some .boolean) 1 := ⟨zm (i := 12) zV3_7 rfl rfl, zm (i := 1) zV1_0 rfl rfl, zm (i := 13) zV3_7 rfl rfl, by decide +kernel⟩
theorem zk_EL_refuse : zCal zy_EL_refuse zb_EL_refuse 2 (some .int) 1 := ⟨zm (i := 3) zV2_3 rfl rfl, zm (i := 1) zV1_0 rfl rfl, zm (i := 4) zV2_3 rfl rfl, by decide +kernel⟩
theorem zs_EL_refuse : Cond.selects zr_EL zy_EL_refuse zy_EL_refuse ∈ zB := zm (i := 0) zT_0 rfl rfl
theorem zk_EL_whyCannotAct : zCal zy_EL_whyCannotAct zb_EL_whyCannotAct 1 (some .int) 0 := ⟨zm (i := 7) zV3_1 rfl rfl, zm (i := 1) zV1_0 rfl rfl, zm (i := 8) zV3_1 rfl rfl, by decide +kernel⟩
theorem zs_EL_whyCannotAct : Cond.selects zr_EL zy_EL_whyCannotAct zy_EL_whyCannotAct ∈ zB := zm (i := 6) zT_0 rfl rfl
theorem zk_EL_whyNoAct : zCal zy_EL_whyNoAct zb_EL_whyNoAct 2 (some .int) 0 := ⟨zm (i := 3) zV3_1 rfl rfl, zm (i := 1) zV1_0 rfl rfl, zm (i := 4) zV3_1 rfl rfl, by decide +kernel⟩
theorem zs_EL_whyNoAct : Cond.selects zr_EL zy_EL_whyNoAct zy_EL_whyNoAct ∈ zB := zm (i := 5) zT_0 rfl rfl
theorem zk_EL_whyNoCast : zCal zy_EL_whyNoCast zb_EL_whyNoCast 5 (some .int) 1 := ⟨zm (i := 8) zV3_12 rfl rfl, zm (i := 1) zV1_0 rfl rfl, zm (i := 9) zV3_12 rfl rfl, by decide +kernel⟩
theorem zs_EL_whyNoCast : Cond.selects zr_EL zy_EL_whyNoCast zy_EL_whyNoCast ∈ zB := zm (i := 21) zT_0 rfl rfl
theorem zk_EL_canBeStruck : zCal zy_EL_canBeStruck zb_EL_canBeStruck 3 (some .boolean) 1 := ⟨zm (i := 3) zV3_6 rfl rfl, zm (i := 1) zV1_0 rfl rfl, zm (i := 4) zV3_6 rfl rfl, by decide +kernel⟩
theorem zs_EL_canBeStruck : Cond.selects zr_EL zy_EL_canBeStruck zy_EL_canBeStruck ∈ zB := zm (i := 11) zT_0 rfl rfl
theorem zk_EL_stepsLeft : zCal zy_EL_stepsLeft zb_EL_stepsLeft 4 (some .int) 0 := ⟨zm (i := 5) zV3_5 rfl rfl, zm (i := 1) zV1_0 rfl rfl, zm (i := 6) zV3_5 rfl rfl, by decide +kernel⟩
theorem zs_EL_stepsLeft : Cond.selects zr_EL zy_EL_stepsLeft zy_EL_stepsLeft ∈ zB := zm (i := 10) zT_0 rfl rfl
theorem zk_EL_isMet : zCal zy_EL_isMet zb_EL_isMet 5 (some .boolean) 4 := ⟨zm (i := 0) zV3_13 rfl rfl, zm (i := 1) zV1_0 rfl rfl, zm (i := 1) zV3_13 rfl rfl, by decide +kernel⟩
theorem zs_EL_isMet : Cond.selects zr_EL zy_EL_isMet zy_EL_isMet ∈ zB := zm (i := 23) zT_0 rfl rfl
theorem zk_EL_countMet : zCal zy_EL_countMet zb_EL_countMet 6 (some .int) 3 := ⟨zm (i := 12) zV3_12 rfl rfl, zm (i := 1) zV1_0 rfl rfl, zm (i := 13) zV3_12 rfl rfl, by decide +kernel⟩
theorem zs_EL_countMet : Cond.selects zr_EL zy_EL_countMet zy_EL_countMet ∈ zB := zm (i := 22) zT_0 rfl rfl
theorem zk_EL_spread : zCal zy_EL_spread zb_EL_spread 12 none 4 := ⟨zm (i := 8) zV3_13 rfl rfl, zm (i := 1) zV1_0 rfl rfl, zm (i := 9) zV3_13 rfl rfl, by decide +kernel⟩
theorem zs_EL_spread : Cond.selects zr_EL zy_EL_spread zy_EL_spread ∈ zB := zm (i := 24) zT_0 rfl rfl
theorem zk_EL_setOfPowers : zCal zy_EL_setOfPowers zb_EL_setOfPowers 3 (some .int) 0 := ⟨zm (i := 8) zV4_9 rfl rfl, zm (i := 1) zV1_0 rfl rfl, zm (i := 9) zV4_9 rfl rfl, by decide +kernel⟩
theorem zs_EL_setOfPowers : Cond.selects zr_EL zy_EL_setOfPowers zy_EL_setOfPowers ∈ zB := zm (i := 29) zT_0 rfl rfl
theorem zk_EL_columnStep : zCas zy_EL_columnStep zb_EL_columnStep 1 (some .int) 1 := ⟨zm (i := 14) zV3_4 rfl rfl, zm (i := 1) zV1_0 rfl rfl, zm (i := 15) zV3_4 rfl rfl, by decide +kernel⟩
theorem zk_EL_rowStep : zCas zy_EL_rowStep zb_EL_rowStep 1 (some .int) 1 := ⟨zm (i := 1) zV3_5 rfl rfl, zm (i := 1) zV1_0 rfl rfl, zm (i := 2) zV3_5 rfl rfl, by decide +kernel⟩
theorem zk_EL_isInArea : zCas zy_EL_isInArea zb_EL_isInArea 9 (some .boolean) 5 := ⟨zm (i := 8) zV3_6 rfl rfl, zm (i := 1) zV1_0 rfl rfl, zm (i := 9) zV3_6 rfl rfl, by decide +kernel⟩
theorem zk_Mo_init : zCal zy_Mo_init zb_Mo_init 1 none 0 := ⟨zm (i := 14) zV4_9 rfl rfl, zm (i := 12) zV1_0 rfl rfl, zm (i := 15) zV4_9 rfl rfl, by decide +kernel⟩
theorem zk_Mo_isBetween : zCas zy_Mo_isBetween zb_Mo_isBetween 3 (some .boolean) 3 := ⟨zm (i := 2) zV5_4 rfl rfl, zm (i := 12) zV1_0 rfl rfl, zm (i := 3) zV5_4 rfl rfl, by decide +kernel⟩
theorem zk_Mo_isFighter : zCal zy_Mo_isFighter zb_Mo_isFighter 2 (some .boolean) 1 := ⟨zm (i := 5) zV5_7 rfl rfl, zm (i := 12) zV1_0 rfl rfl, zm (i := 6) zV5_7 rfl rfl, by decide +kernel⟩
theorem zs_Mo_isFighter : Cond.selects zr_Mo zy_Mo_isFighter zy_Mo_isFighter ∈ zB := zm (i := 39) zT_0 rfl rfl
theorem zk_Mo_isCell : zCas zy_Mo_isCell zb_Mo_isCell 1 (some .boolean) 1 := ⟨zm (i := 5) zV5_4 rfl rfl, zm (i := 12) zV1_0 rfl rfl, zm (i := 6) zV5_4 rfl rfl, by decide +kernel⟩
theorem zk_Mo_beside : zCas zy_Mo_beside zb_Mo_beside 4 (some .int) 2 := ⟨zm (i := 9) zV5_12 rfl rfl, zm (i := 12) zV1_0 rfl rfl, zm (i := 10) zV5_12 rfl rfl, by decide +kernel⟩
theorem zk_Mo_fighterOn : zCal zy_Mo_fighterOn zb_Mo_fighterOn 3 (some .int) 1 := ⟨zm (i := 13) zV5_4 rfl rfl, zm (i := 12) zV1_0 rfl rfl, zm (i := 14) zV5_4 rfl rfl, by decide +kernel⟩
theorem zs_Mo_fighterOn : Cond.selects zr_Mo zy_Mo_fighterOn zy_Mo_fighterOn ∈ zB := zm (i := 31) zT_0 rfl rfl
theorem zk_Mo_isFree : zCal zy_Mo_isFree zb_Mo_isFree 2 (some .boolean) 1 := ⟨zm (i := 9) zV5_4 rfl rfl, zm (i := 12) zV1_0 rfl rfl, zm (i := 10) zV5_4 rfl rfl, by decide +kernel⟩
theorem zs_Mo_isFree : Cond.selects zr_Mo zy_Mo_isFree zy_Mo_isFree ∈ zB := zm (i := 30) zT_0 rfl rfl
theorem zk_Mo_isDown : zCal zy_Mo_isDown zb_Mo_isDown 2 (some .boolean) 1 := ⟨zm (i := 2) zV5_10 rfl rfl, zm (i := 12) zV1_0 rfl rfl, zm (i := 3) zV5_10 rfl rfl, by decide +kernel⟩
theorem zs_Mo_isDown : Cond.selects zr_Mo zy_Mo_isDown zy_Mo_isDown ∈ zB := zm (i := 49) zT_0 rfl rfl
theorem zk_Mo_refuses : zCal zy_Mo_refuses zb_Mo_refuses 2 (some .int) 1 := ⟨zm (i := 1) zV5_5 rfl rfl, zm (i := 12) zV1_0 rfl rfl, zm (i := 2) zV5_5 rfl rfl, by decide +kernel⟩
theorem zs_Mo_refuses : Cond.selects zr_Mo zy_Mo_refuses zy_Mo_refuses ∈ zB := zm (i := 32) zT_0 rfl rfl
theorem zk_Mo_notes : zCal zy_Mo_notes zb_Mo_notes 4 none 3 := ⟨zm (i := 9) zV5_6 rfl rfl, zm (i := 12) zV1_0 rfl rfl, zm (i := 10) zV5_6 rfl rfl, by decide +kernel⟩
theorem zs_Mo_notes : Cond.selects zr_Mo zy_Mo_notes zy_Mo_notes ∈ zB := zm (i := 38) zT_0 rfl rfl
theorem zk_Mo_packed : zCas zy_Mo_packed zb_Mo_packed 6 (some .int) 6 := ⟨zm (i := 8) zV6_3 rfl rfl, zm (i := 12) zV1_0 rfl rfl, zm (i := 9) zV6_3 rfl rfl, by decide +kernel⟩
theorem zk_Mo_partOf : zCal zy_Mo_partOf zb_Mo_partOf 4 (some .int) 2 := ⟨zm (i := 2) zV5_9 rfl rfl, zm (i := 12) zV1_0 rfl rfl, zm (i := 3) zV5_9 rfl rfl, by decide +kernel⟩
theorem zs_Mo_partOf : Cond.selects zr_Mo zy_Mo_partOf zy_Mo_partOf ∈ zB := zm (i := 45) zT_0 rfl rfl
theorem zk_Mo_sumOf : zCal zy_Mo_sumOf zb_Mo_sumOf 5 (some .int) 2 := ⟨zm (i := 6) zV5_10 rfl rfl, zm (i := 12) zV1_0 rfl rfl, zm (i := 7) zV5_10 rfl rfl, by decide +kernel⟩
theorem zs_Mo_sumOf : Cond.selects zr_Mo zy_Mo_sumOf zy_Mo_sumOf ∈ zB := zm (i := 50) zT_0 rfl rfl
theorem zk_Mo_endsAt : zCal zy_Mo_endsAt zb_Mo_endsAt 3 (some .int) 1 := ⟨zm (i := 6) zV5_9 rfl rfl, zm (i := 12) zV1_0 rfl rfl, zm (i := 7) zV5_9 rfl rfl, by decide +kernel⟩
theorem zs_Mo_endsAt : Cond.selects zr_Mo zy_Mo_endsAt zy_Mo_endsAt ∈ zB := zm (i := 46) zT_0 rfl rfl
theorem zk_Mo_makes : zCal zy_Mo_makes zb_Mo_makes 10 none 6 := ⟨zm (i := 5) zV6_3 rfl rfl, zm (i := 12) zV1_0 rfl rfl, zm (i := 6) zV6_3 rfl rfl, by decide +kernel⟩
theorem zs_Mo_makes : Cond.selects zr_Mo zy_Mo_makes zy_Mo_makes ∈ zB := zm (i := 68) zT_0 rfl rfl
theorem zk_Mo_canAct : zCal zy_Mo_canAct zb_Mo_canAct 2 (some .boolean) 1 := ⟨zm (i := 10) zV5_11 rfl rfl, zm (i := 12) zV1_0 rfl rfl, zm (i := 11) zV5_11 rfl rfl, by decide +kernel⟩
theorem zs_Mo_canAct : Cond.selects zr_Mo zy_Mo_canAct zy_Mo_canAct ∈ zB := zm (i := 52) zT_0 rfl rfl
theorem zk_Mo_counts : zCal zy_Mo_counts zb_Mo_counts 4 none 2 := ⟨zm (i := 14) zV5_8 rfl rfl, zm (i := 12) zV1_0 rfl rfl, zm (i := 15) zV5_8 rfl rfl, by decide +kernel⟩
theorem zs_Mo_counts : Cond.selects zr_Mo zy_Mo_counts zy_Mo_counts ∈ zB := zm (i := 44) zT_0 rfl rfl
theorem zk_Mo_harms : zCal zy_Mo_harms zb_Mo_harms 6 (some .int) 3 := ⟨zm (i := 14) zV5_9 rfl rfl, zm (i := 12) zV1_0 rfl rfl, zm (i := 15) zV5_9 rfl rfl, by decide +kernel⟩
theorem zs_Mo_harms : Cond.selects zr_Mo zy_Mo_harms zy_Mo_harms ∈ zB := zm (i := 48) zT_0 rfl rfl
theorem zk_Mo_mends : zCal zy_Mo_mends zb_Mo_mends 4 (some .int) 2 := ⟨zm (i := 1) zV6_3 rfl rfl, zm (i := 12) zV1_0 rfl rfl, zm (i := 2) zV6_3 rfl rfl, by decide +kernel⟩
theorem zs_Mo_mends : Cond.selects zr_Mo zy_Mo_mends zy_Mo_mends ∈ zB := zm (i := 67) zT_0 rfl rfl
theorem zk_Mo_current : zCal zy_Mo_current zb_Mo_current 1 (some .int) 0 := ⟨zm (i := 10) zV5_8 rfl rfl, zm (i := 12) zV1_0 rfl rfl, zm (i := 11) zV5_8 rfl rfl, by decide +kernel⟩
theorem zs_Mo_current : Cond.selects zr_Mo zy_Mo_current zy_Mo_current ∈ zB := zm (i := 43) zT_0 rfl rfl
theorem zk_Mo_draws : zCal zy_Mo_draws zb_Mo_draws 1 (some .int) 0 := ⟨zm (i := 13) zV5_7 rfl rfl, zm (i := 12) zV1_0 rfl rfl, zm (i := 14) zV5_7 rfl rfl, by decide +kernel⟩
theorem zs_Mo_draws : Cond.selects zr_Mo zy_Mo_draws zy_Mo_draws ∈ zB := zm (i := 40) zT_0 rfl rfl
theorem zk_Mo_placeOf : zCal zy_Mo_placeOf zb_Mo_placeOf 3 (some .int) 1 := ⟨zm (i := 14) zV5_11 rfl rfl, zm (i := 12) zV1_0 rfl rfl, zm (i := 15) zV5_11 rfl rfl, by decide +kernel⟩
theorem zs_Mo_placeOf : Cond.selects zr_Mo zy_Mo_placeOf zy_Mo_placeOf ∈ zB := zm (i := 53) zT_0 rfl rfl
theorem zk_Mo_beginsTurn : zCal zy_Mo_beginsTurn zb_Mo_beginsTurn 4 none 0 := ⟨zm (i := 6) zV5_8 rfl rfl, zm (i := 12) zV1_0 rfl rfl, zm (i := 7) zV5_8 rfl rfl, by decide +kernel⟩
theorem zs_Mo_beginsTurn : Cond.selects zr_Mo zy_Mo_beginsTurn zy_Mo_beginsTurn ∈ zB := zm (i := 42) zT_0 rfl rfl
theorem zk_Mo_poisonBy : zCal zy_Mo_poisonBy zb_Mo_poisonBy 4 (some .int) 2 := ⟨zm (i := 10) zV5_9 rfl rfl, zm (i := 12) zV1_0 rfl rfl, zm (i := 11) zV5_9 rfl rfl, by decide +kernel⟩
theorem zs_Mo_poisonBy : Cond.selects zr_Mo zy_Mo_poisonBy zy_Mo_poisonBy ∈ zB := zm (i := 47) zT_0 rfl rfl
theorem zk_Mo_passesTurn : zCal zy_Mo_passesTurn zb_Mo_passesTurn 1 none 0 := ⟨zm (i := 2) zV5_11 rfl rfl, zm (i := 12) zV1_0 rfl rfl, zm (i := 3) zV5_11 rfl rfl, by decide +kernel⟩
theorem zs_Mo_passesTurn : Cond.selects zr_Mo zy_Mo_passesTurn zy_Mo_passesTurn ∈ zB := zm (i := 51) zT_0 rfl rfl
theorem zk_Mo_add : zCal zy_Mo_add zb_Mo_add 8 (some .int) 5 := ⟨zm (i := 14) zV5_3 rfl rfl, zm (i := 12) zV1_0 rfl rfl, zm (i := 0) zV5_4 rfl rfl, by decide +kernel⟩
theorem zs_Mo_add : Cond.selects zr_Mo zy_Mo_add zy_Mo_add ∈ zB := zm (i := 15) zV5_3 rfl rfl
theorem zk_Mo_wall : zCal zy_Mo_wall zb_Mo_wall 2 (some .int) 1 := ⟨zm (i := 12) zV5_6 rfl rfl, zm (i := 12) zV1_0 rfl rfl, zm (i := 14) zV5_6 rfl rfl, by decide +kernel⟩
theorem zs_Mo_wall : Cond.selects zr_Mo zy_Mo_wall zy_Mo_wall ∈ zB := zm (i := 13) zV5_6 rfl rfl
theorem zk_Mo_amount : zCal zy_Mo_amount zb_Mo_amount 5 (some .int) 3 := ⟨zm (i := 0) zV5_7 rfl rfl, zm (i := 12) zV1_0 rfl rfl, zm (i := 2) zV5_7 rfl rfl, by decide +kernel⟩
theorem zs_Mo_amount : Cond.selects zr_Mo zy_Mo_amount zy_Mo_amount ∈ zB := zm (i := 1) zV5_7 rfl rfl
theorem zk_Mo_isAhead : zCal zy_Mo_isAhead zb_Mo_isAhead 3 (some .boolean) 2 := ⟨zm (i := 2) zV5_8 rfl rfl, zm (i := 12) zV1_0 rfl rfl, zm (i := 3) zV5_8 rfl rfl, by decide +kernel⟩
theorem zs_Mo_isAhead : Cond.selects zr_Mo zy_Mo_isAhead zy_Mo_isAhead ∈ zB := zm (i := 41) zT_0 rfl rfl
theorem zk_Mo_begin : zCal zy_Mo_begin zb_Mo_begin 4 (some .int) 1 := ⟨zm (i := 8) zV5_7 rfl rfl, zm (i := 12) zV1_0 rfl rfl, zm (i := 10) zV5_7 rfl rfl, by decide +kernel⟩
theorem zs_Mo_begin : Cond.selects zr_Mo zy_Mo_begin zy_Mo_begin ∈ zB := zm (i := 9) zV5_7 rfl rfl
theorem zk_Mo_finish : zCal zy_Mo_finish zb_Mo_finish 3 (some .int) 0 := ⟨zm (i := 9) zV5_10 rfl rfl, zm (i := 12) zV1_0 rfl rfl, zm (i := 11) zV5_10 rfl rfl, by decide +kernel⟩
theorem zs_Mo_finish : Cond.selects zr_Mo zy_Mo_finish zy_Mo_finish ∈ zB := zm (i := 10) zV5_10 rfl rfl
theorem zk_Mo_endTurn : zCal zy_Mo_endTurn zb_Mo_endTurn 2 (some .int) 0 := ⟨zm (i := 13) zV5_10 rfl rfl, zm (i := 12) zV1_0 rfl rfl, zm (i := 15) zV5_10 rfl rfl, by decide +kernel⟩
theorem zs_Mo_endTurn : Cond.selects zr_Mo zy_Mo_endTurn zy_Mo_endTurn ∈ zB := zm (i := 14) zV5_10 rfl rfl
theorem zk_Mo_delay : zCal zy_Mo_delay zb_Mo_delay 5 (some .int) 1 := ⟨zm (i := 5) zV5_11 rfl rfl, zm (i := 12) zV1_0 rfl rfl, zm (i := 7) zV5_11 rfl rfl, by decide +kernel⟩
theorem zs_Mo_delay : Cond.selects zr_Mo zy_Mo_delay zy_Mo_delay ∈ zB := zm (i := 6) zV5_11 rfl rfl
theorem zk_Mo_findSteps : zCal zy_Mo_findSteps zb_Mo_findSteps 6 none 0 := ⟨zm (i := 6) zV5_12 rfl rfl, zm (i := 12) zV1_0 rfl rfl, zm (i := 7) zV5_12 rfl rfl, by decide +kernel⟩
theorem zs_Mo_findSteps : Cond.selects zr_Mo zy_Mo_findSteps zy_Mo_findSteps ∈ zB := zm (i := 54) zT_0 rfl rfl
theorem zk_Mo_isHeld : zCal zy_Mo_isHeld zb_Mo_isHeld 4 (some .boolean) 2 := ⟨zm (i := 13) zV5_12 rfl rfl, zm (i := 12) zV1_0 rfl rfl, zm (i := 14) zV5_12 rfl rfl, by decide +kernel⟩
theorem zs_Mo_isHeld : Cond.selects zr_Mo zy_Mo_isHeld zy_Mo_isHeld ∈ zB := zm (i := 55) zT_0 rfl rfl
theorem zk_Mo_left : zCal zy_Mo_left zb_Mo_left 3 (some .int) 0 := ⟨zm (i := 1) zV5_13 rfl rfl, zm (i := 12) zV1_0 rfl rfl, zm (i := 2) zV5_13 rfl rfl, by decide +kernel⟩
theorem zs_Mo_left : Cond.selects zr_Mo zy_Mo_left zy_Mo_left ∈ zB := zm (i := 56) zT_0 rfl rfl
theorem zk_Mo_move : zCal zy_Mo_move zb_Mo_move 3 (some .int) 1 := ⟨zm (i := 1) zV5_12 rfl rfl, zm (i := 12) zV1_0 rfl rfl, zm (i := 3) zV5_12 rfl rfl, by decide +kernel⟩
theorem zs_Mo_move : Cond.selects zr_Mo zy_Mo_move zy_Mo_move ∈ zB := zm (i := 2) zV5_12 rfl rfl
theorem zk_Mo_way : zCal zy_Mo_way zb_Mo_way 2 (some .int) 1 := ⟨zm (i := 4) zV5_13 rfl rfl, zm (i := 12) zV1_0 rfl rfl, zm (i := 6) zV5_13 rfl rfl, by decide +kernel⟩
theorem zs_Mo_way : Cond.selects zr_Mo zy_Mo_way zy_Mo_way ∈ zB := zm (i := 5) zV5_13 rfl rfl
theorem zk_Mo_areNeighbors : zCal zy_Mo_areNeighbors zb_Mo_areNeighbors 4 (some .boolean) 2 := ⟨zm (i := 13) zV5_13 rfl rfl, zm (i := 12) zV1_0 rfl rfl, zm (i := 14) zV5_13 rfl rfl, by decide +kernel⟩
theorem zs_Mo_areNeighbors : Cond.selects zr_Mo zy_Mo_areNeighbors zy_Mo_areNeighbors ∈ zB := zm (i := 57) zT_0 rfl rfl
theorem zk_Mo_strike : zCal zy_Mo_strike zb_Mo_strike 3 (some .int) 1 := ⟨zm (i := 8) zV5_13 rfl rfl, zm (i := 12) zV1_0 rfl rfl, zm (i := 10) zV5_13 rfl rfl, by decide +kernel⟩
theorem zs_Mo_strike : Cond.selects zr_Mo zy_Mo_strike zy_Mo_strike ∈ zB := zm (i := 9) zV5_13 rfl rfl
theorem zk_Mo_feed : zCal zy_Mo_feed zb_Mo_feed 7 (some .int) 6 := ⟨zm (i := 0) zV5_14 rfl rfl, zm (i := 12) zV1_0 rfl rfl, zm (i := 2) zV5_14 rfl rfl, by decide +kernel⟩
theorem zs_Mo_feed : Cond.selects zr_Mo zy_Mo_feed zy_Mo_feed ∈ zB := zm (i := 1) zV5_14 rfl rfl
theorem zk_Mo_isByte : zCas zy_Mo_isByte zb_Mo_isByte 1 (some .boolean) 1 := ⟨zm (i := 4) zV5_14 rfl rfl, zm (i := 12) zV1_0 rfl rfl, zm (i := 5) zV5_14 rfl rfl, by decide +kernel⟩
theorem zk_Mo_comes : zCal zy_Mo_comes zb_Mo_comes 3 none 2 := ⟨zm (i := 8) zV5_14 rfl rfl, zm (i := 12) zV1_0 rfl rfl, zm (i := 9) zV5_14 rfl rfl, by decide +kernel⟩
theorem zs_Mo_comes : Cond.selects zr_Mo zy_Mo_comes zy_Mo_comes ∈ zB := zm (i := 58) zT_0 rfl rfl
theorem zk_Mo_skips : zCal zy_Mo_skips zb_Mo_skips 2 (some .boolean) 1 := ⟨zm (i := 11) zV6_0 rfl rfl, zm (i := 12) zV1_0 rfl rfl, zm (i := 12) zV6_0 rfl rfl, by decide +kernel⟩
theorem zs_Mo_skips : Cond.selects zr_Mo zy_Mo_skips zy_Mo_skips ∈ zB := zm (i := 61) zT_0 rfl rfl
theorem zk_Mo_takes : zCal zy_Mo_takes zb_Mo_takes 4 (some .boolean) 3 := ⟨zm (i := 7) zV6_0 rfl rfl, zm (i := 12) zV1_0 rfl rfl, zm (i := 8) zV6_0 rfl rfl, by decide +kernel⟩
theorem zs_Mo_takes : Cond.selects zr_Mo zy_Mo_takes zy_Mo_takes ∈ zB := zm (i := 60) zT_0 rfl rfl
theorem zk_Mo_takesNumber : zCal zy_Mo_takesNumber zb_Mo_takesNumber 3 (some .boolean) 1 := ⟨zm (i := 3) zV6_1 rfl rfl, zm (i := 12) zV1_0 rfl rfl, zm (i := 4) zV6_1 rfl rfl, by decide +kernel⟩
theorem zs_Mo_takesNumber : Cond.selects zr_Mo zy_Mo_takesNumber zy_Mo_takesNumber ∈ zB := zm (i := 63) zT_0 rfl rfl
theorem zk_Mo_takesEffect : zCal zy_Mo_takesEffect zb_Mo_takesEffect 3 (some .boolean) 0 := ⟨zm (i := 15) zV6_0 rfl rfl, zm (i := 12) zV1_0 rfl rfl, zm (i := 0) zV6_1 rfl rfl, by decide +kernel⟩
theorem zs_Mo_takesEffect : Cond.selects zr_Mo zy_Mo_takesEffect zy_Mo_takesEffect ∈ zB := zm (i := 62) zT_0 rfl rfl
theorem zk_Mo_shapeOf : zCas zy_Mo_shapeOf zb_Mo_shapeOf 1 (some .int) 1 := ⟨zm (i := 3) zV6_0 rfl rfl, zm (i := 12) zV1_0 rfl rfl, zm (i := 4) zV6_0 rfl rfl, by decide +kernel⟩
theorem zk_Mo_takesPower : zCal zy_Mo_takesPower zb_Mo_takesPower 2 (some .boolean) 0 := ⟨zm (i := 0) zV6_0 rfl rfl, zm (i := 12) zV1_0 rfl rfl, zm (i := 1) zV6_0 rfl rfl, by decide +kernel⟩
theorem zs_Mo_takesPower : Cond.selects zr_Mo zy_Mo_takesPower zy_Mo_takesPower ∈ zB := zm (i := 59) zT_0 rfl rfl
theorem zk_Mo_power : zCal zy_Mo_power zb_Mo_power 4 (some .int) 1 := ⟨zm (i := 11) zV5_14 rfl rfl, zm (i := 12) zV1_0 rfl rfl, zm (i := 13) zV5_14 rfl rfl, by decide +kernel⟩
theorem zs_Mo_power : Cond.selects zr_Mo zy_Mo_power zy_Mo_power ∈ zB := zm (i := 12) zV5_14 rfl rfl
theorem zk_Mo_distance : zCas zy_Mo_distance zb_Mo_distance 2 (some .int) 2 := ⟨zm (i := 1) zV6_2 rfl rfl, zm (i := 12) zV1_0 rfl rfl, zm (i := 2) zV6_2 rfl rfl, by decide +kernel⟩
theorem zk_Mo_findArea : zCal zy_Mo_findArea zb_Mo_findArea 7 (some .int) 4 := ⟨zm (i := 11) zV6_1 rfl rfl, zm (i := 12) zV1_0 rfl rfl, zm (i := 12) zV6_1 rfl rfl, by decide +kernel⟩
theorem zs_Mo_findArea : Cond.selects zr_Mo zy_Mo_findArea zy_Mo_findArea ∈ zB := zm (i := 64) zT_0 rfl rfl
theorem zk_Mo_isWithin : zCas zy_Mo_isWithin zb_Mo_isWithin 9 (some .boolean) 5 := ⟨zm (i := 14) zV6_1 rfl rfl, zm (i := 12) zV1_0 rfl rfl, zm (i := 15) zV6_1 rfl rfl, by decide +kernel⟩
theorem zk_Mo_area : zCal zy_Mo_area zb_Mo_area 9 (some .int) 5 := ⟨zm (i := 6) zV6_1 rfl rfl, zm (i := 12) zV1_0 rfl rfl, zm (i := 8) zV6_1 rfl rfl, by decide +kernel⟩
theorem zs_Mo_area : Cond.selects zr_Mo zy_Mo_area zy_Mo_area ∈ zB := zm (i := 7) zV6_1 rfl rfl
theorem zk_Mo_affects : zCal zy_Mo_affects zb_Mo_affects 6 none 3 := ⟨zm (i := 13) zV6_2 rfl rfl, zm (i := 12) zV1_0 rfl rfl, zm (i := 14) zV6_2 rfl rfl, by decide +kernel⟩
theorem zs_Mo_affects : Cond.selects zr_Mo zy_Mo_affects zy_Mo_affects ∈ zB := zm (i := 66) zT_0 rfl rfl
theorem zk_Mo_inTurn : zCal zy_Mo_inTurn zb_Mo_inTurn 4 (some .int) 1 := ⟨zm (i := 9) zV6_2 rfl rfl, zm (i := 12) zV1_0 rfl rfl, zm (i := 10) zV6_2 rfl rfl, by decide +kernel⟩
theorem zs_Mo_inTurn : Cond.selects zr_Mo zy_Mo_inTurn zy_Mo_inTurn ∈ zB := zm (i := 65) zT_0 rfl rfl
theorem zk_Mo_cast : zCal zy_Mo_cast zb_Mo_cast 11 (some .int) 3 := ⟨zm (i := 4) zV6_2 rfl rfl, zm (i := 12) zV1_0 rfl rfl, zm (i := 6) zV6_2 rfl rfl, by decide +kernel⟩
theorem zs_Mo_cast : Cond.selects zr_Mo zy_Mo_cast zy_Mo_cast ∈ zB := zm (i := 5) zV6_2 rfl rfl
theorem zk_Mo_refills : zCal zy_Mo_refills zb_Mo_refills 5 none 2 := ⟨zm (i := 0) zV6_4 rfl rfl, zm (i := 12) zV1_0 rfl rfl, zm (i := 1) zV6_4 rfl rfl, by decide +kernel⟩
theorem zs_Mo_refills : Cond.selects zr_Mo zy_Mo_refills zy_Mo_refills ∈ zB := zm (i := 69) zT_0 rfl rfl
theorem zk_Mo_rest : zCal zy_Mo_rest zb_Mo_rest 5 (some .int) 1 := ⟨zm (i := 11) zV6_3 rfl rfl, zm (i := 12) zV1_0 rfl rfl, zm (i := 13) zV6_3 rfl rfl, by decide +kernel⟩
theorem zs_Mo_rest : Cond.selects zr_Mo zy_Mo_rest zy_Mo_rest ∈ zB := zm (i := 12) zV6_3 rfl rfl
theorem zk_Mo_fighter : zCal zy_Mo_fighter zb_Mo_fighter 3 (some .int) 2 := ⟨zm (i := 3) zV6_4 rfl rfl, zm (i := 12) zV1_0 rfl rfl, zm (i := 5) zV6_4 rfl rfl, by decide +kernel⟩
theorem zs_Mo_fighter : Cond.selects zr_Mo zy_Mo_fighter zy_Mo_fighter ∈ zB := zm (i := 4) zV6_4 rfl rfl
theorem zk_Mo_fighterMore : zCal zy_Mo_fighterMore zb_Mo_fighterMore 5 (some .int) 2 := ⟨zm (i := 8) zV6_4 rfl rfl, zm (i := 12) zV1_0 rfl rfl, zm (i := 9) zV6_4 rfl rfl, by decide +kernel⟩
theorem zs_Mo_fighterMore : Cond.selects zr_Mo zy_Mo_fighterMore zy_Mo_fighterMore ∈ zB := zm (i := 70) zT_0 rfl rfl
theorem zk_Mo_turn : zCal zy_Mo_turn zb_Mo_turn 2 (some .int) 1 := ⟨zm (i := 11) zV6_4 rfl rfl, zm (i := 12) zV1_0 rfl rfl, zm (i := 13) zV6_4 rfl rfl, by decide +kernel⟩
theorem zs_Mo_turn : Cond.selects zr_Mo zy_Mo_turn zy_Mo_turn ∈ zB := zm (i := 12) zV6_4 rfl rfl
theorem zk_Mo_condition : zCal zy_Mo_condition zb_Mo_condition 3 (some .int) 2 := ⟨zm (i := 15) zV6_4 rfl rfl, zm (i := 12) zV1_0 rfl rfl, zm (i := 1) zV6_5 rfl rfl, by decide +kernel⟩
theorem zs_Mo_condition : Cond.selects zr_Mo zy_Mo_condition zy_Mo_condition ∈ zB := zm (i := 0) zV6_5 rfl rfl
theorem zk_Mo_entryPart : zCal zy_Mo_entryPart zb_Mo_entryPart 3 (some .int) 2 := ⟨zm (i := 8) zV6_5 rfl rfl, zm (i := 12) zV1_0 rfl rfl, zm (i := 9) zV6_5 rfl rfl, by decide +kernel⟩
theorem zs_Mo_entryPart : Cond.selects zr_Mo zy_Mo_entryPart zy_Mo_entryPart ∈ zB := zm (i := 71) zT_0 rfl rfl
theorem zk_Mo_entry : zCal zy_Mo_entry zb_Mo_entry 4 (some .int) 2 := ⟨zm (i := 3) zV6_5 rfl rfl, zm (i := 12) zV1_0 rfl rfl, zm (i := 5) zV6_5 rfl rfl, by decide +kernel⟩
theorem zs_Mo_entry : Cond.selects zr_Mo zy_Mo_entry zy_Mo_entry ∈ zB := zm (i := 4) zV6_5 rfl rfl
theorem zk_Mo_replayed : zCal zy_Mo_replayed zb_Mo_replayed 5 (some .int) 2 := ⟨zm (i := 11) zV6_5 rfl rfl, zm (i := 12) zV1_0 rfl rfl, zm (i := 13) zV6_5 rfl rfl, by decide +kernel⟩
theorem zs_Mo_replayed : Cond.selects zr_Mo zy_Mo_replayed zy_Mo_replayed ∈ zB := zm (i := 12) zV6_5 rfl rfl
theorem zk_Mo_replays : zCas zy_Mo_replays zb_Mo_replays 4 (some .int) 4 := ⟨zm (i := 15) zV6_5 rfl rfl, zm (i := 12) zV1_0 rfl rfl, zm (i := 0) zV6_6 rfl rfl, by decide +kernel⟩
theorem zk_Mo_reason : zCal zy_Mo_reason zb_Mo_reason 1 (some .int) 0 := ⟨zm (i := 2) zV6_6 rfl rfl, zm (i := 12) zV1_0 rfl rfl, zm (i := 4) zV6_6 rfl rfl, by decide +kernel⟩
theorem zs_Mo_reason : Cond.selects zr_Mo zy_Mo_reason zy_Mo_reason ∈ zB := zm (i := 3) zV6_6 rfl rfl
theorem zk_Mo_livesOf : zCal zy_Mo_livesOf zb_Mo_livesOf 4 (some .int) 1 := ⟨zm (i := 11) zV6_6 rfl rfl, zm (i := 12) zV1_0 rfl rfl, zm (i := 12) zV6_6 rfl rfl, by decide +kernel⟩
theorem zs_Mo_livesOf : Cond.selects zr_Mo zy_Mo_livesOf zy_Mo_livesOf ∈ zB := zm (i := 72) zT_0 rfl rfl
theorem zk_Mo_account : zCal zy_Mo_account zb_Mo_account 4 (some .int) 1 := ⟨zm (i := 6) zV6_6 rfl rfl, zm (i := 12) zV1_0 rfl rfl, zm (i := 8) zV6_6 rfl rfl, by decide +kernel⟩
theorem zs_Mo_account : Cond.selects zr_Mo zy_Mo_account zy_Mo_account ∈ zB := zm (i := 7) zV6_6 rfl rfl
theorem zk_Mo_passes : zCal zy_Mo_passes zb_Mo_passes 4 none 2 := ⟨zm (i := 13) zV5_5 rfl rfl, zm (i := 12) zV1_0 rfl rfl, zm (i := 14) zV5_5 rfl rfl, by decide +kernel⟩
theorem zs_Mo_passes : Cond.selects zr_Mo zy_Mo_passes zy_Mo_passes ∈ zB := zm (i := 35) zT_0 rfl rfl
theorem zk_Mo_pass : zCal zy_Mo_pass zb_Mo_pass 4 (some .int) 2 := ⟨zm (i := 1) zV5_6 rfl rfl, zm (i := 12) zV1_0 rfl rfl, zm (i := 2) zV5_6 rfl rfl, by decide +kernel⟩
theorem zs_Mo_pass : Cond.selects zr_Mo zy_Mo_pass zy_Mo_pass ∈ zB := zm (i := 36) zT_0 rfl rfl
theorem zk_Mo_passAll : zCal zy_Mo_passAll zb_Mo_passAll 4 none 3 := ⟨zm (i := 9) zV5_5 rfl rfl, zm (i := 12) zV1_0 rfl rfl, zm (i := 10) zV5_5 rfl rfl, by decide +kernel⟩
theorem zs_Mo_passAll : Cond.selects zr_Mo zy_Mo_passAll zy_Mo_passAll ∈ zB := zm (i := 34) zT_0 rfl rfl
theorem zk_Mo_passCounts : zCal zy_Mo_passCounts zb_Mo_passCounts 2 none 1 := ⟨zm (i := 5) zV5_6 rfl rfl, zm (i := 12) zV1_0 rfl rfl, zm (i := 6) zV5_6 rfl rfl, by decide +kernel⟩
theorem zs_Mo_passCounts : Cond.selects zr_Mo zy_Mo_passCounts zy_Mo_passCounts ∈ zB := zm (i := 37) zT_0 rfl rfl
theorem zk_Mo_remembers : zCal zy_Mo_remembers zb_Mo_remembers 2 none 0 := ⟨zm (i := 5) zV5_5 rfl rfl, zm (i := 12) zV1_0 rfl rfl, zm (i := 6) zV5_5 rfl rfl, by decide +kernel⟩
theorem zs_Mo_remembers : Cond.selects zr_Mo zy_Mo_remembers zy_Mo_remembers ∈ zB := zm (i := 33) zT_0 rfl rfl
theorem zk_Mo_back : zCal zy_Mo_back zb_Mo_back 1 (some .int) 0 := ⟨zm (i := 14) zV6_6 rfl rfl, zm (i := 12) zV1_0 rfl rfl, zm (i := 0) zV6_7 rfl rfl, by decide +kernel⟩
theorem zs_Mo_back : Cond.selects zr_Mo zy_Mo_back zy_Mo_back ∈ zB := zm (i := 15) zV6_6 rfl rfl
theorem zk_Mo_image : zCal zy_Mo_image zb_Mo_image 1 (some .int) 0 := ⟨zm (i := 2) zV6_7 rfl rfl, zm (i := 12) zV1_0 rfl rfl, zm (i := 4) zV6_7 rfl rfl, by decide +kernel⟩
theorem zs_Mo_image : Cond.selects zr_Mo zy_Mo_image zy_Mo_image ∈ zB := zm (i := 3) zV6_7 rfl rfl
theorem zk_Mo_undo : zCal zy_Mo_undo zb_Mo_undo 1 (some .int) 0 := ⟨zm (i := 6) zV6_7 rfl rfl, zm (i := 12) zV1_0 rfl rfl, zm (i := 8) zV6_7 rfl rfl, by decide +kernel⟩
theorem zs_Mo_undo : Cond.selects zr_Mo zy_Mo_undo zy_Mo_undo ∈ zB := zm (i := 7) zV6_7 rfl rfl
theorem zk_Mo_count : zCal zy_Mo_count zb_Mo_count 2 (some .int) 1 := ⟨zm (i := 10) zV6_7 rfl rfl, zm (i := 12) zV1_0 rfl rfl, zm (i := 12) zV6_7 rfl rfl, by decide +kernel⟩
theorem zs_Mo_count : Cond.selects zr_Mo zy_Mo_count zy_Mo_count ∈ zB := zm (i := 11) zV6_7 rfl rfl
theorem zk_Ar_fill : zCas zy_Ar_fill zb_Ar_fill 4 none 2 := ⟨zm (i := 0) zV3_9 rfl rfl, zm (i := 14) zV1_0 rfl rfl, zm (i := 1) zV3_9 rfl rfl, by decide +kernel⟩
theorem zI_La : Cond.initialized zr_La ∈ zB := zm (i := 0) zV1_0 rfl rfl
theorem zI_EL : Cond.initialized zr_EL ∈ zB := zm (i := 1) zV1_0 rfl rfl
theorem zI_St : Cond.initialized zr_St ∈ zB := zm (i := 2) zV1_0 rfl rfl
theorem zI_Ta : Cond.initialized zr_Ta ∈ zB := zm (i := 3) zV1_0 rfl rfl
theorem zI_Ma : Cond.initialized "java/lang/Math" ∈ zB := zm (i := 4) zV1_0 rfl rfl
theorem zI_Jo : Cond.initialized zr_Jo ∈ zB := zm (i := 5) zV1_0 rfl rfl
theorem zI_Co : Cond.initialized zr_Co ∈ zB := zm (i := 6) zV1_0 rfl rfl
theorem zI_Fi : Cond.initialized zr_Fi ∈ zB := zm (i := 7) zV1_0 rfl rfl
theorem zI_En : Cond.initialized zr_En ∈ zB := zm (i := 8) zV1_0 rfl rfl
theorem zI_Ch : Cond.initialized zr_Ch ∈ zB := zm (i := 9) zV1_0 rfl rfl
theorem zI_Tp : Cond.initialized zr_Tp ∈ zB := zm (i := 10) zV1_0 rfl rfl
theorem zI_Wa : Cond.initialized zr_Wa ∈ zB := zm (i := 11) zV1_0 rfl rfl
theorem zI_Mo : Cond.initialized zr_Mo ∈ zB := zm (i := 12) zV1_0 rfl rfl
theorem zI_Sy : Cond.initialized "java/lang/System" ∈ zB := zm (i := 13) zV1_0 rfl rfl
theorem zI_Ar : Cond.initialized zr_Ar ∈ zB := zm (i := 14) zV1_0 rfl rfl
theorem zG_La_7 : Cond.classLink zr_La 7 zr_EL ∈ zB := zm (i := 15) zV1_0 rfl rfl
theorem zN_EL : Cond.instantiable zr_EL 7 ∈ zB := zm (i := 0) zV1_1 rfl rfl
theorem zL_La_9 : Cond.methodLink zr_La 9 zy_EL_init ∈ zB := zm (i := 1) zV1_1 rfl rfl
theorem zL_EL_1 : Cond.methodLink zr_EL 1 ⟨"java/lang/Object", "<init>", "()V"⟩ ∈ zB := zm (i := 4) zV1_1 rfl rfl
theorem zO_obj : Cond.instanceMethod ⟨"java/lang/Object", "<init>", "()V"⟩ ∈ zB := zm (i := 5) zV1_1 rfl rfl
theorem zD_obj : Cond.code ⟨"java/lang/Object", "<init>", "()V"⟩ object_method_1_code 1 none ∈ zB := zm (i := 6) zV1_1 rfl rfl
theorem zG_EL_7 : Cond.classLink zr_EL 7 zr_St ∈ zB := zm (i := 7) zV1_1 rfl rfl
theorem zN_St : Cond.instantiable zr_St 7 ∈ zB := zm (i := 8) zV1_1 rfl rfl
theorem zL_EL_9 : Cond.methodLink zr_EL 9 zy_St_init ∈ zB := zm (i := 9) zV1_1 rfl rfl
theorem zL_St_3 : Cond.methodLink zr_St 3 ⟨"java/lang/Object", "<init>", "()V"⟩ ∈ zB := zm (i := 12) zV1_1 rfl rfl
theorem zG_St_9 : Cond.classLink zr_St 9 zr_Ta ∈ zB := zm (i := 13) zV1_1 rfl rfl
theorem zN_Ta : Cond.instantiable zr_Ta 3 ∈ zB := zm (i := 14) zV1_1 rfl rfl
theorem zL_St_11 : Cond.methodLink zr_St 11 zy_Ta_init ∈ zB := zm (i := 15) zV1_1 rfl rfl
theorem zL_Ta_1 : Cond.methodLink zr_Ta 1 ⟨"java/lang/Object", "<init>", "()V"⟩ ∈ zB := zm (i := 2) zV1_2 rfl rfl
theorem zL_Ta_13 : Cond.methodLink zr_Ta 13 ⟨"java/lang/Math", "max", "(II)I"⟩ ∈ zB := zm (i := 3) zV1_2 rfl rfl
theorem zZ_max : Cond.static ⟨"java/lang/Math", "max", "(II)I"⟩ ∈ zB := zm (i := 4) zV1_2 rfl rfl
theorem zD_max : Cond.code ⟨"java/lang/Math", "max", "(II)I"⟩ prog_13_method_65_code 2 (some .int) ∈ zB := zm (i := 5) zV1_2 rfl rfl
theorem zH_Ta_7 : Cond.fieldLink zr_Ta 7 "EncounterLedger$Table" "width" "I" ∈ zB := zm (i := 6) zV1_2 rfl rfl
theorem zH_Ta_19 : Cond.fieldLink zr_Ta 19 "EncounterLedger$Table" "numbers" "[I" ∈ zB := zm (i := 7) zV1_2 rfl rfl
theorem zH_Ta_23 : Cond.fieldLink zr_Ta 23 "EncounterLedger$Table" "size" "I" ∈ zB := zm (i := 8) zV1_2 rfl rfl
theorem zA_int : Cond.arrayClass (Jvm.ClassFile.FieldType.int) ∈ zB := zm (i := 0) zV1_3 rfl rfl
theorem zG_St_25 : Cond.classLink zr_St 25 zr_Jo ∈ zB := zm (i := 1) zV1_3 rfl rfl
theorem zN_Jo : Cond.instantiable zr_Jo 2 ∈ zB := zm (i := 2) zV1_3 rfl rfl
theorem zX_St_27 : Cond.methodLinkNest zr_St 27 zy_Jo_init "EncounterLedger" ∈ lw_tbl := zmt (i := 3) zV1_3 rfl
theorem zL_Jo_3 : Cond.methodLink zr_Jo 3 ⟨"java/lang/Object", "<init>", "()V"⟩ ∈ zB := zm (i := 6) zV1_3 rfl rfl
theorem zH_Jo_11 : Cond.fieldLink zr_Jo 11 "EncounterLedger$Journal" "numbers" "[I" ∈ zB := zm (i := 7) zV1_3 rfl rfl
theorem zH_Jo_15 : Cond.fieldLink zr_Jo 15 "EncounterLedger$Journal" "total" "I" ∈ zB := zm (i := 8) zV1_3 rfl rfl
theorem zX_EL_261 : Cond.fieldLinkNest zr_EL 261 "EncounterLedger$Journal" "total" "I" "EncounterLedger" ∈ lw_tbl := zmt (i := 9) zV1_3 rfl
theorem zG_St_28 : Cond.classLink zr_St 28 zr_Co ∈ zB := zm (i := 15) zV1_3 rfl rfl
theorem zN_Co : Cond.instantiable zr_Co 3 ∈ zB := zm (i := 0) zV1_4 rfl rfl
theorem zL_St_30 : Cond.methodLink zr_St 30 zy_Co_init ∈ zB := zm (i := 1) zV1_4 rfl rfl
theorem zL_Co_3 : Cond.methodLink zr_Co 3 ⟨"java/lang/Object", "<init>", "()V"⟩ ∈ zB := zm (i := 4) zV1_4 rfl rfl
theorem zG_Co_9 : Cond.classLink zr_Co 9 zr_Ta ∈ zB := zm (i := 5) zV1_4 rfl rfl
theorem zL_Co_13 : Cond.methodLink zr_Co 13 zy_Ta_init ∈ zB := zm (i := 6) zV1_4 rfl rfl
theorem zH_Co_16 : Cond.fieldLink zr_Co 16 "EncounterLedger$Conditions" "rows" "LEncounterLedger$Table;" ∈ zB := zm (i := 7) zV1_4 rfl rfl
theorem zH_Co_24 : Cond.fieldLink zr_Co 24 "EncounterLedger$Conditions" "journal" "LEncounterLedger$Journal;" ∈ zB := zm (i := 8) zV1_4 rfl rfl
theorem zH_Co_20 : Cond.fieldLink zr_Co 20 "EncounterLedger$Conditions" "poisoners" "[I" ∈ zB := zm (i := 9) zV1_4 rfl rfl
theorem zG_St_33 : Cond.classLink zr_St 33 zr_Fi ∈ zB := zm (i := 1) zV1_5 rfl rfl
theorem zN_Fi : Cond.instantiable zr_Fi 5 ∈ zB := zm (i := 2) zV1_5 rfl rfl
theorem zL_St_35 : Cond.methodLink zr_St 35 zy_Fi_init ∈ zB := zm (i := 3) zV1_5 rfl rfl
theorem zL_Fi_5 : Cond.methodLink zr_Fi 5 ⟨"java/lang/Object", "<init>", "()V"⟩ ∈ zB := zm (i := 6) zV1_5 rfl rfl
theorem zG_Fi_11 : Cond.classLink zr_Fi 11 zr_Ta ∈ zB := zm (i := 7) zV1_5 rfl rfl
theorem zL_Fi_13 : Cond.methodLink zr_Fi 13 zy_Ta_init ∈ zB := zm (i := 8) zV1_5 rfl rfl
theorem zH_Fi_16 : Cond.fieldLink zr_Fi 16 "EncounterLedger$Fighters" "rows" "LEncounterLedger$Table;" ∈ zB := zm (i := 9) zV1_5 rfl rfl
theorem zH_Fi_20 : Cond.fieldLink zr_Fi 20 "EncounterLedger$Fighters" "conditions" "LEncounterLedger$Conditions;" ∈ zB := zm (i := 10) zV1_5 rfl rfl
theorem zH_Fi_24 : Cond.fieldLink zr_Fi 24 "EncounterLedger$Fighters" "journal" "LEncounterLedger$Journal;" ∈ zB := zm (i := 11) zV1_5 rfl rfl
theorem zH_Fi_67 : Cond.fieldLink zr_Fi 67 "EncounterLedger$Fighters" "harm" "I" ∈ zB := zm (i := 12) zV1_5 rfl rfl
theorem zX_EL_290 : Cond.fieldLinkNest zr_EL 290 "EncounterLedger$Fighters" "harm" "I" "EncounterLedger" ∈ lw_tbl := zmt (i := 13) zV1_5 rfl
theorem zH_Fi_85 : Cond.fieldLink zr_Fi 85 "EncounterLedger$Fighters" "mended" "I" ∈ zB := zm (i := 14) zV1_5 rfl rfl
theorem zX_EL_293 : Cond.fieldLinkNest zr_EL 293 "EncounterLedger$Fighters" "mended" "I" "EncounterLedger" ∈ lw_tbl := zmt (i := 15) zV1_5 rfl
theorem zG_St_50 : Cond.classLink zr_St 50 zr_En ∈ zB := zm (i := 11) zV1_6 rfl rfl
theorem zN_En : Cond.instantiable zr_En 11 ∈ zB := zm (i := 12) zV1_6 rfl rfl
theorem zL_St_52 : Cond.methodLink zr_St 52 zy_En_init ∈ zB := zm (i := 13) zV1_6 rfl rfl
theorem zL_En_3 : Cond.methodLink zr_En 3 ⟨"java/lang/Object", "<init>", "()V"⟩ ∈ zB := zm (i := 0) zV1_7 rfl rfl
theorem zG_En_9 : Cond.classLink zr_En 9 zr_Ta ∈ zB := zm (i := 1) zV1_7 rfl rfl
theorem zL_En_11 : Cond.methodLink zr_En 11 zy_Ta_init ∈ zB := zm (i := 2) zV1_7 rfl rfl
theorem zH_En_14 : Cond.fieldLink zr_En 14 "EncounterLedger$Encounter" "order" "LEncounterLedger$Table;" ∈ zB := zm (i := 3) zV1_7 rfl rfl
theorem zH_En_20 : Cond.fieldLink zr_En 20 "EncounterLedger$Encounter" "fighters" "LEncounterLedger$Fighters;" ∈ zB := zm (i := 4) zV1_7 rfl rfl
theorem zH_En_24 : Cond.fieldLink zr_En 24 "EncounterLedger$Encounter" "conditions" "LEncounterLedger$Conditions;" ∈ zB := zm (i := 5) zV1_7 rfl rfl
theorem zH_En_28 : Cond.fieldLink zr_En 28 "EncounterLedger$Encounter" "journal" "LEncounterLedger$Journal;" ∈ zB := zm (i := 6) zV1_7 rfl rfl
theorem zH_En_32 : Cond.fieldLink zr_En 32 "EncounterLedger$Encounter" "round" "I" ∈ zB := zm (i := 7) zV1_7 rfl rfl
theorem zX_EL_123 : Cond.fieldLinkNest zr_EL 123 "EncounterLedger$Encounter" "round" "I" "EncounterLedger" ∈ lw_tbl := zmt (i := 8) zV1_7 rfl
theorem zH_En_36 : Cond.fieldLink zr_En 36 "EncounterLedger$Encounter" "place" "I" ∈ zB := zm (i := 9) zV1_7 rfl rfl
theorem zX_EL_151 : Cond.fieldLinkNest zr_EL 151 "EncounterLedger$Encounter" "steps" "I" "EncounterLedger" ∈ lw_tbl := zmt (i := 10) zV1_7 rfl
theorem zH_En_84 : Cond.fieldLink zr_En 84 "EncounterLedger$Encounter" "steps" "I" ∈ zB := zm (i := 11) zV1_7 rfl rfl
theorem zH_En_87 : Cond.fieldLink zr_En 87 "EncounterLedger$Encounter" "acted" "Z" ∈ zB := zm (i := 12) zV1_7 rfl rfl
theorem zX_EL_244 : Cond.fieldLinkNest zr_EL 244 "EncounterLedger$Encounter" "acted" "Z" "EncounterLedger" ∈ lw_tbl := zmt (i := 13) zV1_7 rfl
theorem zH_En_67 : Cond.fieldLink zr_En 67 "EncounterLedger$Encounter" "opened" "I" ∈ zB := zm (i := 14) zV1_7 rfl rfl
theorem zX_EL_296 : Cond.fieldLinkNest zr_EL 296 "EncounterLedger$Encounter" "opened" "I" "EncounterLedger" ∈ lw_tbl := zmt (i := 15) zV1_7 rfl
theorem zH_En_91 : Cond.fieldLink zr_En 91 "EncounterLedger$Encounter" "turns" "I" ∈ zB := zm (i := 0) zV1_8 rfl rfl
theorem zX_EL_299 : Cond.fieldLinkNest zr_EL 299 "EncounterLedger$Encounter" "turns" "I" "EncounterLedger" ∈ lw_tbl := zmt (i := 1) zV1_8 rfl
theorem zH_En_117 : Cond.fieldLink zr_En 117 "EncounterLedger$Encounter" "acts" "I" ∈ zB := zm (i := 2) zV1_8 rfl rfl
theorem zX_EL_302 : Cond.fieldLinkNest zr_EL 302 "EncounterLedger$Encounter" "acts" "I" "EncounterLedger" ∈ lw_tbl := zmt (i := 3) zV1_8 rfl
theorem zH_St_38 : Cond.fieldLink zr_St 38 "EncounterLedger$State" "journal" "LEncounterLedger$Journal;" ∈ zB := zm (i := 11) zV1_9 rfl rfl
theorem zX_EL_257 : Cond.fieldLinkNest zr_EL 257 "EncounterLedger$State" "journal" "LEncounterLedger$Journal;" "EncounterLedger" ∈ lw_tbl := zmt (i := 12) zV1_9 rfl
theorem zH_St_42 : Cond.fieldLink zr_St 42 "EncounterLedger$State" "conditions" "LEncounterLedger$Conditions;" ∈ zB := zm (i := 13) zV1_9 rfl rfl
theorem zX_EL_223 : Cond.fieldLinkNest zr_EL 223 "EncounterLedger$State" "conditions" "LEncounterLedger$Conditions;" "EncounterLedger" ∈ lw_tbl := zmt (i := 14) zV1_9 rfl
theorem zH_St_46 : Cond.fieldLink zr_St 46 "EncounterLedger$State" "fighters" "LEncounterLedger$Fighters;" ∈ zB := zm (i := 15) zV1_9 rfl rfl
theorem zX_Wa_26 : Cond.fieldLinkNest zr_Wa 26 "EncounterLedger$State" "fighters" "LEncounterLedger$Fighters;" "EncounterLedger" ∈ lw_tbl := zmt (i := 0) zV1_10 rfl
theorem zX_EL_59 : Cond.fieldLinkNest zr_EL 59 "EncounterLedger$State" "fighters" "LEncounterLedger$Fighters;" "EncounterLedger" ∈ lw_tbl := zmt (i := 1) zV1_10 rfl
theorem zH_St_55 : Cond.fieldLink zr_St 55 "EncounterLedger$State" "encounter" "LEncounterLedger$Encounter;" ∈ zB := zm (i := 2) zV1_10 rfl rfl
theorem zX_EL_97 : Cond.fieldLinkNest zr_EL 97 "EncounterLedger$State" "encounter" "LEncounterLedger$Encounter;" "EncounterLedger" ∈ lw_tbl := zmt (i := 3) zV1_10 rfl
theorem zH_St_14 : Cond.fieldLink zr_St 14 "EncounterLedger$State" "walls" "LEncounterLedger$Table;" ∈ zB := zm (i := 4) zV1_10 rfl rfl
theorem zX_Wa_46 : Cond.fieldLinkNest zr_Wa 46 "EncounterLedger$State" "walls" "LEncounterLedger$Table;" "EncounterLedger" ∈ lw_tbl := zmt (i := 5) zV1_10 rfl
theorem zX_EL_80 : Cond.fieldLinkNest zr_EL 80 "EncounterLedger$State" "walls" "LEncounterLedger$Table;" "EncounterLedger" ∈ lw_tbl := zmt (i := 6) zV1_10 rfl
theorem zH_St_22 : Cond.fieldLink zr_St 22 "EncounterLedger$State" "powers" "LEncounterLedger$Table;" ∈ zB := zm (i := 7) zV1_10 rfl rfl
theorem zX_EL_179 : Cond.fieldLinkNest zr_EL 179 "EncounterLedger$State" "powers" "LEncounterLedger$Table;" "EncounterLedger" ∈ lw_tbl := zmt (i := 8) zV1_10 rfl
theorem zH_St_83 : Cond.fieldLink zr_St 83 "EncounterLedger$State" "rests" "I" ∈ zB := zm (i := 9) zV1_10 rfl rfl
theorem zX_EL_214 : Cond.fieldLinkNest zr_EL 214 "EncounterLedger$State" "rests" "I" "EncounterLedger" ∈ lw_tbl := zmt (i := 10) zV1_10 rfl
theorem zG_EL_19 : Cond.classLink zr_EL 19 zr_Ch ∈ zB := zm (i := 10) zV1_11 rfl rfl
theorem zN_Ch : Cond.instantiable zr_Ch 3 ∈ zB := zm (i := 11) zV1_11 rfl rfl
theorem zL_EL_21 : Cond.methodLink zr_EL 21 zy_Ch_init ∈ zB := zm (i := 12) zV1_11 rfl rfl
theorem zL_Ch_1 : Cond.methodLink zr_Ch 1 ⟨"java/lang/Object", "<init>", "()V"⟩ ∈ zB := zm (i := 15) zV1_11 rfl rfl
theorem zG_Ch_9 : Cond.classLink zr_Ch 9 zr_St ∈ zB := zm (i := 0) zV1_12 rfl rfl
theorem zA_over : Cond.arrayOver (Jvm.ClassFile.FieldType.object "EncounterLedger$State") ∈ lw_tbl := zmt (i := 1) zV1_12 rfl
theorem zL_Ch_15 : Cond.methodLink zr_Ch 15 zy_St_init ∈ zB := zm (i := 2) zV1_12 rfl rfl
theorem zH_Ch_11 : Cond.fieldLink zr_Ch 11 "EncounterLedger$Changes" "earlier" "[LEncounterLedger$State;" ∈ zB := zm (i := 3) zV1_12 rfl rfl
theorem zH_Ch_24 : Cond.fieldLink zr_Ch 24 "EncounterLedger$Changes" "size" "I" ∈ zB := zm (i := 4) zV1_12 rfl rfl
theorem zX_EL_308 : Cond.fieldLinkNest zr_EL 308 "EncounterLedger$Changes" "size" "I" "EncounterLedger" ∈ lw_tbl := zmt (i := 5) zV1_12 rfl
theorem zH_Ch_16 : Cond.fieldLink zr_Ch 16 "EncounterLedger$Changes" "next" "I" ∈ zB := zm (i := 6) zV1_12 rfl rfl
theorem zG_EL_26 : Cond.classLink zr_EL 26 zr_Tp ∈ zB := zm (i := 14) zV1_12 rfl rfl
theorem zN_Tp : Cond.instantiable zr_Tp 4 ∈ zB := zm (i := 15) zV1_12 rfl rfl
theorem zX_EL_28 : Cond.methodLinkNest zr_EL 28 zy_Tp_init "EncounterLedger" ∈ lw_tbl := zmt (i := 0) zV1_13 rfl
theorem zL_Tp_5 : Cond.methodLink zr_Tp 5 ⟨"java/lang/Object", "<init>", "()V"⟩ ∈ zB := zm (i := 3) zV1_13 rfl rfl
theorem zH_Tp_11 : Cond.fieldLink zr_Tp 11 "EncounterLedger$Tape" "bytes" "[I" ∈ zB := zm (i := 4) zV1_13 rfl rfl
theorem zH_Tp_15 : Cond.fieldLink zr_Tp 15 "EncounterLedger$Tape" "parts" "[I" ∈ zB := zm (i := 5) zV1_13 rfl rfl
theorem zH_Tp_18 : Cond.fieldLink zr_Tp 18 "EncounterLedger$Tape" "length" "I" ∈ zB := zm (i := 6) zV1_13 rfl rfl
theorem zX_EL_176 : Cond.fieldLinkNest zr_EL 176 "EncounterLedger$Tape" "length" "I" "EncounterLedger" ∈ lw_tbl := zmt (i := 7) zV1_13 rfl
theorem zH_Tp_22 : Cond.fieldLink zr_Tp 22 "EncounterLedger$Tape" "position" "I" ∈ zB := zm (i := 8) zV1_13 rfl rfl
theorem zX_EL_188 : Cond.fieldLinkNest zr_EL 188 "EncounterLedger$Tape" "position" "I" "EncounterLedger" ∈ lw_tbl := zmt (i := 9) zV1_13 rfl
theorem zG_EL_33 : Cond.classLink zr_EL 33 zr_Wa ∈ zB := zm (i := 3) zV1_14 rfl rfl
theorem zN_Wa : Cond.instantiable zr_Wa 3 ∈ zB := zm (i := 4) zV1_14 rfl rfl
theorem zX_EL_35 : Cond.methodLinkNest zr_EL 35 zy_Wa_init "EncounterLedger" ∈ lw_tbl := zmt (i := 5) zV1_14 rfl
theorem zL_Wa_3 : Cond.methodLink zr_Wa 3 ⟨"java/lang/Object", "<init>", "()V"⟩ ∈ zB := zm (i := 8) zV1_14 rfl rfl
theorem zH_Wa_9 : Cond.fieldLink zr_Wa 9 "EncounterLedger$Ways" "steps" "[I" ∈ zB := zm (i := 9) zV1_14 rfl rfl
theorem zH_Wa_15 : Cond.fieldLink zr_Wa 15 "EncounterLedger$Ways" "queue" "[I" ∈ zB := zm (i := 10) zV1_14 rfl rfl
theorem zH_Wa_18 : Cond.fieldLink zr_Wa 18 "EncounterLedger$Ways" "reached" "I" ∈ zB := zm (i := 11) zV1_14 rfl rfl
theorem zH_EL_10 : Cond.fieldLink zr_EL 10 "EncounterLedger" "now" "LEncounterLedger$State;" ∈ zB := zm (i := 3) zV2_0 rfl rfl
theorem zH_EL_16 : Cond.fieldLink zr_EL 16 "EncounterLedger" "saved" "LEncounterLedger$State;" ∈ zB := zm (i := 4) zV2_0 rfl rfl
theorem zH_EL_22 : Cond.fieldLink zr_EL 22 "EncounterLedger" "changes" "LEncounterLedger$Changes;" ∈ zB := zm (i := 5) zV2_0 rfl rfl
theorem zH_EL_29 : Cond.fieldLink zr_EL 29 "EncounterLedger" "tape" "LEncounterLedger$Tape;" ∈ zB := zm (i := 6) zV2_0 rfl rfl
theorem zH_EL_36 : Cond.fieldLink zr_EL 36 "EncounterLedger" "ways" "LEncounterLedger$Ways;" ∈ zB := zm (i := 7) zV2_0 rfl rfl
theorem zH_EL_40 : Cond.fieldLink zr_EL 40 "EncounterLedger" "hasImage" "Z" ∈ zB := zm (i := 8) zV2_0 rfl rfl
theorem zH_EL_44 : Cond.fieldLink zr_EL 44 "EncounterLedger" "latestReason" "I" ∈ zB := zm (i := 9) zV2_0 rfl rfl
theorem zL_La_13 : Cond.methodLink zr_La 13 zy_EL_add ∈ zB := zm (i := 9) zV2_1 rfl rfl
theorem zL_EL_48 : Cond.methodLink zr_EL 48 zy_EL_isCell ∈ zB := zm (i := 13) zV2_1 rfl rfl
theorem zL_EL_52 : Cond.methodLink zr_EL 52 zy_St_isFree ∈ zB := zm (i := 0) zV2_2 rfl rfl
theorem zL_St_59 : Cond.methodLink zr_St 59 zy_Ta_get ∈ zB := zm (i := 4) zV2_2 rfl rfl
theorem zL_St_63 : Cond.methodLink zr_St 63 zy_Fi_standingOn ∈ zB := zm (i := 8) zV2_2 rfl rfl
theorem zL_Fi_28 : Cond.methodLink zr_Fi 28 zy_Ta_used ∈ zB := zm (i := 12) zV2_2 rfl rfl
theorem zL_Fi_36 : Cond.methodLink zr_Fi 36 zy_Ta_get ∈ zB := zm (i := 0) zV2_3 rfl rfl
theorem zL_EL_55 : Cond.methodLink zr_EL 55 zy_EL_refuse ∈ zB := zm (i := 1) zV2_3 rfl rfl
theorem zL_EL_63 : Cond.methodLink zr_EL 63 zy_Fi_size ∈ zB := zm (i := 5) zV2_3 rfl rfl
theorem zL_EL_69 : Cond.methodLink zr_EL 69 zy_Ch_keep ∈ zB := zm (i := 9) zV2_3 rfl rfl
theorem zL_Ch_20 : Cond.methodLink zr_Ch 20 zy_St_become ∈ zB := zm (i := 13) zV2_3 rfl rfl
theorem zL_St_67 : Cond.methodLink zr_St 67 zy_Jo_copyFrom ∈ zB := zm (i := 1) zV2_4 rfl rfl
theorem zL_Jo_33 : Cond.methodLink zr_Jo 33 ⟨"java/lang/Math", "min", "(II)I"⟩ ∈ zB := zm (i := 5) zV2_4 rfl rfl
theorem zZ_min : Cond.static ⟨"java/lang/Math", "min", "(II)I"⟩ ∈ zB := zm (i := 6) zV2_4 rfl rfl
theorem zD_min : Cond.code ⟨"java/lang/Math", "min", "(II)I"⟩ prog_13_method_69_code 2 (some .int) ∈ zB := zm (i := 7) zV2_4 rfl rfl
theorem zL_Jo_38 : Cond.methodLink zr_Jo 38 ⟨"java/lang/System", "arraycopy", "(Ljava/lang/Object;ILjava/lang/Object;II)V"⟩ ∈ zB := zm (i := 8) zV2_4 rfl rfl
theorem zZ_arraycopy : Cond.static ⟨"java/lang/System", "arraycopy", "(Ljava/lang/Object;ILjava/lang/Object;II)V"⟩ ∈ zB := zm (i := 9) zV2_4 rfl rfl
theorem zY_arraycopy : Cond.native ⟨"java/lang/System", "arraycopy", "(Ljava/lang/Object;ILjava/lang/Object;II)V"⟩ ∈ zB := zm (i := 10) zV2_4 rfl rfl
theorem zL_St_70 : Cond.methodLink zr_St 70 zy_Co_copyFrom ∈ zB := zm (i := 11) zV2_4 rfl rfl
theorem zL_Co_71 : Cond.methodLink zr_Co 71 zy_Ta_copyRows ∈ zB := zm (i := 15) zV2_4 rfl rfl
theorem zL_Ta_32 : Cond.methodLink zr_Ta 32 ⟨"java/lang/Math", "min", "(II)I"⟩ ∈ zB := zm (i := 3) zV2_5 rfl rfl
theorem zL_Ta_26 : Cond.methodLink zr_Ta 26 ⟨"java/lang/System", "arraycopy", "(Ljava/lang/Object;ILjava/lang/Object;II)V"⟩ ∈ zB := zm (i := 4) zV2_5 rfl rfl
theorem zL_St_73 : Cond.methodLink zr_St 73 zy_Fi_copyFrom ∈ zB := zm (i := 5) zV2_5 rfl rfl
theorem zL_Fi_95 : Cond.methodLink zr_Fi 95 zy_Ta_copyRows ∈ zB := zm (i := 9) zV2_5 rfl rfl
theorem zL_St_76 : Cond.methodLink zr_St 76 zy_En_copyFrom ∈ zB := zm (i := 10) zV2_5 rfl rfl
theorem zL_En_126 : Cond.methodLink zr_En 126 zy_Ta_copyRows ∈ zB := zm (i := 14) zV2_5 rfl rfl
theorem zL_St_79 : Cond.methodLink zr_St 79 zy_Ta_copyRows ∈ zB := zm (i := 15) zV2_5 rfl rfl
theorem zL_Ch_27 : Cond.methodLink zr_Ch 27 ⟨"java/lang/Math", "min", "(II)I"⟩ ∈ zB := zm (i := 0) zV2_6 rfl rfl
theorem zL_EL_73 : Cond.methodLink zr_EL 73 zy_Fi_join ∈ zB := zm (i := 1) zV2_6 rfl rfl
theorem zL_Fi_43 : Cond.methodLink zr_Fi 43 zy_Ta_append ∈ zB := zm (i := 5) zV2_6 rfl rfl
theorem zL_Fi_40 : Cond.methodLink zr_Fi 40 zy_Ta_set ∈ zB := zm (i := 9) zV2_6 rfl rfl
theorem zL_Fi_46 : Cond.methodLink zr_Fi 46 zy_Jo_write ∈ zB := zm (i := 13) zV2_6 rfl rfl
theorem zL_La_18 : Cond.methodLink zr_La 18 zy_EL_wall ∈ zB := zm (i := 1) zV2_7 rfl rfl
theorem zL_EL_77 : Cond.methodLink zr_EL 77 zy_Fi_standingOn ∈ zB := zm (i := 5) zV2_7 rfl rfl
theorem zL_EL_84 : Cond.methodLink zr_EL 84 zy_Ta_get ∈ zB := zm (i := 6) zV2_7 rfl rfl
theorem zL_EL_90 : Cond.methodLink zr_EL 90 zy_Ta_set ∈ zB := zm (i := 7) zV2_7 rfl rfl
theorem zL_La_23 : Cond.methodLink zr_La 23 zy_EL_amount ∈ zB := zm (i := 8) zV2_7 rfl rfl
theorem zL_EL_94 : Cond.methodLink zr_EL 94 zy_Fi_has ∈ zB := zm (i := 12) zV2_7 rfl rfl
theorem zL_Fi_32 : Cond.methodLink zr_Fi 32 zy_Ta_holds ∈ zB := zm (i := 0) zV2_8 rfl rfl
theorem zL_EL_101 : Cond.methodLink zr_EL 101 zy_En_isOn ∈ zB := zm (i := 4) zV2_8 rfl rfl
theorem zL_EL_107 : Cond.methodLink zr_EL 107 zy_Fi_at ∈ zB := zm (i := 8) zV2_8 rfl rfl
theorem zL_EL_110 : Cond.methodLink zr_EL 110 zy_Fi_put ∈ zB := zm (i := 12) zV2_8 rfl rfl
theorem zL_La_28 : Cond.methodLink zr_La 28 zy_EL_begin ∈ zB := zm (i := 0) zV2_9 rfl rfl
theorem zL_EL_113 : Cond.methodLink zr_EL 113 zy_En_open ∈ zB := zm (i := 4) zV2_9 rfl rfl
theorem zL_En_51 : Cond.methodLink zr_En 51 zy_Fi_size ∈ zB := zm (i := 8) zV2_9 rfl rfl
theorem zC_En_56 : Cond.constant zr_En 56 1103515245 ∈ zB := zm (i := 9) zV2_9 rfl rfl
theorem zL_En_57 : Cond.methodLink zr_En 57 zy_Fi_at ∈ zB := zm (i := 10) zV2_9 rfl rfl
theorem zL_En_60 : Cond.methodLink zr_En 60 zy_Fi_put ∈ zB := zm (i := 11) zV2_9 rfl rfl
theorem zL_En_63 : Cond.methodLink zr_En 63 zy_En_insert ∈ zB := zm (i := 12) zV2_9 rfl rfl
theorem zL_En_70 : Cond.methodLink zr_En 70 zy_Ta_append ∈ zB := zm (i := 0) zV2_10 rfl rfl
theorem zL_En_39 : Cond.methodLink zr_En 39 zy_Ta_get ∈ zB := zm (i := 1) zV2_10 rfl rfl
theorem zL_En_73 : Cond.methodLink zr_En 73 zy_En_isAhead ∈ zB := zm (i := 2) zV2_10 rfl rfl
theorem zL_En_77 : Cond.methodLink zr_En 77 zy_Ta_copyRow ∈ zB := zm (i := 6) zV2_10 rfl rfl
theorem zL_En_81 : Cond.methodLink zr_En 81 zy_Ta_set ∈ zB := zm (i := 10) zV2_10 rfl rfl
theorem zL_EL_117 : Cond.methodLink zr_EL 117 zy_En_startTurn ∈ zB := zm (i := 11) zV2_10 rfl rfl
theorem zL_En_94 : Cond.methodLink zr_En 94 zy_En_current ∈ zB := zm (i := 15) zV2_10 rfl rfl
theorem zL_En_97 : Cond.methodLink zr_En 97 zy_Jo_write ∈ zB := zm (i := 3) zV2_11 rfl rfl
theorem zL_En_102 : Cond.methodLink zr_En 102 zy_Co_countSourceTurn ∈ zB := zm (i := 4) zV2_11 rfl rfl
theorem zL_Co_28 : Cond.methodLink zr_Co 28 zy_Ta_used ∈ zB := zm (i := 8) zV2_11 rfl rfl
theorem zL_Co_36 : Cond.methodLink zr_Co 36 zy_Ta_get ∈ zB := zm (i := 9) zV2_11 rfl rfl
theorem zL_Co_47 : Cond.methodLink zr_Co 47 zy_Ta_set ∈ zB := zm (i := 10) zV2_11 rfl rfl
theorem zL_Co_60 : Cond.methodLink zr_Co 60 zy_Co_endCounted ∈ zB := zm (i := 11) zV2_11 rfl rfl
theorem zL_Co_55 : Cond.methodLink zr_Co 55 zy_Jo_write ∈ zB := zm (i := 15) zV2_11 rfl rfl
theorem zL_Co_63 : Cond.methodLink zr_Co 63 zy_Ta_copyRow ∈ zB := zm (i := 0) zV2_12 rfl rfl
theorem zL_Co_67 : Cond.methodLink zr_Co 67 zy_Ta_cut ∈ zB := zm (i := 1) zV2_12 rfl rfl
theorem zL_En_107 : Cond.methodLink zr_En 107 zy_Fi_sufferPoisons ∈ zB := zm (i := 5) zV2_12 rfl rfl
theorem zL_Fi_78 : Cond.methodLink zr_Fi 78 zy_Co_listPoisoners ∈ zB := zm (i := 9) zV2_12 rfl rfl
theorem zL_Fi_82 : Cond.methodLink zr_Fi 82 zy_Co_poisonBy ∈ zB := zm (i := 13) zV2_12 rfl rfl
theorem zL_Co_40 : Cond.methodLink zr_Co 40 zy_Co_find ∈ zB := zm (i := 1) zV2_13 rfl rfl
theorem zL_Fi_59 : Cond.methodLink zr_Fi 59 zy_Fi_lose ∈ zB := zm (i := 5) zV2_13 rfl rfl
theorem zL_Fi_62 : Cond.methodLink zr_Fi 62 ⟨"java/lang/Math", "min", "(II)I"⟩ ∈ zB := zm (i := 9) zV2_13 rfl rfl
theorem zL_Fi_71 : Cond.methodLink zr_Fi 71 zy_Co_endAllOf ∈ zB := zm (i := 10) zV2_13 rfl rfl
theorem zL_Fi_75 : Cond.methodLink zr_Fi 75 zy_Co_endHarmedOf ∈ zB := zm (i := 14) zV2_13 rfl rfl
theorem zL_EL_120 : Cond.methodLink zr_EL 120 zy_En_current ∈ zB := zm (i := 2) zV2_14 rfl rfl
theorem zL_La_32 : Cond.methodLink zr_La 32 zy_EL_finish ∈ zB := zm (i := 3) zV2_14 rfl rfl
theorem zL_EL_126 : Cond.methodLink zr_EL 126 zy_En_close ∈ zB := zm (i := 7) zV2_14 rfl rfl
theorem zL_En_120 : Cond.methodLink zr_En 120 zy_Ta_cut ∈ zB := zm (i := 11) zV2_14 rfl rfl
theorem zL_En_123 : Cond.methodLink zr_En 123 zy_Co_endOfEncounter ∈ zB := zm (i := 12) zV2_14 rfl rfl
theorem zL_La_37 : Cond.methodLink zr_La 37 zy_EL_endTurn ∈ zB := zm (i := 0) zV3_0 rfl rfl
theorem zL_EL_129 : Cond.methodLink zr_EL 129 zy_En_leaveTurn ∈ zB := zm (i := 4) zV3_0 rfl rfl
theorem zL_En_110 : Cond.methodLink zr_En 110 zy_Co_countTurnEnd ∈ zB := zm (i := 8) zV3_0 rfl rfl
theorem zL_En_47 : Cond.methodLink zr_En 47 zy_Ta_used ∈ zB := zm (i := 12) zV3_0 rfl rfl
theorem zL_La_41 : Cond.methodLink zr_La 41 zy_EL_delay ∈ zB := zm (i := 13) zV3_0 rfl rfl
theorem zL_EL_132 : Cond.methodLink zr_EL 132 zy_EL_whyNoAct ∈ zB := zm (i := 1) zV3_1 rfl rfl
theorem zL_EL_141 : Cond.methodLink zr_EL 141 zy_EL_whyCannotAct ∈ zB := zm (i := 5) zV3_1 rfl rfl
theorem zL_EL_235 : Cond.methodLink zr_EL 235 zy_Fi_canAct ∈ zB := zm (i := 9) zV3_1 rfl rfl
theorem zL_Fi_51 : Cond.methodLink zr_Fi 51 zy_Fi_isDown ∈ zB := zm (i := 13) zV3_1 rfl rfl
theorem zL_Fi_54 : Cond.methodLink zr_Fi 54 zy_Co_sumOf ∈ zB := zm (i := 1) zV3_2 rfl rfl
theorem zL_EL_135 : Cond.methodLink zr_EL 135 zy_En_comesLater ∈ zB := zm (i := 5) zV3_2 rfl rfl
theorem zL_En_113 : Cond.methodLink zr_En 113 zy_En_placeOf ∈ zB := zm (i := 9) zV3_2 rfl rfl
theorem zL_EL_138 : Cond.methodLink zr_EL 138 zy_En_putBehind ∈ zB := zm (i := 13) zV3_2 rfl rfl
theorem zL_La_45 : Cond.methodLink zr_La 45 zy_EL_move ∈ zB := zm (i := 1) zV3_3 rfl rfl
theorem zL_EL_144 : Cond.methodLink zr_EL 144 zy_Wa_measure ∈ zB := zm (i := 5) zV3_3 rfl rfl
theorem zL_Wa_22 : Cond.methodLink zr_Wa 22 zy_Wa_markClosed ∈ zB := zm (i := 9) zV3_3 rfl rfl
theorem zL_Wa_50 : Cond.methodLink zr_Wa 50 zy_Ta_get ∈ zB := zm (i := 13) zV3_3 rfl rfl
theorem zL_Wa_55 : Cond.methodLink zr_Wa 55 zy_Fi_size ∈ zB := zm (i := 14) zV3_3 rfl rfl
theorem zL_Wa_34 : Cond.methodLink zr_Wa 34 zy_Fi_at ∈ zB := zm (i := 15) zV3_3 rfl rfl
theorem zL_Wa_59 : Cond.methodLink zr_Wa 59 zy_Fi_areFoes ∈ zB := zm (i := 0) zV3_4 rfl rfl
theorem zL_Wa_63 : Cond.methodLink zr_Wa 63 zy_Fi_isDown ∈ zB := zm (i := 4) zV3_4 rfl rfl
theorem zL_Wa_38 : Cond.methodLink zr_Wa 38 zy_Wa_reach ∈ zB := zm (i := 5) zV3_4 rfl rfl
theorem zL_Wa_42 : Cond.methodLink zr_Wa 42 zy_Wa_reachNeighbors ∈ zB := zm (i := 9) zV3_4 rfl rfl
theorem zX_Wa_67 : Cond.methodLinkNest zr_Wa 67 zy_EL_columnStep "EncounterLedger" ∈ lw_tbl := zmt (i := 13) zV3_4 rfl
theorem zX_Wa_71 : Cond.methodLinkNest zr_Wa 71 zy_EL_rowStep "EncounterLedger" ∈ lw_tbl := zmt (i := 0) zV3_5 rfl
theorem zL_EL_148 : Cond.methodLink zr_EL 148 zy_EL_stepsLeft ∈ zB := zm (i := 3) zV3_5 rfl rfl
theorem zL_EL_232 : Cond.methodLink zr_EL 232 zy_Co_sumOf ∈ zB := zm (i := 7) zV3_5 rfl rfl
theorem zL_EL_329 : Cond.methodLink zr_EL 329 ⟨"java/lang/Math", "max", "(II)I"⟩ ∈ zB := zm (i := 8) zV3_5 rfl rfl
theorem zL_EL_154 : Cond.methodLink zr_EL 154 zy_Fi_moveTo ∈ zB := zm (i := 9) zV3_5 rfl rfl
theorem zL_La_49 : Cond.methodLink zr_La 49 zy_EL_strike ∈ zB := zm (i := 13) zV3_5 rfl rfl
theorem zL_EL_158 : Cond.methodLink zr_EL 158 zy_EL_canBeStruck ∈ zB := zm (i := 1) zV3_6 rfl rfl
theorem zL_EL_322 : Cond.methodLink zr_EL 322 zy_Fi_areFoes ∈ zB := zm (i := 5) zV3_6 rfl rfl
theorem zL_EL_326 : Cond.methodLink zr_EL 326 zy_Fi_isDown ∈ zB := zm (i := 6) zV3_6 rfl rfl
theorem zL_EL_253 : Cond.methodLink zr_EL 253 zy_EL_isInArea ∈ zB := zm (i := 7) zV3_6 rfl rfl
theorem zL_EL_351 : Cond.methodLink zr_EL 351 zy_EL_columnStep ∈ zB := zm (i := 10) zV3_6 rfl rfl
theorem zL_EL_354 : Cond.methodLink zr_EL 354 zy_EL_rowStep ∈ zB := zm (i := 11) zV3_6 rfl rfl
theorem zL_EL_357 : Cond.methodLink zr_EL 357 ⟨"java/lang/Math", "abs", "(I)I"⟩ ∈ zB := zm (i := 12) zV3_6 rfl rfl
theorem zZ_abs : Cond.static ⟨"java/lang/Math", "abs", "(I)I"⟩ ∈ zB := zm (i := 13) zV3_6 rfl rfl
theorem zD_abs : Cond.code ⟨"java/lang/Math", "abs", "(I)I"⟩ prog_13_method_59_code 1 (some .int) ∈ zB := zm (i := 14) zV3_6 rfl rfl
theorem zL_EL_161 : Cond.methodLink zr_EL 161 zy_En_act ∈ zB := zm (i := 15) zV3_6 rfl rfl
theorem zL_EL_164 : Cond.methodLink zr_EL 164 zy_Fi_hurt ∈ zB := zm (i := 3) zV3_7 rfl rfl
theorem zL_La_53 : Cond.methodLink zr_La 53 zy_EL_feed ∈ zB := zm (i := 7) zV3_7 rfl rfl
theorem zL_EL_167 : Cond.methodLink zr_EL 167 zy_EL_isByte ∈ zB := zm (i := 11) zV3_7 rfl rfl
theorem zL_EL_170 : Cond.methodLink zr_EL 170 zy_Tp_hasRoomFor ∈ zB := zm (i := 14) zV3_7 rfl rfl
theorem zL_EL_173 : Cond.methodLink zr_EL 173 zy_Tp_append ∈ zB := zm (i := 2) zV3_8 rfl rfl
theorem zL_La_58 : Cond.methodLink zr_La 58 zy_EL_power ∈ zB := zm (i := 6) zV3_8 rfl rfl
theorem zL_EL_182 : Cond.methodLink zr_EL 182 zy_Ta_holds ∈ zB := zm (i := 10) zV3_8 rfl rfl
theorem zL_EL_185 : Cond.methodLink zr_EL 185 zy_Tp_readPower ∈ zB := zm (i := 11) zV3_8 rfl rfl
theorem zL_Tp_25 : Cond.methodLink zr_Tp 25 zy_Ar_fill ∈ zB := zm (i := 15) zV3_8 rfl rfl
theorem zL_Tp_31 : Cond.methodLink zr_Tp 31 zy_Tp_readShape ∈ zB := zm (i := 2) zV3_9 rfl rfl
theorem zL_Tp_49 : Cond.methodLink zr_Tp 49 zy_Tp_peek ∈ zB := zm (i := 6) zV3_9 rfl rfl
theorem zL_Tp_53 : Cond.methodLink zr_Tp 53 zy_Tp_setPart ∈ zB := zm (i := 10) zV3_9 rfl rfl
theorem zL_Tp_39 : Cond.methodLink zr_Tp 39 zy_Tp_skip ∈ zB := zm (i := 14) zV3_9 rfl rfl
theorem zL_Tp_35 : Cond.methodLink zr_Tp 35 zy_Tp_readDigit ∈ zB := zm (i := 2) zV3_10 rfl rfl
theorem zL_Tp_43 : Cond.methodLink zr_Tp 43 zy_Tp_readEffects ∈ zB := zm (i := 6) zV3_10 rfl rfl
theorem zL_Tp_57 : Cond.methodLink zr_Tp 57 zy_Tp_readEffect ∈ zB := zm (i := 10) zV3_10 rfl rfl
theorem zL_Tp_60 : Cond.methodLink zr_Tp 60 zy_Tp_readNumber ∈ zB := zm (i := 14) zV3_10 rfl rfl
theorem zL_Tp_63 : Cond.methodLink zr_Tp 63 zy_Tp_part ∈ zB := zm (i := 2) zV3_11 rfl rfl
theorem zL_Tp_46 : Cond.methodLink zr_Tp 46 zy_Tp_readCost ∈ zB := zm (i := 6) zV3_11 rfl rfl
theorem zL_EL_191 : Cond.methodLink zr_EL 191 zy_Tp_clear ∈ zB := zm (i := 10) zV3_11 rfl rfl
theorem zL_EL_194 : Cond.methodLink zr_EL 194 zy_Tp_part ∈ zB := zm (i := 14) zV3_11 rfl rfl
theorem zL_La_62 : Cond.methodLink zr_La 62 zy_EL_cast ∈ zB := zm (i := 15) zV3_11 rfl rfl
theorem zL_EL_197 : Cond.methodLink zr_EL 197 zy_EL_isDirection ∈ zB := zm (i := 3) zV3_12 rfl rfl
theorem zL_EL_200 : Cond.methodLink zr_EL 200 zy_EL_whyNoCast ∈ zB := zm (i := 6) zV3_12 rfl rfl
theorem zL_EL_203 : Cond.methodLink zr_EL 203 zy_EL_countMet ∈ zB := zm (i := 10) zV3_12 rfl rfl
theorem zL_EL_334 : Cond.methodLink zr_EL 334 zy_EL_isMet ∈ zB := zm (i := 14) zV3_12 rfl rfl
theorem zL_EL_207 : Cond.methodLink zr_EL 207 zy_Fi_spend ∈ zB := zm (i := 2) zV3_13 rfl rfl
theorem zL_EL_210 : Cond.methodLink zr_EL 210 zy_EL_spread ∈ zB := zm (i := 6) zV3_13 rfl rfl
theorem zL_EL_338 : Cond.methodLink zr_EL 338 zy_En_inOrder ∈ zB := zm (i := 10) zV3_13 rfl rfl
theorem zL_En_43 : Cond.methodLink zr_En 43 zy_Ta_holds ∈ zB := zm (i := 14) zV3_13 rfl rfl
theorem zL_EL_341 : Cond.methodLink zr_EL 341 zy_Fi_mend ∈ zB := zm (i := 15) zV3_13 rfl rfl
theorem zL_EL_344 : Cond.methodLink zr_EL 344 zy_Co_make ∈ zB := zm (i := 3) zV3_14 rfl rfl
theorem zL_Co_44 : Cond.methodLink zr_Co 44 zy_Ta_append ∈ zB := zm (i := 7) zV3_14 rfl rfl
theorem zL_Co_50 : Cond.methodLink zr_Co 50 ⟨"java/lang/Math", "max", "(II)I"⟩ ∈ zB := zm (i := 8) zV3_14 rfl rfl
theorem zL_La_66 : Cond.methodLink zr_La 66 zy_EL_rest ∈ zB := zm (i := 9) zV3_14 rfl rfl
theorem zL_EL_217 : Cond.methodLink zr_EL 217 zy_Fi_restLong ∈ zB := zm (i := 13) zV3_14 rfl rfl
theorem zL_Fi_88 : Cond.methodLink zr_Fi 88 zy_Fi_mend ∈ zB := zm (i := 1) zV4_0 rfl rfl
theorem zL_Fi_91 : Cond.methodLink zr_Fi 91 zy_Fi_refill ∈ zB := zm (i := 2) zV4_0 rfl rfl
theorem zL_EL_220 : Cond.methodLink zr_EL 220 zy_Fi_restShort ∈ zB := zm (i := 6) zV4_0 rfl rfl
theorem zL_EL_227 : Cond.methodLink zr_EL 227 zy_Co_endWith ∈ zB := zm (i := 10) zV4_0 rfl rfl
theorem zL_La_70 : Cond.methodLink zr_La 70 zy_EL_fighter ∈ zB := zm (i := 14) zV4_0 rfl rfl
theorem zL_EL_238 : Cond.methodLink zr_EL 238 zy_En_placeOf ∈ zB := zm (i := 2) zV4_1 rfl rfl
theorem zL_EL_241 : Cond.methodLink zr_EL 241 zy_Co_numberOf ∈ zB := zm (i := 3) zV4_1 rfl rfl
theorem zL_La_75 : Cond.methodLink zr_La 75 zy_EL_turn ∈ zB := zm (i := 7) zV4_1 rfl rfl
theorem zL_EL_247 : Cond.methodLink zr_EL 247 zy_En_atPlace ∈ zB := zm (i := 11) zV4_1 rfl rfl
theorem zL_La_79 : Cond.methodLink zr_La 79 zy_EL_condition ∈ zB := zm (i := 15) zV4_1 rfl rfl
theorem zL_EL_250 : Cond.methodLink zr_EL 250 zy_Co_size ∈ zB := zm (i := 3) zV4_2 rfl rfl
theorem zL_EL_251 : Cond.methodLink zr_EL 251 zy_Co_has ∈ zB := zm (i := 7) zV4_2 rfl rfl
theorem zL_Co_32 : Cond.methodLink zr_Co 32 zy_Ta_holds ∈ zB := zm (i := 11) zV4_2 rfl rfl
theorem zL_EL_252 : Cond.methodLink zr_EL 252 zy_Co_at ∈ zB := zm (i := 12) zV4_2 rfl rfl
theorem zL_La_83 : Cond.methodLink zr_La 83 zy_EL_area ∈ zB := zm (i := 0) zV4_3 rfl rfl
theorem zL_La_87 : Cond.methodLink zr_La 87 zy_EL_way ∈ zB := zm (i := 4) zV4_3 rfl rfl
theorem zL_La_91 : Cond.methodLink zr_La 91 zy_EL_entry ∈ zB := zm (i := 8) zV4_3 rfl rfl
theorem zL_EL_266 : Cond.methodLink zr_EL 266 zy_Jo_keeps ∈ zB := zm (i := 12) zV4_3 rfl rfl
theorem zL_EL_269 : Cond.methodLink zr_EL 269 zy_Jo_at ∈ zB := zm (i := 0) zV4_4 rfl rfl
theorem zL_La_95 : Cond.methodLink zr_La 95 zy_EL_replayed ∈ zB := zm (i := 4) zV4_4 rfl rfl
theorem zL_EL_270 : Cond.methodLink zr_EL 270 zy_Jo_keepsAll ∈ zB := zm (i := 8) zV4_4 rfl rfl
theorem zL_EL_273 : Cond.methodLink zr_EL 273 zy_Jo_lifeOf ∈ zB := zm (i := 12) zV4_4 rfl rfl
theorem zL_Jo_27 : Cond.methodLink zr_Jo 27 zy_Jo_sumOf ∈ zB := zm (i := 0) zV4_5 rfl rfl
theorem zL_Jo_23 : Cond.methodLink zr_Jo 23 zy_Jo_tells ∈ zB := zm (i := 4) zV4_5 rfl rfl
theorem zL_Jo_19 : Cond.methodLink zr_Jo 19 zy_Jo_at ∈ zB := zm (i := 8) zV4_5 rfl rfl
theorem zL_EL_276 : Cond.methodLink zr_EL 276 zy_Jo_numberOf ∈ zB := zm (i := 9) zV4_5 rfl rfl
theorem zL_EL_278 : Cond.methodLink zr_EL 278 zy_Jo_spentBy ∈ zB := zm (i := 13) zV4_5 rfl rfl
theorem zL_Jo_30 : Cond.methodLink zr_Jo 30 zy_Jo_sumOfAmounts ∈ zB := zm (i := 1) zV4_6 rfl rfl
theorem zL_EL_281 : Cond.methodLink zr_EL 281 zy_Jo_latestMoveOf ∈ zB := zm (i := 5) zV4_6 rfl rfl
theorem zL_La_99 : Cond.methodLink zr_La 99 zy_EL_reason ∈ zB := zm (i := 9) zV4_6 rfl rfl
theorem zL_La_103 : Cond.methodLink zr_La 103 zy_EL_account ∈ zB := zm (i := 13) zV4_6 rfl rfl
theorem zL_EL_284 : Cond.methodLink zr_EL 284 zy_Fi_numberDown ∈ zB := zm (i := 1) zV4_7 rfl rfl
theorem zL_EL_287 : Cond.methodLink zr_EL 287 zy_Fi_livesOf ∈ zB := zm (i := 5) zV4_7 rfl rfl
theorem zL_EL_305 : Cond.methodLink zr_EL 305 zy_St_numberOfWalls ∈ zB := zm (i := 9) zV4_7 rfl rfl
theorem zL_La_107 : Cond.methodLink zr_La 107 zy_EL_back ∈ zB := zm (i := 13) zV4_7 rfl rfl
theorem zL_EL_310 : Cond.methodLink zr_EL 310 zy_Ch_takeBack ∈ zB := zm (i := 1) zV4_8 rfl rfl
theorem zL_La_111 : Cond.methodLink zr_La 111 zy_EL_image ∈ zB := zm (i := 5) zV4_8 rfl rfl
theorem zL_EL_313 : Cond.methodLink zr_EL 313 zy_St_become ∈ zB := zm (i := 9) zV4_8 rfl rfl
theorem zL_La_115 : Cond.methodLink zr_La 115 zy_EL_undo ∈ zB := zm (i := 10) zV4_8 rfl rfl
theorem zL_EL_316 : Cond.methodLink zr_EL 316 zy_Ch_forget ∈ zB := zm (i := 14) zV4_8 rfl rfl
theorem zL_La_119 : Cond.methodLink zr_La 119 zy_EL_count ∈ zB := zm (i := 2) zV4_9 rfl rfl
theorem zL_EL_319 : Cond.methodLink zr_EL 319 zy_EL_setOfPowers ∈ zB := zm (i := 6) zV4_9 rfl rfl
theorem zL_EL_348 : Cond.methodLink zr_EL 348 zy_Ta_used ∈ zB := zm (i := 10) zV4_9 rfl rfl
theorem zG_La_10 : Cond.classLink zr_La 10 zr_Mo ∈ zB := zm (i := 11) zV4_9 rfl rfl
theorem zN_Mo : Cond.instantiable zr_Mo 46 ∈ zB := zm (i := 12) zV4_9 rfl rfl
theorem zL_La_12 : Cond.methodLink zr_La 12 zy_Mo_init ∈ zB := zm (i := 13) zV4_9 rfl rfl
theorem zL_Mo_1 : Cond.methodLink zr_Mo 1 ⟨"java/lang/Object", "<init>", "()V"⟩ ∈ zB := zm (i := 0) zV4_10 rfl rfl
theorem zH_Mo_7 : Cond.fieldLink zr_Mo 7 "EncounterLedgerModel" "wall" "[I" ∈ zB := zm (i := 1) zV4_10 rfl rfl
theorem zH_Mo_13 : Cond.fieldLink zr_Mo 13 "EncounterLedgerModel" "side" "[I" ∈ zB := zm (i := 2) zV4_10 rfl rfl
theorem zH_Mo_16 : Cond.fieldLink zr_Mo 16 "EncounterLedgerModel" "cell" "[I" ∈ zB := zm (i := 3) zV4_10 rfl rfl
theorem zH_Mo_19 : Cond.fieldLink zr_Mo 19 "EncounterLedgerModel" "most" "[I" ∈ zB := zm (i := 4) zV4_10 rfl rfl
theorem zH_Mo_22 : Cond.fieldLink zr_Mo 22 "EncounterLedgerModel" "life" "[I" ∈ zB := zm (i := 5) zV4_10 rfl rfl
theorem zH_Mo_25 : Cond.fieldLink zr_Mo 25 "EncounterLedgerModel" "bonus" "[I" ∈ zB := zm (i := 6) zV4_10 rfl rfl
theorem zH_Mo_28 : Cond.fieldLink zr_Mo 28 "EncounterLedgerModel" "speed" "[I" ∈ zB := zm (i := 7) zV4_10 rfl rfl
theorem zH_Mo_31 : Cond.fieldLink zr_Mo 31 "EncounterLedgerModel" "score" "[I" ∈ zB := zm (i := 8) zV4_10 rfl rfl
theorem zH_Mo_34 : Cond.fieldLink zr_Mo 34 "EncounterLedgerModel" "amount" "[I" ∈ zB := zm (i := 9) zV4_10 rfl rfl
theorem zH_Mo_37 : Cond.fieldLink zr_Mo 37 "EncounterLedgerModel" "greatest" "[I" ∈ zB := zm (i := 10) zV4_10 rfl rfl
theorem zH_Mo_40 : Cond.fieldLink zr_Mo 40 "EncounterLedgerModel" "order" "[I" ∈ zB := zm (i := 11) zV4_10 rfl rfl
theorem zH_Mo_81 : Cond.fieldLink zr_Mo 81 "EncounterLedgerModel" "fighters" "I" ∈ zB := zm (i := 12) zV4_10 rfl rfl
theorem zH_Mo_43 : Cond.fieldLink zr_Mo 43 "EncounterLedgerModel" "lastReason" "I" ∈ zB := zm (i := 13) zV4_10 rfl rfl
theorem zH_Mo_47 : Cond.fieldLink zr_Mo 47 "EncounterLedgerModel" "journal" "[I" ∈ zB := zm (i := 14) zV4_10 rfl rfl
theorem zH_Mo_92 : Cond.fieldLink zr_Mo 92 "EncounterLedgerModel" "entries" "I" ∈ zB := zm (i := 15) zV4_10 rfl rfl
theorem zH_Mo_50 : Cond.fieldLink zr_Mo 50 "EncounterLedgerModel" "condition" "[I" ∈ zB := zm (i := 0) zV4_11 rfl rfl
theorem zH_Mo_95 : Cond.fieldLink zr_Mo 95 "EncounterLedgerModel" "conditions" "I" ∈ zB := zm (i := 1) zV4_11 rfl rfl
theorem zH_Mo_120 : Cond.fieldLink zr_Mo 120 "EncounterLedgerModel" "harmed" "I" ∈ zB := zm (i := 2) zV4_11 rfl rfl
theorem zH_Mo_123 : Cond.fieldLink zr_Mo 123 "EncounterLedgerModel" "mended" "I" ∈ zB := zm (i := 3) zV4_11 rfl rfl
theorem zH_Mo_181 : Cond.fieldLink zr_Mo 181 "EncounterLedgerModel" "isOn" "I" ∈ zB := zm (i := 4) zV4_11 rfl rfl
theorem zH_Mo_126 : Cond.fieldLink zr_Mo 126 "EncounterLedgerModel" "now" "I" ∈ zB := zm (i := 5) zV4_11 rfl rfl
theorem zH_Mo_133 : Cond.fieldLink zr_Mo 133 "EncounterLedgerModel" "orderMany" "I" ∈ zB := zm (i := 6) zV4_11 rfl rfl
theorem zH_Mo_149 : Cond.fieldLink zr_Mo 149 "EncounterLedgerModel" "round" "I" ∈ zB := zm (i := 7) zV4_11 rfl rfl
theorem zH_Mo_140 : Cond.fieldLink zr_Mo 140 "EncounterLedgerModel" "made" "I" ∈ zB := zm (i := 8) zV4_11 rfl rfl
theorem zH_Mo_143 : Cond.fieldLink zr_Mo 143 "EncounterLedgerModel" "acted" "I" ∈ zB := zm (i := 9) zV4_11 rfl rfl
theorem zH_Mo_129 : Cond.fieldLink zr_Mo 129 "EncounterLedgerModel" "z" "I" ∈ zB := zm (i := 10) zV4_11 rfl rfl
theorem zH_Mo_191 : Cond.fieldLink zr_Mo 191 "EncounterLedgerModel" "begun" "I" ∈ zB := zm (i := 11) zV4_11 rfl rfl
theorem zH_Mo_146 : Cond.fieldLink zr_Mo 146 "EncounterLedgerModel" "turns" "I" ∈ zB := zm (i := 12) zV4_11 rfl rfl
theorem zH_Mo_218 : Cond.fieldLink zr_Mo 218 "EncounterLedgerModel" "deeds" "I" ∈ zB := zm (i := 13) zV4_11 rfl rfl
theorem zH_Mo_280 : Cond.fieldLink zr_Mo 280 "EncounterLedgerModel" "rests" "I" ∈ zB := zm (i := 14) zV4_11 rfl rfl
theorem zH_Mo_53 : Cond.fieldLink zr_Mo 53 "EncounterLedgerModel" "poisoner" "[I" ∈ zB := zm (i := 15) zV4_11 rfl rfl
theorem zH_Mo_56 : Cond.fieldLink zr_Mo 56 "EncounterLedgerModel" "steps" "[I" ∈ zB := zm (i := 0) zV4_12 rfl rfl
theorem zH_Mo_59 : Cond.fieldLink zr_Mo 59 "EncounterLedgerModel" "queue" "[I" ∈ zB := zm (i := 1) zV4_12 rfl rfl
theorem zH_Mo_62 : Cond.fieldLink zr_Mo 62 "EncounterLedgerModel" "power" "[I" ∈ zB := zm (i := 2) zV4_12 rfl rfl
theorem zH_Mo_65 : Cond.fieldLink zr_Mo 65 "EncounterLedgerModel" "tape" "[I" ∈ zB := zm (i := 3) zV4_12 rfl rfl
theorem zH_Mo_68 : Cond.fieldLink zr_Mo 68 "EncounterLedgerModel" "read" "[I" ∈ zB := zm (i := 4) zV4_12 rfl rfl
theorem zH_Mo_224 : Cond.fieldLink zr_Mo 224 "EncounterLedgerModel" "length" "I" ∈ zB := zm (i := 5) zV4_12 rfl rfl
theorem zH_Mo_231 : Cond.fieldLink zr_Mo 231 "EncounterLedgerModel" "at" "I" ∈ zB := zm (i := 6) zV4_12 rfl rfl
theorem zH_Mo_253 : Cond.fieldLink zr_Mo 253 "EncounterLedgerModel" "powersRead" "I" ∈ zB := zm (i := 7) zV4_12 rfl rfl
theorem zH_Mo_71 : Cond.fieldLink zr_Mo 71 "EncounterLedgerModel" "within" "[Z" ∈ zB := zm (i := 8) zV4_12 rfl rfl
theorem zH_Mo_75 : Cond.fieldLink zr_Mo 75 "EncounterLedgerModel" "earlier" "[I" ∈ zB := zm (i := 9) zV4_12 rfl rfl
theorem zH_Mo_78 : Cond.fieldLink zr_Mo 78 "EncounterLedgerModel" "saved" "[I" ∈ zB := zm (i := 10) zV4_12 rfl rfl
theorem zH_Mo_317 : Cond.fieldLink zr_Mo 317 "EncounterLedgerModel" "changes" "I" ∈ zB := zm (i := 11) zV4_12 rfl rfl
theorem zH_Mo_302 : Cond.fieldLink zr_Mo 302 "EncounterLedgerModel" "cursor" "I" ∈ zB := zm (i := 12) zV4_12 rfl rfl
theorem zH_Mo_324 : Cond.fieldLink zr_Mo 324 "EncounterLedgerModel" "isSaved" "Z" ∈ zB := zm (i := 13) zV4_12 rfl rfl
theorem zH_Mo_298 : Cond.fieldLink zr_Mo 298 "EncounterLedgerModel" "isKeeping" "Z" ∈ zB := zm (i := 14) zV4_12 rfl rfl
theorem zA_boolean : Cond.arrayClass (Jvm.ClassFile.FieldType.boolean) ∈ zB := zm (i := 12) zV5_3 rfl rfl
theorem zL_La_17 : Cond.methodLink zr_La 17 zy_Mo_add ∈ zB := zm (i := 13) zV5_3 rfl rfl
theorem zL_Mo_84 : Cond.methodLink zr_Mo 84 zy_Mo_isBetween ∈ zB := zm (i := 1) zV5_4 rfl rfl
theorem zL_Mo_166 : Cond.methodLink zr_Mo 166 zy_Mo_isCell ∈ zB := zm (i := 4) zV5_4 rfl rfl
theorem zL_Mo_169 : Cond.methodLink zr_Mo 169 zy_Mo_isFree ∈ zB := zm (i := 7) zV5_4 rfl rfl
theorem zL_Mo_88 : Cond.methodLink zr_Mo 88 zy_Mo_fighterOn ∈ zB := zm (i := 11) zV5_4 rfl rfl
theorem zL_Mo_172 : Cond.methodLink zr_Mo 172 zy_Mo_refuses ∈ zB := zm (i := 15) zV5_4 rfl rfl
theorem zL_Mo_175 : Cond.methodLink zr_Mo 175 zy_Mo_remembers ∈ zB := zm (i := 3) zV5_5 rfl rfl
theorem zL_Mo_320 : Cond.methodLink zr_Mo 320 zy_Mo_passAll ∈ zB := zm (i := 7) zV5_5 rfl rfl
theorem zL_Mo_305 : Cond.methodLink zr_Mo 305 zy_Mo_passes ∈ zB := zm (i := 11) zV5_5 rfl rfl
theorem zL_Mo_309 : Cond.methodLink zr_Mo 309 zy_Mo_pass ∈ zB := zm (i := 15) zV5_5 rfl rfl
theorem zL_Mo_313 : Cond.methodLink zr_Mo 313 zy_Mo_passCounts ∈ zB := zm (i := 3) zV5_6 rfl rfl
theorem zL_Mo_102 : Cond.methodLink zr_Mo 102 zy_Mo_notes ∈ zB := zm (i := 7) zV5_6 rfl rfl
theorem zL_La_22 : Cond.methodLink zr_La 22 zy_Mo_wall ∈ zB := zm (i := 11) zV5_6 rfl rfl
theorem zL_La_27 : Cond.methodLink zr_La 27 zy_Mo_amount ∈ zB := zm (i := 15) zV5_6 rfl rfl
theorem zL_Mo_178 : Cond.methodLink zr_Mo 178 zy_Mo_isFighter ∈ zB := zm (i := 3) zV5_7 rfl rfl
theorem zL_La_31 : Cond.methodLink zr_La 31 zy_Mo_begin ∈ zB := zm (i := 7) zV5_7 rfl rfl
theorem zL_Mo_184 : Cond.methodLink zr_Mo 184 zy_Mo_draws ∈ zB := zm (i := 11) zV5_7 rfl rfl
theorem zC_Mo_132 : Cond.constant zr_Mo 132 1103515245 ∈ zB := zm (i := 15) zV5_7 rfl rfl
theorem zL_Mo_187 : Cond.methodLink zr_Mo 187 zy_Mo_isAhead ∈ zB := zm (i := 0) zV5_8 rfl rfl
theorem zL_Mo_163 : Cond.methodLink zr_Mo 163 zy_Mo_beginsTurn ∈ zB := zm (i := 4) zV5_8 rfl rfl
theorem zL_Mo_136 : Cond.methodLink zr_Mo 136 zy_Mo_current ∈ zB := zm (i := 8) zV5_8 rfl rfl
theorem zL_Mo_152 : Cond.methodLink zr_Mo 152 zy_Mo_counts ∈ zB := zm (i := 12) zV5_8 rfl rfl
theorem zL_Mo_98 : Cond.methodLink zr_Mo 98 zy_Mo_partOf ∈ zB := zm (i := 0) zV5_9 rfl rfl
theorem zL_Mo_117 : Cond.methodLink zr_Mo 117 zy_Mo_endsAt ∈ zB := zm (i := 4) zV5_9 rfl rfl
theorem zL_Mo_156 : Cond.methodLink zr_Mo 156 zy_Mo_poisonBy ∈ zB := zm (i := 8) zV5_9 rfl rfl
theorem zL_Mo_159 : Cond.methodLink zr_Mo 159 zy_Mo_harms ∈ zB := zm (i := 12) zV5_9 rfl rfl
theorem zL_Mo_110 : Cond.methodLink zr_Mo 110 zy_Mo_isDown ∈ zB := zm (i := 0) zV5_10 rfl rfl
theorem zL_Mo_114 : Cond.methodLink zr_Mo 114 zy_Mo_sumOf ∈ zB := zm (i := 4) zV5_10 rfl rfl
theorem zL_La_36 : Cond.methodLink zr_La 36 zy_Mo_finish ∈ zB := zm (i := 8) zV5_10 rfl rfl
theorem zL_La_40 : Cond.methodLink zr_La 40 zy_Mo_endTurn ∈ zB := zm (i := 12) zV5_10 rfl rfl
theorem zL_Mo_194 : Cond.methodLink zr_Mo 194 zy_Mo_passesTurn ∈ zB := zm (i := 0) zV5_11 rfl rfl
theorem zL_La_44 : Cond.methodLink zr_La 44 zy_Mo_delay ∈ zB := zm (i := 4) zV5_11 rfl rfl
theorem zL_Mo_197 : Cond.methodLink zr_Mo 197 zy_Mo_canAct ∈ zB := zm (i := 8) zV5_11 rfl rfl
theorem zL_Mo_200 : Cond.methodLink zr_Mo 200 zy_Mo_placeOf ∈ zB := zm (i := 12) zV5_11 rfl rfl
theorem zL_La_48 : Cond.methodLink zr_La 48 zy_Mo_move ∈ zB := zm (i := 0) zV5_12 rfl rfl
theorem zL_Mo_209 : Cond.methodLink zr_Mo 209 zy_Mo_findSteps ∈ zB := zm (i := 4) zV5_12 rfl rfl
theorem zL_Mo_203 : Cond.methodLink zr_Mo 203 zy_Mo_beside ∈ zB := zm (i := 8) zV5_12 rfl rfl
theorem zL_Mo_206 : Cond.methodLink zr_Mo 206 zy_Mo_isHeld ∈ zB := zm (i := 11) zV5_12 rfl rfl
theorem zL_Mo_212 : Cond.methodLink zr_Mo 212 zy_Mo_left ∈ zB := zm (i := 15) zV5_12 rfl rfl
theorem zL_La_90 : Cond.methodLink zr_La 90 zy_Mo_way ∈ zB := zm (i := 3) zV5_13 rfl rfl
theorem zL_La_52 : Cond.methodLink zr_La 52 zy_Mo_strike ∈ zB := zm (i := 7) zV5_13 rfl rfl
theorem zL_Mo_215 : Cond.methodLink zr_Mo 215 zy_Mo_areNeighbors ∈ zB := zm (i := 11) zV5_13 rfl rfl
theorem zL_La_57 : Cond.methodLink zr_La 57 zy_Mo_feed ∈ zB := zm (i := 15) zV5_13 rfl rfl
theorem zL_Mo_221 : Cond.methodLink zr_Mo 221 zy_Mo_isByte ∈ zB := zm (i := 3) zV5_14 rfl rfl
theorem zL_Mo_227 : Cond.methodLink zr_Mo 227 zy_Mo_comes ∈ zB := zm (i := 6) zV5_14 rfl rfl
theorem zL_La_61 : Cond.methodLink zr_La 61 zy_Mo_power ∈ zB := zm (i := 10) zV5_14 rfl rfl
theorem zL_Mo_250 : Cond.methodLink zr_Mo 250 zy_Mo_takesPower ∈ zB := zm (i := 14) zV5_14 rfl rfl
theorem zL_Mo_240 : Cond.methodLink zr_Mo 240 zy_Mo_shapeOf ∈ zB := zm (i := 2) zV6_0 rfl rfl
theorem zL_Mo_234 : Cond.methodLink zr_Mo 234 zy_Mo_takes ∈ zB := zm (i := 5) zV6_0 rfl rfl
theorem zL_Mo_243 : Cond.methodLink zr_Mo 243 zy_Mo_skips ∈ zB := zm (i := 9) zV6_0 rfl rfl
theorem zL_Mo_246 : Cond.methodLink zr_Mo 246 zy_Mo_takesEffect ∈ zB := zm (i := 13) zV6_0 rfl rfl
theorem zL_Mo_237 : Cond.methodLink zr_Mo 237 zy_Mo_takesNumber ∈ zB := zm (i := 1) zV6_1 rfl rfl
theorem zL_La_86 : Cond.methodLink zr_La 86 zy_Mo_area ∈ zB := zm (i := 5) zV6_1 rfl rfl
theorem zL_Mo_263 : Cond.methodLink zr_Mo 263 zy_Mo_findArea ∈ zB := zm (i := 9) zV6_1 rfl rfl
theorem zL_Mo_256 : Cond.methodLink zr_Mo 256 zy_Mo_isWithin ∈ zB := zm (i := 13) zV6_1 rfl rfl
theorem zL_Mo_260 : Cond.methodLink zr_Mo 260 zy_Mo_distance ∈ zB := zm (i := 0) zV6_2 rfl rfl
theorem zL_La_65 : Cond.methodLink zr_La 65 zy_Mo_cast ∈ zB := zm (i := 3) zV6_2 rfl rfl
theorem zL_Mo_274 : Cond.methodLink zr_Mo 274 zy_Mo_inTurn ∈ zB := zm (i := 7) zV6_2 rfl rfl
theorem zL_Mo_277 : Cond.methodLink zr_Mo 277 zy_Mo_affects ∈ zB := zm (i := 11) zV6_2 rfl rfl
theorem zL_Mo_267 : Cond.methodLink zr_Mo 267 zy_Mo_mends ∈ zB := zm (i := 15) zV6_2 rfl rfl
theorem zL_Mo_270 : Cond.methodLink zr_Mo 270 zy_Mo_makes ∈ zB := zm (i := 3) zV6_3 rfl rfl
theorem zL_Mo_106 : Cond.methodLink zr_Mo 106 zy_Mo_packed ∈ zB := zm (i := 7) zV6_3 rfl rfl
theorem zL_La_69 : Cond.methodLink zr_La 69 zy_Mo_rest ∈ zB := zm (i := 10) zV6_3 rfl rfl
theorem zL_Mo_283 : Cond.methodLink zr_Mo 283 zy_Mo_refills ∈ zB := zm (i := 14) zV6_3 rfl rfl
theorem zL_La_74 : Cond.methodLink zr_La 74 zy_Mo_fighter ∈ zB := zm (i := 2) zV6_4 rfl rfl
theorem zL_Mo_286 : Cond.methodLink zr_Mo 286 zy_Mo_fighterMore ∈ zB := zm (i := 6) zV6_4 rfl rfl
theorem zL_La_78 : Cond.methodLink zr_La 78 zy_Mo_turn ∈ zB := zm (i := 10) zV6_4 rfl rfl
theorem zL_La_82 : Cond.methodLink zr_La 82 zy_Mo_condition ∈ zB := zm (i := 14) zV6_4 rfl rfl
theorem zL_La_94 : Cond.methodLink zr_La 94 zy_Mo_entry ∈ zB := zm (i := 2) zV6_5 rfl rfl
theorem zL_Mo_289 : Cond.methodLink zr_Mo 289 zy_Mo_entryPart ∈ zB := zm (i := 6) zV6_5 rfl rfl
theorem zL_La_98 : Cond.methodLink zr_La 98 zy_Mo_replayed ∈ zB := zm (i := 10) zV6_5 rfl rfl
theorem zL_Mo_292 : Cond.methodLink zr_Mo 292 zy_Mo_replays ∈ zB := zm (i := 14) zV6_5 rfl rfl
theorem zL_La_102 : Cond.methodLink zr_La 102 zy_Mo_reason ∈ zB := zm (i := 1) zV6_6 rfl rfl
theorem zL_La_106 : Cond.methodLink zr_La 106 zy_Mo_account ∈ zB := zm (i := 5) zV6_6 rfl rfl
theorem zL_Mo_295 : Cond.methodLink zr_Mo 295 zy_Mo_livesOf ∈ zB := zm (i := 9) zV6_6 rfl rfl
theorem zL_La_110 : Cond.methodLink zr_La 110 zy_Mo_back ∈ zB := zm (i := 13) zV6_6 rfl rfl
theorem zL_La_114 : Cond.methodLink zr_La 114 zy_Mo_image ∈ zB := zm (i := 1) zV6_7 rfl rfl
theorem zL_La_118 : Cond.methodLink zr_La 118 zy_Mo_undo ∈ zB := zm (i := 5) zV6_7 rfl rfl
theorem zL_La_122 : Cond.methodLink zr_La 122 zy_Mo_count ∈ zB := zm (i := 9) zV6_7 rfl rfl
def zNf : List (String × Nat × String × String × String × String) := [(zr_EL, 261, "EncounterLedger$Journal", "total", "I", "EncounterLedger"), (zr_EL, 290, "EncounterLedger$Fighters", "harm", "I", "EncounterLedger"), (zr_EL, 293, "EncounterLedger$Fighters", "mended", "I", "EncounterLedger"), (zr_EL, 123, "EncounterLedger$Encounter", "round", "I", "EncounterLedger"), (zr_EL, 151, "EncounterLedger$Encounter", "steps", "I", "EncounterLedger"), (zr_EL, 244, "EncounterLedger$Encounter", "acted", "Z", "EncounterLedger"), (zr_EL, 296, "EncounterLedger$Encounter", "opened", "I", "EncounterLedger"), (zr_EL, 299, "EncounterLedger$Encounter", "turns", "I", "EncounterLedger"), (zr_EL, 302, "EncounterLedger$Encounter", "acts", "I", "EncounterLedger"), (zr_EL, 257, "EncounterLedger$State", "journal", "LEncounterLedger$Journal;", "EncounterLedger"), (zr_EL, 223, "EncounterLedger$State", "conditions", "LEncounterLedger$Conditions;", "EncounterLedger"), (zr_Wa, 26, "EncounterLedger$State", "fighters", "LEncounterLedger$Fighters;", "EncounterLedger"), (zr_EL, 59, "EncounterLedger$State", "fighters", "LEncounterLedger$Fighters;", "EncounterLedger"), (zr_EL, 97, "EncounterLedger$State", "encounter", "LEncounterLedger$Encounter;", "EncounterLedger"), (zr_Wa, 46, "EncounterLedger$State", "walls", "LEncounterLedger$Table;", "EncounterLedger"), (zr_EL, 80, "EncounterLedger$State", "walls", "LEncounterLedger$Table;", "EncounterLedger"), (zr_EL, 179, "EncounterLedger$State", "powers", "LEncounterLedger$Table;", "EncounterLedger"), (zr_EL, 214, "EncounterLedger$State", "rests", "I", "EncounterLedger"), (zr_EL, 308, "EncounterLedger$Changes", "size", "I", "EncounterLedger"), (zr_EL, 176, "EncounterLedger$Tape", "length", "I", "EncounterLedger"), (zr_EL, 188, "EncounterLedger$Tape", "position", "I", "EncounterLedger")]
def zNm : List (String × Nat × MethodName × String) := [(zr_St, 27, zy_Jo_init, "EncounterLedger"), (zr_EL, 28, zy_Tp_init, "EncounterLedger"), (zr_EL, 35, zy_Wa_init, "EncounterLedger"), (zr_Wa, 67, zy_EL_columnStep, "EncounterLedger"), (zr_Wa, 71, zy_EL_rowStep, "EncounterLedger")]
theorem zNf_in : ∀ q ∈ zNf, Cond.fieldLinkNest q.1 q.2.1 q.2.2.1 q.2.2.2.1 q.2.2.2.2.1 q.2.2.2.2.2 ∈ lw_tbl := List.forall_mem_cons.mpr ⟨zX_EL_261, List.forall_mem_cons.mpr ⟨zX_EL_290, List.forall_mem_cons.mpr ⟨zX_EL_293, List.forall_mem_cons.mpr ⟨zX_EL_123, List.forall_mem_cons.mpr ⟨zX_EL_151, List.forall_mem_cons.mpr ⟨zX_EL_244, List.forall_mem_cons.mpr ⟨zX_EL_296, List.forall_mem_cons.mpr ⟨zX_EL_299, List.forall_mem_cons.mpr ⟨zX_EL_302, List.forall_mem_cons.mpr ⟨zX_EL_257, List.forall_mem_cons.mpr ⟨zX_EL_223, List.forall_mem_cons.mpr ⟨zX_Wa_26, List.forall_mem_cons.mpr ⟨zX_EL_59, List.forall_mem_cons.mpr ⟨zX_EL_97, List.forall_mem_cons.mpr ⟨zX_Wa_46, List.forall_mem_cons.mpr ⟨zX_EL_80, List.forall_mem_cons.mpr ⟨zX_EL_179, List.forall_mem_cons.mpr ⟨zX_EL_214, List.forall_mem_cons.mpr ⟨zX_EL_308, List.forall_mem_cons.mpr ⟨zX_EL_176, List.forall_mem_cons.mpr ⟨zX_EL_188, fun _ h => absurd h List.not_mem_nil⟩⟩⟩⟩⟩⟩⟩⟩⟩⟩⟩⟩⟩⟩⟩⟩⟩⟩⟩⟩⟩
theorem zNm_in : ∀ q ∈ zNm, Cond.methodLinkNest q.1 q.2.1 q.2.2.1 q.2.2.2 ∈ lw_tbl := List.forall_mem_cons.mpr ⟨zX_St_27, List.forall_mem_cons.mpr ⟨zX_EL_28, List.forall_mem_cons.mpr ⟨zX_EL_35, List.forall_mem_cons.mpr ⟨zX_Wa_67, List.forall_mem_cons.mpr ⟨zX_Wa_71, fun _ h => absurd h List.not_mem_nil⟩⟩⟩⟩⟩
end
section
/-! the judgement Go: the machine at a pc, over a world, listed locals and a stack; one row an instruction -/
abbrev zY : Type := ClassId × ClassId × ClassId
def zTy (y : zY) : List (ClassId × FieldType) := [(y.1, .int), (y.2.1, .boolean), (y.2.2, .object "EncounterLedger$State")]
def zNW (U : State) : Prop := (∀ q ∈ zNf, va_Nw (.fieldLinkNest q.1 q.2.1 q.2.2.1 q.2.2.2.1 q.2.2.2.2.1 q.2.2.2.2.2) U) ∧ ∀ q ∈ zNm, va_Nw (.methodLinkNest q.1 q.2.1 q.2.2.1 q.2.2.2) U
theorem zNW.warm {s U : State} (hW : s.WarmedH U.vm) (h : zNW s) : zNW U := ⟨fun q hq => va_Nw.warmF hW (h.1 q hq), fun q hq => va_Nw.warmM hW (h.2 q hq)⟩
theorem zNW.same {u U : State} (hv : u.vm = U.vm) (h : zNW u) : zNW U := ⟨fun q hq => va_Nw.same rfl hv (h.1 q hq), fun q hq => va_Nw.same rfl hv (h.2 q hq)⟩
theorem zNW.of {args : Array Value} {s : State} (h : ∀ w ∈ lw_tbl, w.before args s = true) : zNW s := ⟨fun q hq => va_Nw.of rfl (h _ (zNf_in q hq)), fun q hq => va_Nw.of rfl (h _ (zNm_in q hq))⟩
def zRm (d : Nat) : Room := { frames := d, cells := 0, slots := 0, locals := 41 * d }
/-- which cells a world has -/
def zA (w : va_W) : Nat → Prop := fun a => ∃ (k : Nat) (e : va_E), w[k]? = some (a, e)
def zQ (D : va_G) (r : Option Value) (w' : va_W) (A : Nat → Prop) : Array Value → State → Outcome → State → Prop := fun _ st o t => (o = .returned r ∧ va_P D zCl w' t.heap) ∧ va_F A st t
def zP (D : va_G) (y : zY) (w : va_W) (U : State) : Prop := va_P D zCl w U.heap ∧ va_K D zCl (zTy y) U ∧ zNW U ∧ va_D (fun _ => True) w
/-- a method's contract: from the world w with the arguments av it returns r, with the world w' -/
def KM (y : MethodName) (bytes : ByteArray) (maxL : Nat) (ret : Option FieldType) (d : Nat) (c : zY) (av : List Value) (w w' : va_W) (r : Option Value) : Prop :=
  w'.map Prod.fst = w.map Prod.fst ∧ ∀ (l : Launch) (D : va_G), Met l y (Cond.code y bytes maxL ret :: zB) (zRm d) (va_Pc av (zP D c w)) (zQ D r w' (zA w)) 0 0 (zA w)
abbrev zX : Type := Program × Launch × Env × Room × State × MethodId × Array Value × List Frame × Method × Code × Nat × Nat × (State → Prop) × va_G × List (ClassId × FieldType) × (Nat → Prop)
def Go : zX → va_W → List (Nat × Value) → Nat → List Value → Prop
  | (p, l, e, R, s, m, args, below, meth, c, cells, slots, Q, D, _, A), w, L, pc, st => ∀ (H : Heap) (locs : List Loc) (ls : Array Slot), va_P D zCl w H → va_D A w → va_S A s.heap H locs → lv_has ls c.maxLocals L → W p l e R s m args below meth c H locs cells slots Q (F0 m pc ls st)
def Ok : zX → String → ByteArray → Nat → Nat → zY → Prop
  | (p, _, _, R, s, m, args, _, meth, c, cells, slots, _, D, tys, _), own, cc, n, d, y => p.tables.exec = Jvm.exec ∧ c.code = cc ∧ c.maxLocals = n ∧ s.vm.findClass own = some m.cls ∧ meth.locks = false ∧ (∀ w ∈ zB, w.before args s = true) ∧ va_K D zCl tys s ∧ zNW s ∧ tys = zTy y ∧ (d ≤ R.frames ∧ 41 * d ≤ R.locals) ∧ cells ≤ R.cells ∧ slots ≤ R.slots
def Rt : zX → Option FieldType → Option Value → va_W → Prop
  | (_, _, _, _, s, _, args, below, meth, _, cells, slots, Q, D, _, A), ret, r, w' => meth.sig.returnType = ret ∧ Q = MQ below (zQ D r w' A) args s cells slots A
theorem zD_fst {A : Nat → Prop} {w w' : va_W} (h : w'.map Prod.fst = w.map Prod.fst) (hD : va_D A w) : va_D A w' := by
  have key : ∀ (k : Nat) (q : Nat × va_E), w'[k]? = some q → ∃ q0, w[k]? = some q0 ∧ q0.1 = q.1 := by
    intro k q hk
    have h1 : (w'.map Prod.fst)[k]? = some q.1 := by rw [List.getElem?_map, hk]; rfl
    rw [h, List.getElem?_map] at h1
    cases hz : w[k]? with
    | none => rw [hz] at h1; cases h1
    | some q0 => rw [hz] at h1; exact ⟨q0, rfl, Option.some.inj h1⟩
  refine ⟨fun i j x y hi hj hxy => ?_, fun k q hk => ?_⟩
  · obtain ⟨x0, h1, h2⟩ := key i x hi
    obtain ⟨y0, h3, h4⟩ := key j y hj
    exact hD.1 i j x0 y0 h1 h3 (h2.trans (hxy.trans h4.symm))
  · obtain ⟨q0, h1, h2⟩ := key k q hk
    rw [← h2]; exact hD.2 k q0 h1
theorem zK_of {y : MethodName} {own : String} {bytes : ByteArray} {maxL : Nat} {ret : Option FieldType} {d : Nat} {c : zY} {av : List Value} {w w' : va_W} {r : Option Value} (hp : plainName y.cls = true) (ho : y.cls = own) (hl : (lg_sl av).length ≤ maxL) (hw : w'.map Prod.fst = w.map Prod.fst)
    (body : ∀ X : zX, Ok X own bytes maxL d c → Rt X ret r w' → Go X w (lv_args 0 av) 0 []) : KM y bytes maxL ret d c av w w' r := by
  refine ⟨hw, fun l D => Met.ofW (cc := bytes) (maxL := maxL) (ret := ret) hp rfl ?_⟩
  intro p e s m args below meth cd s₁ B hml hv
  obtain ⟨rfl, hP, hK, hN, hD0⟩ := hv
  have hts := atoms_spec (ws := Cond.code y bytes maxL ret :: zB) B.pre
  have hown : s.vm.findClass own = some m.cls := ho ▸ findClass_of_methodNamed B.named
  have key := body (p, l, e, (headSpec (Cond.code y bytes maxL ret :: zB) (zRm d)).room, s, m, av.toArray, below, meth, cd, 0, 0, MQ below (zQ D r w' (zA w)) av.toArray s 0 0 (zA w), D, zTy c, zA w)
    ⟨B.exec, B.bytes, hml, hown, B.notSynchronized, fun q hq => hts q (List.mem_cons_of_mem _ hq), hK, hN, rfl, ⟨Nat.le_refl _, Nat.le_refl _⟩, Nat.zero_le _, Nat.zero_le _⟩ ⟨B.returns, rfl⟩
  rw [lg_entry_eq]
  refine key s.heap [] _ hP ⟨hD0.1, fun k q hk => ⟨k, q.2, hk⟩⟩ va_S.rf ?_
  rw [hml]
  exact lv_entry av hl
section GROWS
variable {X : zX} {own : String} {cc : ByteArray} {n d : Nat} {c : zY} {w w' : va_W} {L L' : List (Nat × Value)} {pc : Nat} {st : List Value} {α : Type} {o : α} {K K2 : Option α}
theorem g_iconst {i : Int} {v : Int32} (hX : Ok X own cc n d c) (hd : decode cc pc = .ok (.iconst i, 1)) (hv : Int32.ofInt i = v) (k : Go X w L (pc + 1) (.int v :: st)) : Go X w L pc st := by
  obtain ⟨p, l, e, R, s, m, args, below, meth, cd, cells, slots, Q, D, tys, A⟩ := X; obtain ⟨hx, hb, -⟩ := hX; intro H locs ls hP hD hS hl
  exact lv_iconst hx hb hd hv (k H locs ls hP hD hS hl)
theorem g_bipush {i : Int} {v : Int32} (hX : Ok X own cc n d c) (hd : decode cc pc = .ok (.bipush i, 2)) (hv : (Int8.ofInt i).toInt32 = v) (k : Go X w L (pc + 2) (.int v :: st)) : Go X w L pc st := by
  obtain ⟨p, l, e, R, s, m, args, below, meth, cd, cells, slots, Q, D, tys, A⟩ := X; obtain ⟨hx, hb, -⟩ := hX; intro H locs ls hP hD hS hl
  exact lv_bipush hx hb hd hv (k H locs ls hP hD hS hl)
theorem g_sipush {i : Int} {v : Int32} (hX : Ok X own cc n d c) (hd : decode cc pc = .ok (.sipush i, 3)) (hv : (Int16.ofInt i).toInt32 = v) (k : Go X w L (pc + 3) (.int v :: st)) : Go X w L pc st := by
  obtain ⟨p, l, e, R, s, m, args, below, meth, cd, cells, slots, Q, D, tys, A⟩ := X; obtain ⟨hx, hb, -⟩ := hX; intro H locs ls hP hD hS hl
  exact lv_sipush hx hb hd hv (k H locs ls hP hD hS hl)
theorem g_ldc {i : Nat} {v : Int32} (hX : Ok X own cc n d c) (hd : decode cc pc = .ok (.ldc i, 2)) (hv : Cond.constant own i v ∈ zB) (k : Go X w L (pc + 2) (.int v :: st)) : Go X w L pc st := by
  obtain ⟨p, l, e, R, s, m, args, below, meth, cd, cells, slots, Q, D, tys, A⟩ := X; obtain ⟨hx, hb, -, hown, -, hB, -⟩ := hX; intro H locs ls hP hD hS hl
  exact lv_ldc hx hb hown (hB _ hv) hd (k H locs ls hP hD hS hl)
theorem g_iload_n {j : Fin 4} {i : Nat} {x : Int32} (hX : Ok X own cc n d c) (hd : decode cc pc = .ok (.iload_n j, 1)) (hi : (j : Nat) = i) (q : Nat) (hq : L[q]? = some (i, .int x)) (k : Go X w L (pc + 1) (.int x :: st)) : Go X w L pc st := by
  obtain ⟨p, l, e, R, s, m, args, below, meth, cd, cells, slots, Q, D, tys, A⟩ := X; obtain ⟨hx, hb, -⟩ := hX; intro H locs ls hP hD hS hl
  exact lv_iload_n hx hb hd hi (lv_at hl q hq) (k H locs ls hP hD hS hl)
theorem g_iload {i : Nat} {x : Int32} (hX : Ok X own cc n d c) (hd : decode cc pc = .ok (.iload i, 2)) (q : Nat) (hq : L[q]? = some (i, .int x)) (k : Go X w L (pc + 2) (.int x :: st)) : Go X w L pc st := by
  obtain ⟨p, l, e, R, s, m, args, below, meth, cd, cells, slots, Q, D, tys, A⟩ := X; obtain ⟨hx, hb, -⟩ := hX; intro H locs ls hP hD hS hl
  exact lv_iload hx hb hd (lv_at hl q hq) (k H locs ls hP hD hS hl)
theorem g_aload_n {j : Fin 4} {i a : Nat} (hX : Ok X own cc n d c) (hd : decode cc pc = .ok (.aload_n j, 1)) (hi : (j : Nat) = i) (q : Nat) (hq : L[q]? = some (i, .ref a)) (k : Go X w L (pc + 1) (.ref a :: st)) : Go X w L pc st := by
  obtain ⟨p, l, e, R, s, m, args, below, meth, cd, cells, slots, Q, D, tys, A⟩ := X; obtain ⟨hx, hb, -⟩ := hX; intro H locs ls hP hD hS hl
  exact lv_aload_n hx hb hd hi (lv_at hl q hq) (k H locs ls hP hD hS hl)
theorem g_aload {i a : Nat} (hX : Ok X own cc n d c) (hd : decode cc pc = .ok (.aload i, 2)) (q : Nat) (hq : L[q]? = some (i, .ref a)) (k : Go X w L (pc + 2) (.ref a :: st)) : Go X w L pc st := by
  obtain ⟨p, l, e, R, s, m, args, below, meth, cd, cells, slots, Q, D, tys, A⟩ := X; obtain ⟨hx, hb, -⟩ := hX; intro H locs ls hP hD hS hl
  exact lv_aload hx hb hd (lv_at hl q hq) (k H locs ls hP hD hS hl)
theorem g_istore_n {j : Fin 4} {i : Nat} {x : Int32} (hX : Ok X own cc n d c) (hd : decode cc pc = .ok (.istore_n j, 1)) (hi : (j : Nat) = i) (hn : Nat.blt i n = true) (hL : (i, Value.int x) :: L.filter (fun q => !(q.1 == i) && !(q.1 + 1 == i && q.2.category == 2)) = L') (k : Go X w L' (pc + 1) st) : Go X w L pc (.int x :: st) := by
  obtain ⟨p, l, e, R, s, m, args, below, meth, cd, cells, slots, Q, D, tys, A⟩ := X; obtain ⟨hx, hb, hml, -⟩ := hX; intro H locs ls hP hD hS hl
  exact lv_istore_n hx hb hd hi hl (by rw [hml]; exact Nat.le_of_ble_eq_true hn) hL (fun ls' hl' => k H locs ls' hP hD hS hl')
theorem g_istore {i : Nat} {x : Int32} (hX : Ok X own cc n d c) (hd : decode cc pc = .ok (.istore i, 2)) (hn : Nat.blt i n = true) (hL : (i, Value.int x) :: L.filter (fun q => !(q.1 == i) && !(q.1 + 1 == i && q.2.category == 2)) = L') (k : Go X w L' (pc + 2) st) : Go X w L pc (.int x :: st) := by
  obtain ⟨p, l, e, R, s, m, args, below, meth, cd, cells, slots, Q, D, tys, A⟩ := X; obtain ⟨hx, hb, hml, -⟩ := hX; intro H locs ls hP hD hS hl
  exact lv_istore hx hb hd hl (by rw [hml]; exact Nat.le_of_ble_eq_true hn) hL (fun ls' hl' => k H locs ls' hP hD hS hl')
theorem g_astore_n {j : Fin 4} {i a : Nat} (hX : Ok X own cc n d c) (hd : decode cc pc = .ok (.astore_n j, 1)) (hi : (j : Nat) = i) (hn : Nat.blt i n = true) (hL : (i, Value.ref a) :: L.filter (fun q => !(q.1 == i) && !(q.1 + 1 == i && q.2.category == 2)) = L') (k : Go X w L' (pc + 1) st) : Go X w L pc (.ref a :: st) := by
  obtain ⟨p, l, e, R, s, m, args, below, meth, cd, cells, slots, Q, D, tys, A⟩ := X; obtain ⟨hx, hb, hml, -⟩ := hX; intro H locs ls hP hD hS hl
  exact lv_astore_n hx hb hd hi hl (by rw [hml]; exact Nat.le_of_ble_eq_true hn) hL (fun ls' hl' => k H locs ls' hP hD hS hl')
theorem g_iinc {i q : Nat} {z : Int} {x v : Int32} (hX : Ok X own cc n d c) (hd : decode cc pc = .ok (.iinc i z, 3)) (hq : L[q]? = some (i, .int x)) (hz : Int32.ofInt z = v) (hn : Nat.blt i n = true) (hL : (i, Value.int (x + v)) :: L.filter (fun q => !(q.1 == i) && !(q.1 + 1 == i && q.2.category == 2)) = L') (k : Go X w L' (pc + 3) st) : Go X w L pc st := by
  obtain ⟨p, l, e, R, s, m, args, below, meth, cd, cells, slots, Q, D, tys, A⟩ := X; obtain ⟨hx, hb, hml, -⟩ := hX; intro H locs ls hP hD hS hl
  exact lv_iinc hx hb hd hl hq (by rw [hz]) (by rw [hml]; exact Nat.le_of_ble_eq_true hn) hL (fun ls' hl' => k H locs ls' hP hD hS hl')
/-- the listed locals in another order, or fewer -/
theorem g_ls (ks : List Nat) (hL : lv_pick L ks = L') (k : Go X w L' pc st) : Go X w L pc st := by
  obtain ⟨p, l, e, R, s, m, args, below, meth, cd, cells, slots, Q, D, tys, A⟩ := X; intro H locs ls hP hD hS hl
  exact k H locs ls hP hD hS (lv_sub hl ks hL)
theorem g_iadd {x y : Int32} (hX : Ok X own cc n d c) (hd : decode cc pc = .ok (.iadd, 1)) (k : Go X w L (pc + 1) (.int (x + y) :: st)) : Go X w L pc (.int y :: .int x :: st) := by
  obtain ⟨p, l, e, R, s, m, args, below, meth, cd, cells, slots, Q, D, tys, A⟩ := X; obtain ⟨hx, hb, -⟩ := hX; intro H locs ls hP hD hS hl
  exact lv_iadd hx hb hd (k H locs ls hP hD hS hl)
theorem g_isub {x y : Int32} (hX : Ok X own cc n d c) (hd : decode cc pc = .ok (.isub, 1)) (k : Go X w L (pc + 1) (.int (x - y) :: st)) : Go X w L pc (.int y :: .int x :: st) := by
  obtain ⟨p, l, e, R, s, m, args, below, meth, cd, cells, slots, Q, D, tys, A⟩ := X; obtain ⟨hx, hb, -⟩ := hX; intro H locs ls hP hD hS hl
  exact lv_isub hx hb hd (k H locs ls hP hD hS hl)
theorem g_imul {x y : Int32} (hX : Ok X own cc n d c) (hd : decode cc pc = .ok (.imul, 1)) (k : Go X w L (pc + 1) (.int (x * y) :: st)) : Go X w L pc (.int y :: .int x :: st) := by
  obtain ⟨p, l, e, R, s, m, args, below, meth, cd, cells, slots, Q, D, tys, A⟩ := X; obtain ⟨hx, hb, -⟩ := hX; intro H locs ls hP hD hS hl
  exact lv_imul hx hb hd (k H locs ls hP hD hS hl)
theorem g_iand {x y : Int32} (hX : Ok X own cc n d c) (hd : decode cc pc = .ok (.iand, 1)) (k : Go X w L (pc + 1) (.int (x &&& y) :: st)) : Go X w L pc (.int y :: .int x :: st) := by
  obtain ⟨p, l, e, R, s, m, args, below, meth, cd, cells, slots, Q, D, tys, A⟩ := X; obtain ⟨hx, hb, -⟩ := hX; intro H locs ls hP hD hS hl
  exact lv_iand hx hb hd (k H locs ls hP hD hS hl)
theorem g_ior {x y : Int32} (hX : Ok X own cc n d c) (hd : decode cc pc = .ok (.ior, 1)) (k : Go X w L (pc + 1) (.int (x ||| y) :: st)) : Go X w L pc (.int y :: .int x :: st) := by
  obtain ⟨p, l, e, R, s, m, args, below, meth, cd, cells, slots, Q, D, tys, A⟩ := X; obtain ⟨hx, hb, -⟩ := hX; intro H locs ls hP hD hS hl
  exact lv_ior hx hb hd (k H locs ls hP hD hS hl)
theorem g_ishl {x y : Int32} (hX : Ok X own cc n d c) (hd : decode cc pc = .ok (.ishl, 1)) (k : Go X w L (pc + 1) (.int (x <<< (y &&& 31)) :: st)) : Go X w L pc (.int y :: .int x :: st) := by
  obtain ⟨p, l, e, R, s, m, args, below, meth, cd, cells, slots, Q, D, tys, A⟩ := X; obtain ⟨hx, hb, -⟩ := hX; intro H locs ls hP hD hS hl
  exact lv_ishl hx hb hd (k H locs ls hP hD hS hl)
theorem g_ishr {x y : Int32} (hX : Ok X own cc n d c) (hd : decode cc pc = .ok (.ishr, 1)) (k : Go X w L (pc + 1) (.int (x >>> (y &&& 31)) :: st)) : Go X w L pc (.int y :: .int x :: st) := by
  obtain ⟨p, l, e, R, s, m, args, below, meth, cd, cells, slots, Q, D, tys, A⟩ := X; obtain ⟨hx, hb, -⟩ := hX; intro H locs ls hP hD hS hl
  exact lv_ishr hx hb hd (k H locs ls hP hD hS hl)
def zush (x y : Int32) : Int32 := (x.toUInt32 >>> (y.toUInt32 &&& Int32.toUInt32 31)).toInt32
theorem g_iushr {x y : Int32} (hX : Ok X own cc n d c) (hd : decode cc pc = .ok (.iushr, 1)) (k : Go X w L (pc + 1) (.int (zush x y) :: st)) : Go X w L pc (.int y :: .int x :: st) := by
  obtain ⟨p, l, e, R, s, m, args, below, meth, cd, cells, slots, Q, D, tys, A⟩ := X; obtain ⟨hx, hb, -⟩ := hX; intro H locs ls hP hD hS hl
  exact lv_iushr hx hb hd rfl (k H locs ls hP hD hS hl)
theorem g_idiv {x y : Int32} (hX : Ok X own cc n d c) (hd : decode cc pc = .ok (.idiv, 1)) (hne : ¬ y = 0) (k : Go X w L (pc + 1) (.int (x / y) :: st)) : Go X w L pc (.int y :: .int x :: st) := by
  obtain ⟨p, l, e, R, s, m, args, below, meth, cd, cells, slots, Q, D, tys, A⟩ := X; obtain ⟨hx, hb, -⟩ := hX; intro H locs ls hP hD hS hl
  exact lv_idiv hx hb hd hne (k H locs ls hP hD hS hl)
def zrem (x y : Int32) : Int32 := x - x / y * y
theorem g_irem {x y : Int32} (hX : Ok X own cc n d c) (hd : decode cc pc = .ok (.irem, 1)) (hne : ¬ y = 0) (k : Go X w L (pc + 1) (.int (zrem x y) :: st)) : Go X w L pc (.int y :: .int x :: st) := by
  obtain ⟨p, l, e, R, s, m, args, below, meth, cd, cells, slots, Q, D, tys, A⟩ := X; obtain ⟨hx, hb, -⟩ := hX; intro H locs ls hP hD hS hl
  exact lv_irem hx hb hd hne (k H locs ls hP hD hS hl)
theorem g_dup {v : Value} (hX : Ok X own cc n d c) (hd : decode cc pc = .ok (.dup, 1)) (hv : v.category = 1) (k : Go X w L (pc + 1) (v :: v :: st)) : Go X w L pc (v :: st) := by
  obtain ⟨p, l, e, R, s, m, args, below, meth, cd, cells, slots, Q, D, tys, A⟩ := X; obtain ⟨hx, hb, -⟩ := hX; intro H locs ls hP hD hS hl
  exact lv_dup hx hb hd hv (k H locs ls hP hD hS hl)
theorem g_dup2 {v u : Value} (hX : Ok X own cc n d c) (hd : decode cc pc = .ok (.dup2, 1)) (hv : v.category = 1) (hu : u.category = 1) (k : Go X w L (pc + 1) (v :: u :: v :: u :: st)) : Go X w L pc (v :: u :: st) := by
  obtain ⟨p, l, e, R, s, m, args, below, meth, cd, cells, slots, Q, D, tys, A⟩ := X; obtain ⟨hx, hb, -⟩ := hX; intro H locs ls hP hD hS hl
  exact lv_dup2_11 hx hb hd hv hu (k H locs ls hP hD hS hl)
theorem g_dup_x1 {v u : Value} (hX : Ok X own cc n d c) (hd : decode cc pc = .ok (.dup_x1, 1)) (hv : v.category = 1) (hu : u.category = 1) (k : Go X w L (pc + 1) (v :: u :: v :: st)) : Go X w L pc (v :: u :: st) := by
  obtain ⟨p, l, e, R, s, m, args, below, meth, cd, cells, slots, Q, D, tys, A⟩ := X; obtain ⟨hx, hb, -⟩ := hX; intro H locs ls hP hD hS hl
  exact lv_dup_x1 hx hb hd hv hu (k H locs ls hP hD hS hl)
theorem g_pop {v : Value} (hX : Ok X own cc n d c) (hd : decode cc pc = .ok (.pop, 1)) (hv : v.category = 1) (k : Go X w L (pc + 1) st) : Go X w L pc (v :: st) := by
  obtain ⟨p, l, e, R, s, m, args, below, meth, cd, cells, slots, Q, D, tys, A⟩ := X; obtain ⟨hx, hb, -⟩ := hX; intro H locs ls hP hD hS hl
  exact lv_pop hx hb hd hv (k H locs ls hP hD hS hl)
theorem g_goto {off : Int} {tgt : Nat} (hX : Ok X own cc n d c) (hd : decode cc pc = .ok (.goto off, 3)) (ht : (pc : Int) + off = (tgt : Int)) (k : Go X w L tgt st) : Go X w L pc st := by
  obtain ⟨p, l, e, R, s, m, args, below, meth, cd, cells, slots, Q, D, tys, A⟩ := X; obtain ⟨hx, hb, -⟩ := hX; intro H locs ls hP hD hS hl
  exact lv_goto hx hb hd ht (k H locs ls hP hD hS hl)
theorem g_icmp_eq {x y : Int32} {off : Int} {tgt : Nat} (hX : Ok X own cc n d c) (hd : decode cc pc = .ok (.if_icmp .eq off, 3)) (ht : (pc : Int) + off = (tgt : Int)) (h : (if x = y then K else K2) = some o) (kt : x = y → K = some o → Go X w L tgt st) (kf : ¬ x = y → K2 = some o → Go X w L (pc + 3) st) : Go X w L pc (.int y :: .int x :: st) := by
  obtain ⟨p, l, e, R, s, m, args, below, meth, cd, cells, slots, Q, D, tys, A⟩ := X; obtain ⟨hx, hb, -⟩ := hX; intro H locs ls hP hD hS hl
  exact lv_icmp_eq hx hb hd ht (fun q => have q2 : x = y := q; kt q2 (by rw [if_pos q2] at h; exact h) H locs ls hP hD hS hl) (fun q => have q2 : ¬ x = y := q; kf q2 (by rw [if_neg q2] at h; exact h) H locs ls hP hD hS hl)
theorem g_icmp_ne {x y : Int32} {off : Int} {tgt : Nat} (hX : Ok X own cc n d c) (hd : decode cc pc = .ok (.if_icmp .ne off, 3)) (ht : (pc : Int) + off = (tgt : Int)) (h : (if x = y then K2 else K) = some o) (kt : ¬ x = y → K = some o → Go X w L tgt st) (kf : x = y → K2 = some o → Go X w L (pc + 3) st) : Go X w L pc (.int y :: .int x :: st) := by
  obtain ⟨p, l, e, R, s, m, args, below, meth, cd, cells, slots, Q, D, tys, A⟩ := X; obtain ⟨hx, hb, -⟩ := hX; intro H locs ls hP hD hS hl
  exact lv_icmp_ne hx hb hd ht (fun q => have q2 : ¬ x = y := q; kt q2 (by rw [if_neg q2] at h; exact h) H locs ls hP hD hS hl) (fun q => have q2 : x = y := q; kf q2 (by rw [if_pos q2] at h; exact h) H locs ls hP hD hS hl)
theorem g_icmp_lt {x y : Int32} {off : Int} {tgt : Nat} (hX : Ok X own cc n d c) (hd : decode cc pc = .ok (.if_icmp .lt off, 3)) (ht : (pc : Int) + off = (tgt : Int)) (h : (if x < y then K else K2) = some o) (kt : x < y → K = some o → Go X w L tgt st) (kf : ¬ x < y → K2 = some o → Go X w L (pc + 3) st) : Go X w L pc (.int y :: .int x :: st) := by
  obtain ⟨p, l, e, R, s, m, args, below, meth, cd, cells, slots, Q, D, tys, A⟩ := X; obtain ⟨hx, hb, -⟩ := hX; intro H locs ls hP hD hS hl
  exact lv_icmp_lt hx hb hd ht (fun q => have q2 : x < y := q; kt q2 (by rw [if_pos q2] at h; exact h) H locs ls hP hD hS hl) (fun q => have q2 : ¬ x < y := q; kf q2 (by rw [if_neg q2] at h; exact h) H locs ls hP hD hS hl)
theorem g_icmp_ge {x y : Int32} {off : Int} {tgt : Nat} (hX : Ok X own cc n d c) (hd : decode cc pc = .ok (.if_icmp .ge off, 3)) (ht : (pc : Int) + off = (tgt : Int)) (h : (if x < y then K2 else K) = some o) (kt : ¬ x < y → K = some o → Go X w L tgt st) (kf : x < y → K2 = some o → Go X w L (pc + 3) st) : Go X w L pc (.int y :: .int x :: st) := by
  obtain ⟨p, l, e, R, s, m, args, below, meth, cd, cells, slots, Q, D, tys, A⟩ := X; obtain ⟨hx, hb, -⟩ := hX; intro H locs ls hP hD hS hl
  exact lv_icmp_ge hx hb hd ht (fun q => have q2 : ¬ x < y := Int32.not_lt.mpr q; kt q2 (by rw [if_neg q2] at h; exact h) H locs ls hP hD hS hl) (fun q => have q2 : x < y := Int32.not_le.mp q; kf q2 (by rw [if_pos q2] at h; exact h) H locs ls hP hD hS hl)
theorem g_icmp_gt {x y : Int32} {off : Int} {tgt : Nat} (hX : Ok X own cc n d c) (hd : decode cc pc = .ok (.if_icmp .gt off, 3)) (ht : (pc : Int) + off = (tgt : Int)) (h : (if y < x then K else K2) = some o) (kt : y < x → K = some o → Go X w L tgt st) (kf : ¬ y < x → K2 = some o → Go X w L (pc + 3) st) : Go X w L pc (.int y :: .int x :: st) := by
  obtain ⟨p, l, e, R, s, m, args, below, meth, cd, cells, slots, Q, D, tys, A⟩ := X; obtain ⟨hx, hb, -⟩ := hX; intro H locs ls hP hD hS hl
  exact lv_icmp_gt hx hb hd ht (fun q => have q2 : y < x := q; kt q2 (by rw [if_pos q2] at h; exact h) H locs ls hP hD hS hl) (fun q => have q2 : ¬ y < x := q; kf q2 (by rw [if_neg q2] at h; exact h) H locs ls hP hD hS hl)
theorem g_icmp_le {x y : Int32} {off : Int} {tgt : Nat} (hX : Ok X own cc n d c) (hd : decode cc pc = .ok (.if_icmp .le off, 3)) (ht : (pc : Int) + off = (tgt : Int)) (h : (if y < x then K2 else K) = some o) (kt : ¬ y < x → K = some o → Go X w L tgt st) (kf : y < x → K2 = some o → Go X w L (pc + 3) st) : Go X w L pc (.int y :: .int x :: st) := by
  obtain ⟨p, l, e, R, s, m, args, below, meth, cd, cells, slots, Q, D, tys, A⟩ := X; obtain ⟨hx, hb, -⟩ := hX; intro H locs ls hP hD hS hl
  exact lv_icmp_le hx hb hd ht (fun q => have q2 : ¬ y < x := Int32.not_lt.mpr q; kt q2 (by rw [if_neg q2] at h; exact h) H locs ls hP hD hS hl) (fun q => have q2 : y < x := Int32.not_le.mp q; kf q2 (by rw [if_pos q2] at h; exact h) H locs ls hP hD hS hl)
theorem g_if_eq {x : Int32} {off : Int} {tgt : Nat} (hX : Ok X own cc n d c) (hd : decode cc pc = .ok (.ifCond .eq off, 3)) (ht : (pc : Int) + off = (tgt : Int)) (h : (if x = 0 then K else K2) = some o) (kt : x = 0 → K = some o → Go X w L tgt st) (kf : ¬ x = 0 → K2 = some o → Go X w L (pc + 3) st) : Go X w L pc (.int x :: st) := by
  obtain ⟨p, l, e, R, s, m, args, below, meth, cd, cells, slots, Q, D, tys, A⟩ := X; obtain ⟨hx, hb, -⟩ := hX; intro H locs ls hP hD hS hl
  exact lv_if_eq hx hb hd ht (fun q => have q2 : x = 0 := q; kt q2 (by rw [if_pos q2] at h; exact h) H locs ls hP hD hS hl) (fun q => have q2 : ¬ x = 0 := q; kf q2 (by rw [if_neg q2] at h; exact h) H locs ls hP hD hS hl)
theorem g_if_ne {x : Int32} {off : Int} {tgt : Nat} (hX : Ok X own cc n d c) (hd : decode cc pc = .ok (.ifCond .ne off, 3)) (ht : (pc : Int) + off = (tgt : Int)) (h : (if x = 0 then K2 else K) = some o) (kt : ¬ x = 0 → K = some o → Go X w L tgt st) (kf : x = 0 → K2 = some o → Go X w L (pc + 3) st) : Go X w L pc (.int x :: st) := by
  obtain ⟨p, l, e, R, s, m, args, below, meth, cd, cells, slots, Q, D, tys, A⟩ := X; obtain ⟨hx, hb, -⟩ := hX; intro H locs ls hP hD hS hl
  exact lv_if_ne hx hb hd ht (fun q => have q2 : ¬ x = 0 := q; kt q2 (by rw [if_neg q2] at h; exact h) H locs ls hP hD hS hl) (fun q => have q2 : x = 0 := q; kf q2 (by rw [if_pos q2] at h; exact h) H locs ls hP hD hS hl)
theorem g_if_lt {x : Int32} {off : Int} {tgt : Nat} (hX : Ok X own cc n d c) (hd : decode cc pc = .ok (.ifCond .lt off, 3)) (ht : (pc : Int) + off = (tgt : Int)) (h : (if x < 0 then K else K2) = some o) (kt : x < 0 → K = some o → Go X w L tgt st) (kf : ¬ x < 0 → K2 = some o → Go X w L (pc + 3) st) : Go X w L pc (.int x :: st) := by
  obtain ⟨p, l, e, R, s, m, args, below, meth, cd, cells, slots, Q, D, tys, A⟩ := X; obtain ⟨hx, hb, -⟩ := hX; intro H locs ls hP hD hS hl
  exact lv_if_lt hx hb hd ht (fun q => have q2 : x < 0 := q; kt q2 (by rw [if_pos q2] at h; exact h) H locs ls hP hD hS hl) (fun q => have q2 : ¬ x < 0 := q; kf q2 (by rw [if_neg q2] at h; exact h) H locs ls hP hD hS hl)
theorem g_if_ge {x : Int32} {off : Int} {tgt : Nat} (hX : Ok X own cc n d c) (hd : decode cc pc = .ok (.ifCond .ge off, 3)) (ht : (pc : Int) + off = (tgt : Int)) (h : (if x < 0 then K2 else K) = some o) (kt : ¬ x < 0 → K = some o → Go X w L tgt st) (kf : x < 0 → K2 = some o → Go X w L (pc + 3) st) : Go X w L pc (.int x :: st) := by
  obtain ⟨p, l, e, R, s, m, args, below, meth, cd, cells, slots, Q, D, tys, A⟩ := X; obtain ⟨hx, hb, -⟩ := hX; intro H locs ls hP hD hS hl
  exact lv_if_ge hx hb hd ht (fun q => have q2 : ¬ x < 0 := Int32.not_lt.mpr q; kt q2 (by rw [if_neg q2] at h; exact h) H locs ls hP hD hS hl) (fun q => have q2 : x < 0 := Int32.not_le.mp q; kf q2 (by rw [if_pos q2] at h; exact h) H locs ls hP hD hS hl)
theorem g_if_gt {x : Int32} {off : Int} {tgt : Nat} (hX : Ok X own cc n d c) (hd : decode cc pc = .ok (.ifCond .gt off, 3)) (ht : (pc : Int) + off = (tgt : Int)) (h : (if 0 < x then K else K2) = some o) (kt : 0 < x → K = some o → Go X w L tgt st) (kf : ¬ 0 < x → K2 = some o → Go X w L (pc + 3) st) : Go X w L pc (.int x :: st) := by
  obtain ⟨p, l, e, R, s, m, args, below, meth, cd, cells, slots, Q, D, tys, A⟩ := X; obtain ⟨hx, hb, -⟩ := hX; intro H locs ls hP hD hS hl
  exact lv_if_gt hx hb hd ht (fun q => have q2 : 0 < x := q; kt q2 (by rw [if_pos q2] at h; exact h) H locs ls hP hD hS hl) (fun q => have q2 : ¬ 0 < x := q; kf q2 (by rw [if_neg q2] at h; exact h) H locs ls hP hD hS hl)
theorem g_if_le {x : Int32} {off : Int} {tgt : Nat} (hX : Ok X own cc n d c) (hd : decode cc pc = .ok (.ifCond .le off, 3)) (ht : (pc : Int) + off = (tgt : Int)) (h : (if 0 < x then K2 else K) = some o) (kt : ¬ 0 < x → K = some o → Go X w L tgt st) (kf : 0 < x → K2 = some o → Go X w L (pc + 3) st) : Go X w L pc (.int x :: st) := by
  obtain ⟨p, l, e, R, s, m, args, below, meth, cd, cells, slots, Q, D, tys, A⟩ := X; obtain ⟨hx, hb, -⟩ := hX; intro H locs ls hP hD hS hl
  exact lv_if_le hx hb hd ht (fun q => have q2 : ¬ 0 < x := Int32.not_lt.mpr q; kt q2 (by rw [if_neg q2] at h; exact h) H locs ls hP hD hS hl) (fun q => have q2 : 0 < x := Int32.not_le.mp q; kf q2 (by rw [if_pos q2] at h; exact h) H locs ls hP hD hS hl)
theorem g_tswIn {dflt lo hi : Int} {offs : Array Int} {len : Nat} {x : Int32} {off : Int} {tgt : Nat} (hX : Ok X own cc n d c) (hd : decode cc pc = .ok (.tableswitch dflt lo hi offs, len)) (v : Int32) (hv : x = v) (h1 : decide (v.toInt < lo) = false) (h2 : decide (hi < v.toInt) = false) (ho : offs[(v.toInt - lo).toNat]? = some off) (ht : (pc : Int) + off = (tgt : Int)) (k : Go X w L tgt st) : Go X w L pc (.int x :: st) := by
  obtain ⟨p, l, e, R, s, m, args, below, meth, cd, cells, slots, Q, D, tys, A⟩ := X; obtain ⟨hx, hb, -⟩ := hX; intro H locs ls hP hD hS hl
  subst hv
  exact lv_tableIn hx hb hd (of_decide_eq_false h1) (of_decide_eq_false h2) ho ht (k H locs ls hP hD hS hl)
theorem g_tswOut {dflt lo hi : Int} {offs : Array Int} {len : Nat} {x : Int32} {tgt : Nat} (hX : Ok X own cc n d c) (hd : decode cc pc = .ok (.tableswitch dflt lo hi offs, len)) (h : x.toInt < lo ∨ hi < x.toInt) (ht : (pc : Int) + dflt = (tgt : Int)) (k : Go X w L tgt st) : Go X w L pc (.int x :: st) := by
  obtain ⟨p, l, e, R, s, m, args, below, meth, cd, cells, slots, Q, D, tys, A⟩ := X; obtain ⟨hx, hb, -⟩ := hX; intro H locs ls hP hD hS hl
  exact lv_tableOut hx hb hd h ht (k H locs ls hP hD hS hl)
theorem g_get {C : String} {T : u_T} {N ci idx a : Nat} {fs : List Value} {v : Value} (hX : Ok X own cc n d c) (hin : ∀ q ∈ u_ws C T N, q ∈ zB) (k : Nat) (hk : Nat.blt k N = true) (hlink : Cond.fieldLink own idx (T k).1 (T k).2.1 (T k).2.2.1 ∈ zB) (hc : zCl[ci]? = some (C, T, N)) (q0 : Nat) (he : w[q0]? = some (a, .inr (ci, fs))) (hv : fs[k]? = some v) (hd : decode cc pc = .ok (.getfield idx, 3)) (kk : Go X w L (pc + 3) (v :: st)) : Go X w L pc (.ref a :: st) := by
  obtain ⟨p, l, e, R, s, m, args, below, meth, cd, cells, slots, Q, D, tys, A⟩ := X; obtain ⟨hx, hb, -, hown, -, hB, hK, -⟩ := hX; intro H locs ls hP hD hS hl
  exact va_get (D := D) (cl := zCl) hx hb hB hin hown hK hP q0 he hc k (Nat.le_of_ble_eq_true hk) (hB _ hlink) (fun _ h9 => h9) hv hd (kk H locs ls hP hD hS hl)
theorem g_getN {C host : String} {T : u_T} {N ci idx a : Nat} {fs : List Value} {v : Value} (hX : Ok X own cc n d c) (hin : ∀ q ∈ u_ws C T N, q ∈ zB) (k : Nat) (hk : Nat.blt k N = true) (hlink : (own, idx, (T k).1, (T k).2.1, (T k).2.2.1, host) ∈ zNf) (hc : zCl[ci]? = some (C, T, N)) (q0 : Nat) (he : w[q0]? = some (a, .inr (ci, fs))) (hv : fs[k]? = some v) (hd : decode cc pc = .ok (.getfield idx, 3)) (kk : Go X w L (pc + 3) (v :: st)) : Go X w L pc (.ref a :: st) := by
  obtain ⟨p, l, e, R, s, m, args, below, meth, cd, cells, slots, Q, D, tys, A⟩ := X; obtain ⟨hx, hb, -, hown, -, hB, hK, hN, -⟩ := hX; intro H locs ls hP hD hS hl
  exact va_getN (D := D) (cl := zCl) hx hb hB hin hown hK hP q0 he hc k (Nat.le_of_ble_eq_true hk) (va_Nw.use rfl (hN.1 _ hlink)) (fun _ h9 => h9) hv hd (kk H locs ls hP hD hS hl)
theorem g_put {C : String} {T : u_T} {N ci idx a : Nat} {fs : List Value} {v : Value} {ty : FieldType} (ty0 : Nat → FieldType) (hty : ∀ k, k < N → parseFieldDescriptor (T k).2.2.1 = some (ty0 k)) (hnm : ∀ a, a < N → ∀ b, b < N → a ≠ b → (T a).2.1 ≠ (T b).2.1) (hX : Ok X own cc n d c) (hin : ∀ q ∈ u_ws C T N, q ∈ zB) (k : Nat) (hk : Nat.blt k N = true) (hlink : Cond.fieldLink own idx (T k).1 (T k).2.1 (T k).2.2.1 ∈ zB) (hc : zCl[ci]? = some (C, T, N)) (hfin : (T k).2.2.2 = false) (hdp : ty0 k = ty) (hn : narrow ty v = v) (hfit : fits ty v = true) (q0 : Nat) (he : w[q0]? = some (a, .inr (ci, fs))) (hl0 : Nat.blt k fs.length = true) (hw : w.set q0 (a, .inr (ci, fs.set k v)) = w') (hd : decode cc pc = .ok (.putfield idx, 3)) (kk : Go X w' L (pc + 3) st) : Go X w L pc (v :: .ref a :: st) := by
  obtain ⟨p, l, e, R, s, m, args, below, meth, cd, cells, slots, Q, D, tys, A⟩ := X; obtain ⟨hx, hb, -, hown, -, hB, hK, -⟩ := hX; intro H locs ls hP hD hS hl
  subst hw
  exact va_put (D := D) (cl := zCl) hx hb hB hin ty0 hty hnm hown hK hP hD hS q0 he hc k (Nat.le_of_ble_eq_true hk) (hB _ hlink) (fun _ h9 => h9) hfin ((hty k (Nat.le_of_ble_eq_true hk)).trans (congrArg some hdp)) hn hfit (Nat.le_of_ble_eq_true hl0) hd (fun H1 locs1 hP1 hD1 hS1 => kk H1 locs1 ls hP1 hD1 hS1 hl)
theorem g_putN {C host : String} {T : u_T} {N ci idx a : Nat} {fs : List Value} {v : Value} {ty : FieldType} (ty0 : Nat → FieldType) (hty : ∀ k, k < N → parseFieldDescriptor (T k).2.2.1 = some (ty0 k)) (hnm : ∀ a, a < N → ∀ b, b < N → a ≠ b → (T a).2.1 ≠ (T b).2.1) (hX : Ok X own cc n d c) (hin : ∀ q ∈ u_ws C T N, q ∈ zB) (k : Nat) (hk : Nat.blt k N = true) (hlink : (own, idx, (T k).1, (T k).2.1, (T k).2.2.1, host) ∈ zNf) (hc : zCl[ci]? = some (C, T, N)) (hfin : (T k).2.2.2 = false) (hdp : ty0 k = ty) (hn : narrow ty v = v) (hfit : fits ty v = true) (q0 : Nat) (he : w[q0]? = some (a, .inr (ci, fs))) (hl0 : Nat.blt k fs.length = true) (hw : w.set q0 (a, .inr (ci, fs.set k v)) = w') (hd : decode cc pc = .ok (.putfield idx, 3)) (kk : Go X w' L (pc + 3) st) : Go X w L pc (v :: .ref a :: st) := by
  obtain ⟨p, l, e, R, s, m, args, below, meth, cd, cells, slots, Q, D, tys, A⟩ := X; obtain ⟨hx, hb, -, hown, -, hB, hK, hN, -⟩ := hX; intro H locs ls hP hD hS hl
  subst hw
  exact va_putN (D := D) (cl := zCl) hx hb hB hin ty0 hty hnm hown hK hP hD hS q0 he hc k (Nat.le_of_ble_eq_true hk) (va_Nw.use rfl (hN.1 _ hlink)) (fun _ h9 => h9) hfin ((hty k (Nat.le_of_ble_eq_true hk)).trans (congrArg some hdp)) hn hfit (Nat.le_of_ble_eq_true hl0) hd (fun H1 locs1 hP1 hD1 hS1 => kk H1 locs1 ls hP1 hD1 hS1 hl)
theorem zbn {x : Int32} (h : x = 0 ∨ x = 1) : narrow .boolean (.int x) = .int x := by rcases h with rfl | rfl <;> rfl
theorem zbf {x : Int32} (h : x = 0 ∨ x = 1) : fits .boolean (.int x) = true := by rcases h with rfl | rfl <;> rfl
theorem zbv {x : Int32} (h : x = 0 ∨ x = 1) : vp_nar .boolean x = x := by rcases h with rfl | rfl <;> rfl
abbrev zOut (i : Int32) (n : Nat) : Prop := i < 0 ∨ n ≤ i.toNatClampNeg
theorem g_iald {a N : Nat} {f : Nat → Int32} {i : Int32} (hX : Ok X own cc n d c) (q0 : Nat) (he : w[q0]? = some (a, .inl (c.1, N, .inl f))) (h : (if zOut i N then none else K) = some o) (hd : decode cc pc = .ok (.iaload, 1)) (k : K = some o → Go X w L (pc + 1) (.int (f i.toNatClampNeg) :: st)) : Go X w L pc (.int i :: .ref a :: st) := by
  by_cases hi : zOut i N
  · rw [if_pos hi] at h; cases h
  rw [if_neg hi] at h
  obtain ⟨p, l, e, R, s, m, args, below, meth, cd, cells, slots, Q, D, tys, A⟩ := X; obtain ⟨hx, hb, -, -, -, -, hK, -, ht, -⟩ := hX; intro H locs ls hP hD hS hl
  exact va_iald hx hb hK hP q0 0 he (by rw [ht]; rfl) hi hd (k h H locs ls hP hD hS hl)
theorem g_zald {a N : Nat} {f : Nat → Int32} {i : Int32} (hX : Ok X own cc n d c) (q0 : Nat) (he : w[q0]? = some (a, .inl (c.2.1, N, .inl f))) (h : (if zOut i N then none else K) = some o) (hd : decode cc pc = .ok (.baload, 1)) (k : K = some o → Go X w L (pc + 1) (.int (f i.toNatClampNeg) :: st)) : Go X w L pc (.int i :: .ref a :: st) := by
  by_cases hi : zOut i N
  · rw [if_pos hi] at h; cases h
  rw [if_neg hi] at h
  obtain ⟨p, l, e, R, s, m, args, below, meth, cd, cells, slots, Q, D, tys, A⟩ := X; obtain ⟨hx, hb, -, -, -, -, hK, -, ht, -⟩ := hX; intro H locs ls hP hD hS hl
  exact va_zald hx hb hK hP q0 1 he (by rw [ht]; rfl) hi hd (k h H locs ls hP hD hS hl)
theorem g_iast {a N : Nat} {f : Nat → Int32} {i x : Int32} (hX : Ok X own cc n d c) (q0 : Nat) (he : w[q0]? = some (a, .inl (c.1, N, .inl f))) (h : (if zOut i N then none else K) = some o) (hw : w.set q0 (a, .inl (c.1, N, .inl (upd f i.toNatClampNeg x))) = w') (hd : decode cc pc = .ok (.iastore, 1)) (k : K = some o → Go X w' L (pc + 1) st) : Go X w L pc (.int x :: .int i :: .ref a :: st) := by
  by_cases hi : zOut i N
  · rw [if_pos hi] at h; cases h
  rw [if_neg hi] at h
  obtain ⟨p, l, e, R, s, m, args, below, meth, cd, cells, slots, Q, D, tys, A⟩ := X; obtain ⟨hx, hb, -, -, -, -, hK, -, ht, -⟩ := hX; intro H locs ls hP hD hS hl
  subst hw
  exact va_iast hx hb hK hP hD hS q0 0 he (by rw [ht]; rfl) hi hd (fun H1 locs1 hP1 hD1 hS1 => k h H1 locs1 ls hP1 hD1 hS1 hl)
theorem g_zast {a N : Nat} {f : Nat → Int32} {i x : Int32} (hX : Ok X own cc n d c) (q0 : Nat) (he : w[q0]? = some (a, .inl (c.2.1, N, .inl f))) (h : (if zOut i N then none else K) = some o) (hv : x = 0 ∨ x = 1) (hw : w.set q0 (a, .inl (c.2.1, N, .inl (upd f i.toNatClampNeg x))) = w') (hd : decode cc pc = .ok (.bastore, 1)) (k : K = some o → Go X w' L (pc + 1) st) : Go X w L pc (.int x :: .int i :: .ref a :: st) := by
  by_cases hi : zOut i N
  · rw [if_pos hi] at h; cases h
  rw [if_neg hi] at h
  obtain ⟨p, l, e, R, s, m, args, below, meth, cd, cells, slots, Q, D, tys, A⟩ := X; obtain ⟨hx, hb, -, -, -, -, hK, -, ht, -⟩ := hX; intro H locs ls hP hD hS hl
  subst hw
  refine va_zast hx hb hK hP hD hS q0 1 he (by rw [ht]; rfl) hi hd (fun H1 locs1 hP1 hD1 hS1 => ?_)
  rw [zbv hv] at hP1 hD1
  exact k h H1 locs1 ls hP1 hD1 hS1 hl
theorem g_alen {a : Nat} {x : vp_A} (hX : Ok X own cc n d c) (q0 : Nat) (he : w[q0]? = some (a, .inl (c.1, x))) {v : Int32} (hv : Int32.ofNat x.1 = v) (hd : decode cc pc = .ok (.arraylength, 1)) (k : Go X w L (pc + 1) (.int v :: st)) : Go X w L pc (.ref a :: st) := by
  obtain ⟨p, l, e, R, s, m, args, below, meth, cd, cells, slots, Q, D, tys, A⟩ := X; obtain ⟨hx, hb, -, -, -, -, hK, -, ht, -⟩ := hX; intro H locs ls hP hD hS hl
  exact va_alen (ty := .int) hx hb hK hP q0 0 he (by rw [ht]; rfl) hv hd (k H locs ls hP hD hS hl)
theorem g_alenS {a : Nat} {x : vp_A} (hX : Ok X own cc n d c) (q0 : Nat) (he : w[q0]? = some (a, .inl (c.2.2, x))) {v : Int32} (hv : Int32.ofNat x.1 = v) (hd : decode cc pc = .ok (.arraylength, 1)) (k : Go X w L (pc + 1) (.int v :: st)) : Go X w L pc (.ref a :: st) := by
  obtain ⟨p, l, e, R, s, m, args, below, meth, cd, cells, slots, Q, D, tys, A⟩ := X; obtain ⟨hx, hb, -, -, -, -, hK, -, ht, -⟩ := hX; intro H locs ls hP hD hS hl
  exact va_alen (ty := .object "EncounterLedger$State") hx hb hK hP q0 2 he (by rw [ht]; rfl) hv hd (k H locs ls hP hD hS hl)
theorem g_aald {a N : Nat} {f : Nat → Option Nat} {i : Int32} (hX : Ok X own cc n d c) (q0 : Nat) (he : w[q0]? = some (a, .inl (c.2.2, N, .inr (.inr (.inr (.inr f)))))) (hi : ¬ zOut i N) (hd : decode cc pc = .ok (.aaload, 1)) (k : Go X w L (pc + 1) (va_rf (f i.toNatClampNeg) :: st)) : Go X w L pc (.int i :: .ref a :: st) := by
  obtain ⟨p, l, e, R, s, m, args, below, meth, cd, cells, slots, Q, D, tys, A⟩ := X; obtain ⟨hx, hb, -, -, -, -, hK, -, ht, -⟩ := hX; intro H locs ls hP hD hS hl
  exact va_aldq (C := "EncounterLedger$State") hx hb hK hP q0 2 he (by rw [ht]; rfl) hi hd (k H locs ls hP hD hS hl)
def zmax (x y : Int32) : Int32 := if x < y then y else x
def zmin (x y : Int32) : Int32 := if y < x then y else x
def zabs (x : Int32) : Int32 := if 0 ≤ x then x else 0 - x
theorem g_mmax {idx : Nat} {x y : Int32} (hX : Ok X own cc n d c) (hl0 : Cond.methodLink own idx Lib.Math.max.name ∈ zB) (hd1 : Nat.ble 1 d = true) (hcat : Nat.ble (st.map fun v => v.category).sum 8 = true) (hd : decode cc pc = .ok (.invokestatic idx, 3)) (k : Go X w L (pc + 3) (.int (zmax x y) :: st)) : Go X w L pc (.int y :: .int x :: st) := by
  obtain ⟨p, l, e, R, s, m, args, below, meth, cd, cells, slots, Q, D, tys, A⟩ := X; obtain ⟨hx, hb, hml, hown, -, hB, hK, -, -, ⟨hr1, hr2⟩, hr3, hr4⟩ := hX; intro H locs ls hP hD hS hl
  have h1 := Nat.le_of_ble_eq_true hd1
  have h2 := Nat.le_of_ble_eq_true hcat
  exact va_mmax hx hb hl.1.symm hown (hB _ hl0) (hB _ zZ_max) (hB _ zI_Ma) (hB _ zD_max) (by omega) (by omega) hr3 hr4 hd (k H locs ls hP hD hS hl)
theorem g_mmin {idx : Nat} {x y : Int32} (hX : Ok X own cc n d c) (hl0 : Cond.methodLink own idx Lib.Math.min.name ∈ zB) (hd1 : Nat.ble 1 d = true) (hcat : Nat.ble (st.map fun v => v.category).sum 8 = true) (hd : decode cc pc = .ok (.invokestatic idx, 3)) (k : Go X w L (pc + 3) (.int (zmin x y) :: st)) : Go X w L pc (.int y :: .int x :: st) := by
  obtain ⟨p, l, e, R, s, m, args, below, meth, cd, cells, slots, Q, D, tys, A⟩ := X; obtain ⟨hx, hb, hml, hown, -, hB, hK, -, -, ⟨hr1, hr2⟩, hr3, hr4⟩ := hX; intro H locs ls hP hD hS hl
  have h1 := Nat.le_of_ble_eq_true hd1
  have h2 := Nat.le_of_ble_eq_true hcat
  exact va_mmin hx hb hl.1.symm hown (hB _ hl0) (hB _ zZ_min) (hB _ zI_Ma) (hB _ zD_min) (by omega) (by omega) hr3 hr4 hd (k H locs ls hP hD hS hl)
theorem g_mabs {idx : Nat} {x : Int32} (hX : Ok X own cc n d c) (hl0 : Cond.methodLink own idx Lib.Math.abs.name ∈ zB) (hd1 : Nat.ble 1 d = true) (hcat : Nat.ble (st.map fun v => v.category).sum 8 = true) (hd : decode cc pc = .ok (.invokestatic idx, 3)) (k : Go X w L (pc + 3) (.int (zabs x) :: st)) : Go X w L pc (.int x :: st) := by
  obtain ⟨p, l, e, R, s, m, args, below, meth, cd, cells, slots, Q, D, tys, A⟩ := X; obtain ⟨hx, hb, hml, hown, -, hB, hK, -, -, ⟨hr1, hr2⟩, hr3, hr4⟩ := hX; intro H locs ls hP hD hS hl
  have h1 := Nat.le_of_ble_eq_true hd1
  have h2 := Nat.le_of_ble_eq_true hcat
  exact va_mabs hx hb hl.1.symm hown (hB _ hl0) (hB _ zZ_abs) (hB _ zI_Ma) (hB _ zD_abs) (by omega) (by omega) hr3 hr4 hd (k H locs ls hP hD hS hl)
abbrev zOutC (sp dp z : Int32) (n0 n1 : Nat) : Prop := sp < 0 ∨ dp < 0 ∨ z < 0 ∨ n0 < sp.toNatClampNeg + z.toNatClampNeg ∨ n1 < dp.toNatClampNeg + z.toNatClampNeg
theorem g_copy {idx a0 a N0 N1 : Nat} {f g : Nat → Int32} {sp dp z : Int32} (hX : Ok X own cc n d c) (hl0 : Cond.methodLink own idx arraycopyName ∈ zB) (hd1 : Nat.ble 1 d = true) (hcat : Nat.ble (st.map fun v => v.category).sum 8 = true) (q0 q1 : Nat) (he0 : w[q0]? = some (a0, .inl (c.1, N0, .inl f))) (he1 : w[q1]? = some (a, .inl (c.1, N1, .inl g))) (h : (if zOutC sp dp z N0 N1 then none else K) = some o) (hw : w.set q1 (a, .inl (c.1, N1, .inl (va_cpy f g sp.toNatClampNeg dp.toNatClampNeg z.toNatClampNeg))) = w') (hd : decode cc pc = .ok (.invokestatic idx, 3)) (k : K = some o → Go X w' L (pc + 3) st) : Go X w L pc (.int z :: .int dp :: .ref a :: .int sp :: .ref a0 :: st) := by
  by_cases hi : zOutC sp dp z N0 N1
  · rw [if_pos hi] at h; cases h
  rw [if_neg hi] at h
  obtain ⟨p, l, e, R, s, m, args, below, meth, cd, cells, slots, Q, D, tys, A⟩ := X; obtain ⟨hx, hb, hml, hown, -, hB, hK, -, ht, ⟨hr1, hr2⟩, hr3, hr4⟩ := hX; intro H locs ls hP hD hS hl
  have h1 := Nat.le_of_ble_eq_true hd1
  have h2 := Nat.le_of_ble_eq_true hcat
  simp only [zOutC, not_or, Nat.not_lt] at hi
  subst hw
  have e9 : nativeFrameWords "java/lang/System" "arraycopy" 5 = 7 := by decide +kernel
  exact va_copyi (ty := .int) hx hb hl.1.symm hown (hB _ hl0) (hB _ zY_arraycopy) (hB _ zZ_arraycopy) (hB _ zI_Sy) hK hP hD hS q0 q1 0 0 he0 he1 (by rw [ht]; rfl) (by rw [ht]; rfl) rfl hi.1 hi.2.1 hi.2.2.1 hi.2.2.2.1 hi.2.2.2.2 (fun _ _ => rfl) (by omega) (by rw [e9]; omega) hd (fun H1 locs1 hP1 hD1 hS1 => k h H1 locs1 ls hP1 hD1 hS1 hl)
theorem g_ifnonnull {a : Nat} {off : Int} {tgt : Nat} (hX : Ok X own cc n d c) (hd : decode cc pc = .ok (.ifnonnull off, 3)) (ht : (pc : Int) + off = (tgt : Int)) (k : Go X w L tgt st) : Go X w L pc (.ref a :: st) := by
  obtain ⟨p, l, e, R, s, m, args, below, meth, cd, cells, slots, Q, D, tys, A⟩ := X; obtain ⟨hx, hb, -⟩ := hX; intro H locs ls hP hD hS hl
  exact lv_ifnonnull hx hb hd ht (k H locs ls hP hD hS hl)
theorem g_ifnull {a : Nat} {off : Int} (hX : Ok X own cc n d c) (hd : decode cc pc = .ok (.ifnull off, 3)) (k : Go X w L (pc + 3) st) : Go X w L pc (.ref a :: st) := by
  obtain ⟨p, l, e, R, s, m, args, below, meth, cd, cells, slots, Q, D, tys, A⟩ := X; obtain ⟨hx, hb, -⟩ := hX; intro H locs ls hP hD hS hl
  exact lv_ifnull hx hb hd (k H locs ls hP hD hS hl)
theorem g_iret {v : Int32} (hX : Ok X own cc n d c) (hR : Rt X (some .int) (some (.int v)) w) (hd : decode cc pc = .ok (.ireturn, 1)) : Go X w L pc [.int v] := by
  obtain ⟨p, l, e, R, s, m, args, below, meth, cd, cells, slots, Q, D, tys, A⟩ := X; obtain ⟨hx, hb, -, -, hlk, -⟩ := hX; obtain ⟨hr, hQ⟩ := hR; intro H locs ls hP hD hS hl
  subst hQ
  exact W.iret hx hb hr (fun t ht hW => ⟨⟨rfl, by rw [ht]; exact hP⟩, hS.F ht⟩) hS.2.2 hd hlk
theorem g_zret {v : Int32} (hX : Ok X own cc n d c) (hR : Rt X (some .boolean) (some (.int v)) w) (hv : v = 0 ∨ v = 1) (hd : decode cc pc = .ok (.ireturn, 1)) : Go X w L pc [.int v] := by
  obtain ⟨p, l, e, R, s, m, args, below, meth, cd, cells, slots, Q, D, tys, A⟩ := X; obtain ⟨hx, hb, -, -, hlk, -⟩ := hX; obtain ⟨hr, hQ⟩ := hR; intro H locs ls hP hD hS hl
  subst hQ
  exact W.zret hx hb hr (zbn hv) (fun t ht hW => ⟨⟨rfl, by rw [ht]; exact hP⟩, hS.F ht⟩) hS.2.2 hd hlk
theorem g_vret (hX : Ok X own cc n d c) (hR : Rt X none none w) (hd : decode cc pc = .ok (.return_, 1)) : Go X w L pc [] := by
  obtain ⟨p, l, e, R, s, m, args, below, meth, cd, cells, slots, Q, D, tys, A⟩ := X; obtain ⟨hx, hb, -, -, hlk, -⟩ := hX; obtain ⟨hr, hQ⟩ := hR; intro H locs ls hP hD hS hl
  subst hQ
  exact W.vret hx hb hr (fun t ht hW => ⟨⟨rfl, by rw [ht]; exact hP⟩, hS.F ht⟩) hS.2.2 hd hlk
end GROWS
/-! calls -/
theorem zGood (y : MethodName) {bytes : ByteArray} {maxL : Nat} {ret : Option FieldType} (hc : Cond.code y bytes maxL ret ∈ zB) : GoodIn zB (Cond.code y bytes maxL ret :: zB) := by
  intro q hq
  have hq2 : q ∈ zB := by rcases List.mem_cons.mp hq with rfl | h; exact hc; exact h
  exact ⟨hq2, good_of_word (zB_good q hq2)⟩
theorem zFb {D : va_G} {c : zY} {av : List Value} {w : va_W} : FrameBlind (va_Pc av (zP D c w)) := fun a U g mk h => ⟨h.1, h.2.1, va_K.moved (u := U) (U := U.calling g mk a) (Vm.Alike.refl U.vm) h.2.2.1, zNW.same (u := U) (U := U.calling g mk a) rfl h.2.2.2.1, h.2.2.2.2⟩
theorem zPin {D : va_G} {cl : List vw_C} {ws : va_W} {H : Heap} (h : ∀ q ∈ ws, va_at D cl q H) : va_P D cl ws H := fun _ _ hk => h _ (List.mem_of_getElem? hk)
theorem zPof {D : va_G} {cl : List vw_C} {ws : va_W} {H : Heap} (h : va_P D cl ws H) : ∀ q ∈ ws, va_at D cl q H := fun q hq => by
  obtain ⟨k, hk⟩ := List.getElem?_of_mem hq
  exact h k q hk
/-- the world behind a call, the callee's part in its place -/
theorem zJoin {A : Nat → Prop} {D : va_G} {w1 wc wc' w2 : va_W} {H H1 : Heap} (hP : va_P D zCl (w1 ++ (wc ++ w2)) H) (hD : va_D A (w1 ++ (wc ++ w2))) (hk : ∀ q : Nat, q < H.size → ¬ zA wc q → H1[q]? = H[q]?) (hP1 : va_P D zCl wc' H1) : va_P D zCl (w1 ++ (wc' ++ w2)) H1 := by
  have hl : ∀ q ∈ w1 ++ (wc ++ w2), q.1 < H.size := fun q hq => (zPof hP q hq).lt
  have off : ∀ (i : Nat) (q : Nat × va_E), (w1 ++ (wc ++ w2))[i]? = some q → (i < w1.length ∨ w1.length + wc.length ≤ i) → ¬ zA wc q.1 := by
    intro i q hi hr ⟨k, e, hk2⟩
    have hkl := (List.getElem?_eq_some_iff.mp hk2).1
    have h2 : (w1 ++ (wc ++ w2))[w1.length + k]? = some (q.1, e) := by
      rw [List.getElem?_append_right (by omega), Nat.add_sub_cancel_left, List.getElem?_append_left hkl]; exact hk2
    have := hD.1 i (w1.length + k) q (q.1, e) hi h2 rfl
    omega
  apply zPin
  intro q hq
  rcases List.mem_append.mp hq with h | h
  · obtain ⟨i, hi⟩ := List.getElem?_of_mem h
    have hil := (List.getElem?_eq_some_iff.mp hi).1
    have hi2 : (w1 ++ (wc ++ w2))[i]? = some q := by rw [List.getElem?_append_left hil]; exact hi
    have hm := List.mem_of_getElem? hi2
    exact (zPof hP q hm).kept (hk q.1 (hl q hm) (off i q hi2 (Or.inl hil)))
  · rcases List.mem_append.mp h with h | h
    · exact zPof hP1 q h
    · obtain ⟨i, hi⟩ := List.getElem?_of_mem h
      have hi2 : (w1 ++ (wc ++ w2))[w1.length + (wc.length + i)]? = some q := by
        rw [List.getElem?_append_right (by omega), Nat.add_sub_cancel_left, List.getElem?_append_right (by omega), Nat.add_sub_cancel_left]; exact hi
      have hm := List.mem_of_getElem? hi2
      exact (zPof hP q hm).kept (hk q.1 (hl q hm) (off _ q hi2 (Or.inr (by omega))))
theorem zAsub {A : Nat → Prop} {w1 wc w2 : va_W} (hD : va_D A (w1 ++ (wc ++ w2))) : ∀ q, zA wc q → A q := by
  intro q ⟨k, e, hk⟩
  have hkl := (List.getElem?_eq_some_iff.mp hk).1
  refine hD.2 (w1.length + k) (q, e) ?_
  rw [List.getElem?_append_right (by omega), Nat.add_sub_cancel_left, List.getElem?_append_left hkl]; exact hk
theorem zSubP {D : va_G} {w1 wc w2 : va_W} {H : Heap} (hP : va_P D zCl (w1 ++ (wc ++ w2)) H) : va_P D zCl wc H := zPin fun q hq => zPof hP q (List.mem_append_right _ (List.mem_append_left _ hq))
theorem zSubD {A : Nat → Prop} {w1 wc w2 : va_W} (hD : va_D A (w1 ++ (wc ++ w2))) : va_D (fun _ => True) wc := by
  refine ⟨fun i j p q hi hj hpq => ?_, fun _ _ _ => trivial⟩
  have hil := (List.getElem?_eq_some_iff.mp hi).1
  have hjl := (List.getElem?_eq_some_iff.mp hj).1
  have h1 : (w1 ++ (wc ++ w2))[w1.length + i]? = some p := by rw [List.getElem?_append_right (by omega), Nat.add_sub_cancel_left, List.getElem?_append_left hil]; exact hi
  have h2 : (w1 ++ (wc ++ w2))[w1.length + j]? = some q := by rw [List.getElem?_append_right (by omega), Nat.add_sub_cancel_left, List.getElem?_append_left hjl]; exact hj
  have := hD.1 _ _ p q h1 h2 hpq
  omega
theorem zRun {p : Program} {l : Launch} {e : Env} {R : Room} {s : State} {m : MethodId} {args : Array Value} {below : List Frame} {meth : Method} {cd : Code} {cells slots : Nat} {Q : State → Prop} {D : va_G} {A : Nat → Prop} {pc : Nat} {ls : Array Slot} {st0 rest : List Value} {a : Array Value} {H : Heap} {locs : List Loc} {w1 wc wc' w2 : va_W} {r : Option Value}
    (hr : va_Run p l e R s m args below meth cd H locs cells slots 0 0 (F0 m pc ls st0) rest (zQ D r wc' (zA wc) a) (zA wc))
    (hP : va_P D zCl (w1 ++ (wc ++ w2)) H) (hD : va_D A (w1 ++ (wc ++ w2))) (hS : va_S A s.heap H locs) (hw : wc'.map Prod.fst = wc.map Prod.fst)
    (kk : ∀ (H1 : Heap) (locs1 : List Loc), va_P D zCl (w1 ++ (wc' ++ w2)) H1 → va_D A (w1 ++ (wc' ++ w2)) → va_S A s.heap H1 locs1 → W p l e R s m args below meth cd H1 locs1 cells slots Q (F0 m (pc + 3) ls (r.toList ++ rest))) : W p l e R s m args below meth cd H locs cells slots Q (F0 m pc ls st0) := by
  intro T hT X
  obtain ⟨v, st₀, t, T', L, h0, X', hL, e1, e2, ⟨⟨hv, hP1⟩, hz, hk⟩, st⟩ := hr T hT X
  cases hv
  rw [h0] at hz hk
  have hAs := zAsub hD
  have hP2 := zJoin hP hD hk hP1
  have hD2 : va_D A (w1 ++ (wc' ++ w2)) := zD_fst (by simp [hw]) hD
  have hS2 : va_S A s.heap T'.heap (locs ++ L) := ⟨Nat.le_trans hS.1 (by rw [e1]; exact hz), fun q h1 h2 => by rw [e1, hk q (Nat.lt_of_lt_of_le h1 hS.1) (fun z => h2 (hAs q z))]; exact hS.2.1 q h1 h2, fun q hq => by
      rcases List.mem_append.mp hq with h | h
      · exact hS.2.2 q h
      · exact hAs _ (hL q h)⟩
  obtain ⟨t2, a1, b1⟩ := kk T'.heap (locs ++ L) (by rw [e1]; exact hP2) hD2 hS2 T' rfl X'
  exact ⟨t2, st t2 a1, b1⟩
section GCALL
variable {X : zX} {own : String} {cc : ByteArray} {n d : Nat} {c : zY} {w w' : va_W} {L L' : List (Nat × Value)} {pc : Nat} {st st0 : List Value}
variable {y : MethodName} {bytes : ByteArray} {maxL dc ny idx a : Nat} {ret : Option FieldType} {As : List Value} {wc wc' w1 w2 : va_W} {r : Option Value}
theorem g_cv {C : String} {T : u_T} {N : Nat} {fs : List Value} (hX : Ok X own cc n d c) (hy : zCal y bytes maxL ret ny) (hsel : Cond.selects C y y ∈ zB) (hl0 : Cond.methodLink own idx y ∈ zB) (hM : KM y bytes maxL ret dc c (.ref a :: As) wc wc' r) (hst : st0 = As.reverse ++ .ref a :: st) (hdc : Nat.ble (dc + 1) d = true) (hmx : Nat.ble maxL 22 = true) (hn : As.length = ny) (hw : w = w1 ++ (wc ++ w2)) (hw' : w1 ++ (wc' ++ w2) = w') (q0 ci : Nat) (he : w[q0]? = some (a, .inr (ci, fs))) (hc : zCl[ci]? = some (C, T, N)) (hcat : Nat.ble (st.map fun v => v.category).sum 8 = true) (hd : decode cc pc = .ok (.invokevirtual idx, 3)) (k : Go X w' L (pc + 3) (r.toList ++ st)) : Go X w L pc st0 := by
  subst hst
  obtain ⟨p, l, e, R, s, m, args, below, meth, cd, cells, slots, Q, D, tys, A⟩ := X; obtain ⟨hx, hb, hml, hown, -, hB, hK, hN, ht, ⟨hr1, hr2⟩, hr3, hr4⟩ := hX; intro H locs ls hP hD hS hl
  obtain ⟨h1, h2, h3, h4, h5, h6⟩ := hy
  have g1 := Nat.le_of_ble_eq_true hdc
  have g2 := Nat.le_of_ble_eq_true hmx
  have g3 := Nat.le_of_ble_eq_true hcat
  have hrec := va_recv hK hP hc he
  have hro : (zRm dc).frames + 1 ≤ R.frames ∧ 8 + (maxL + 11) + (zRm dc).locals ≤ R.locals := ⟨Nat.le_trans g1 hr1, by show 8 + (maxL + 11) + 41 * dc ≤ _; omega⟩
  subst hw; subst hw'
  refine zRun (w1 := w1) (wc := wc) (wc' := wc') (w2 := w2) (va_runV (As := As) (b := a) (rest := st) ⟨hx, hb, hml, hown, hB⟩ (hM.2 l D) (C := C) ⟨callB_of ny hB (zGood y h3) rfl rfl rfl (hB _ h2) (hB _ hl0) ⟨h4, h5, h6⟩ hro, hB _ h1, hB _ hsel⟩ ⟨zFb, hrec, fun U hU hW => ⟨rfl, by rw [hU]; exact zSubP hP, by rw [← ht]; exact va_K.moved hW.alike hK, zNW.warm hW hN, zSubD hD⟩⟩ rfl hn (hl.1.trans hml) rfl (lv_room g3) hd ⟨hr3, hr4⟩) hP hD hS hM.1 ?_
  exact fun H1 locs1 hP1 hD1 hS1 => k H1 locs1 ls hP1 hD1 hS1 hl
theorem g_cvI {v : Int32} {C : String} {T : u_T} {N : Nat} {fs : List Value} (hX : Ok X own cc n d c) (hy : zCal y bytes maxL ret ny) (hsel : Cond.selects C y y ∈ zB) (hl0 : Cond.methodLink own idx y ∈ zB) (hM : KM y bytes maxL ret dc c (.ref a :: As) wc wc' (some (.int v))) (hst : st0 = As.reverse ++ .ref a :: st) (hdc : Nat.ble (dc + 1) d = true) (hmx : Nat.ble maxL 22 = true) (hn : As.length = ny) (hw : w = w1 ++ (wc ++ w2)) (hw' : w1 ++ (wc' ++ w2) = w') (q0 ci : Nat) (he : w[q0]? = some (a, .inr (ci, fs))) (hc : zCl[ci]? = some (C, T, N)) (hcat : Nat.ble (st.map fun v => v.category).sum 8 = true) (hd : decode cc pc = .ok (.invokevirtual idx, 3)) (k : Go X w' L (pc + 3) (.int v :: st)) : Go X w L pc st0 :=
  g_cv hX hy hsel hl0 hM hst hdc hmx hn hw hw' q0 ci he hc hcat hd k
theorem g_cvV {C : String} {T : u_T} {N : Nat} {fs : List Value} (hX : Ok X own cc n d c) (hy : zCal y bytes maxL ret ny) (hsel : Cond.selects C y y ∈ zB) (hl0 : Cond.methodLink own idx y ∈ zB) (hM : KM y bytes maxL ret dc c (.ref a :: As) wc wc' none) (hst : st0 = As.reverse ++ .ref a :: st) (hdc : Nat.ble (dc + 1) d = true) (hmx : Nat.ble maxL 22 = true) (hn : As.length = ny) (hw : w = w1 ++ (wc ++ w2)) (hw' : w1 ++ (wc' ++ w2) = w') (q0 ci : Nat) (he : w[q0]? = some (a, .inr (ci, fs))) (hc : zCl[ci]? = some (C, T, N)) (hcat : Nat.ble (st.map fun v => v.category).sum 8 = true) (hd : decode cc pc = .ok (.invokevirtual idx, 3)) (k : Go X w' L (pc + 3) st) : Go X w L pc st0 :=
  g_cv hX hy hsel hl0 hM hst hdc hmx hn hw hw' q0 ci he hc hcat hd k
theorem g_cs (hX : Ok X own cc n d c) (hy : zCas y bytes maxL ret ny) (hl0 : Cond.methodLink own idx y ∈ zB) (hM : KM y bytes maxL ret dc c As wc wc' r) (hst : st0 = As.reverse ++ st) (hdc : Nat.ble (dc + 1) d = true) (hmx : Nat.ble maxL 22 = true) (hn : As.length = ny) (hw : w = w1 ++ (wc ++ w2)) (hw' : w1 ++ (wc' ++ w2) = w') (hcat : Nat.ble (st.map fun v => v.category).sum 8 = true) (hd : decode cc pc = .ok (.invokestatic idx, 3)) (k : Go X w' L (pc + 3) (r.toList ++ st)) : Go X w L pc st0 := by
  subst hst
  obtain ⟨p, l, e, R, s, m, args, below, meth, cd, cells, slots, Q, D, tys, A⟩ := X; obtain ⟨hx, hb, hml, hown, -, hB, hK, hN, ht, ⟨hr1, hr2⟩, hr3, hr4⟩ := hX; intro H locs ls hP hD hS hl
  obtain ⟨h1, h2, h3, h4, h5, h6⟩ := hy
  have g1 := Nat.le_of_ble_eq_true hdc
  have g2 := Nat.le_of_ble_eq_true hmx
  have g3 := Nat.le_of_ble_eq_true hcat
  have hro : (zRm dc).frames + 1 ≤ R.frames ∧ 8 + (maxL + 11) + (zRm dc).locals ≤ R.locals := ⟨Nat.le_trans g1 hr1, by show 8 + (maxL + 11) + 41 * dc ≤ _; omega⟩
  subst hw; subst hw'
  refine zRun (w1 := w1) (wc := wc) (wc' := wc') (w2 := w2) (va_runS (As := As) (rest := st) ⟨hx, hb, hml, hown, hB⟩ (hM.2 l D) ⟨callB_of ny hB (zGood y h3) rfl rfl rfl (hB _ h2) (hB _ hl0) ⟨h4, h5, h6⟩ hro, hB _ h1⟩ ⟨zFb, fun U hU hW => ⟨rfl, by rw [hU]; exact zSubP hP, by rw [← ht]; exact va_K.moved hW.alike hK, zNW.warm hW hN, zSubD hD⟩⟩ rfl hn (hl.1.trans hml) rfl (lv_room g3) hd ⟨hr3, hr4⟩) hP hD hS hM.1 ?_
  exact fun H1 locs1 hP1 hD1 hS1 => k H1 locs1 ls hP1 hD1 hS1 hl
theorem g_csI {v : Int32} (hX : Ok X own cc n d c) (hy : zCas y bytes maxL ret ny) (hl0 : Cond.methodLink own idx y ∈ zB) (hM : KM y bytes maxL ret dc c As [] [] (some (.int v))) (hst : st0 = As.reverse ++ st) (hdc : Nat.ble (dc + 1) d = true) (hmx : Nat.ble maxL 22 = true) (hn : As.length = ny) (hcat : Nat.ble (st.map fun v => v.category).sum 8 = true) (hd : decode cc pc = .ok (.invokestatic idx, 3)) (k : Go X w L (pc + 3) (.int v :: st)) : Go X w L pc st0 :=
  g_cs (w1 := []) (w2 := w) hX hy hl0 hM hst hdc hmx hn rfl rfl hcat hd k
theorem g_csNI {v : Int32} {host : String} (hX : Ok X own cc n d c) (hy : zCas y bytes maxL ret ny) (hl0 : (own, idx, y, host) ∈ zNm) (hM : KM y bytes maxL ret dc c As [] [] (some (.int v))) (hst : st0 = As.reverse ++ st) (hdc : Nat.ble (dc + 1) d = true) (hmx : Nat.ble maxL 22 = true) (hn : As.length = ny) (hcat : Nat.ble (st.map fun v => v.category).sum 8 = true) (hd : decode cc pc = .ok (.invokestatic idx, 3)) (k : Go X w L (pc + 3) (.int v :: st)) : Go X w L pc st0 := by
  subst hst
  obtain ⟨p, l, e, R, s, m, args, below, meth, cd, cells, slots, Q, D, tys, A⟩ := X; obtain ⟨hx, hb, hml, hown, -, hB, hK, hN, ht, ⟨hr1, hr2⟩, hr3, hr4⟩ := hX; intro H locs ls hP hD hS hl
  obtain ⟨h1, h2, h3, h4, h5, h6⟩ := hy
  have g1 := Nat.le_of_ble_eq_true hdc
  have g2 := Nat.le_of_ble_eq_true hmx
  have g3 := Nat.le_of_ble_eq_true hcat
  have hro : (zRm dc).frames + 1 ≤ R.frames ∧ 8 + (maxL + 11) + (zRm dc).locals ≤ R.locals := ⟨Nat.le_trans g1 hr1, by show 8 + (maxL + 11) + 41 * dc ≤ _; omega⟩
  have hP0 : va_P D zCl ([] ++ ([] ++ w)) H := hP
  have hD0 : va_D A ([] ++ ([] ++ w)) := hD
  refine zRun (w1 := []) (wc := []) (wc' := []) (w2 := w) (r := some (.int v)) (va_runSN (As := As) (rest := st) (host := host) ⟨hx, hb, hml, hown, hB⟩ (hM.2 l D) ⟨va_cnB ny hB (zGood y h3) rfl rfl rfl (hN.2 _ hl0) (hB _ h2) ⟨h4, h5, h6⟩ hro, hB _ h1, trivial⟩ ⟨zFb, fun U hU hW => ⟨rfl, by rw [hU]; exact zSubP hP0, by rw [← ht]; exact va_K.moved hW.alike hK, zNW.warm hW hN, zSubD hD0⟩⟩ rfl hn (hl.1.trans hml) rfl (lv_room g3) hd ⟨hr3, hr4⟩) hP0 hD0 hS hM.1 ?_
  exact fun H1 locs1 hP1 hD1 hS1 => k H1 locs1 ls hP1 hD1 hS1 hl
end GCALL
theorem zself (w : va_W) : w = [] ++ (w ++ []) := by simp
theorem zbind {α β : Type} {a : Option α} {f : α → Option β} {o : β} (h : a.bind f = some o) : ∃ x, a = some x ∧ f x = some o := by
  cases a with
  | none => cases h
  | some x => exact ⟨x, rfl, h⟩
theorem zperm {X : zX} {w w' : va_W} {L : List (Nat × Value)} {pc : Nat} {st : List Value} (h : w.Perm w') (k : Go X w' L pc st) : Go X w L pc st := by
  obtain ⟨p, l, e, R, s, m, args, below, meth, cd, cells, slots, Q, D, tys, A⟩ := X
  intro H locs ls hP hD hS hl
  refine k H locs ls (zPin fun q hq => zPof hP q (h.mem_iff.mpr hq)) ?_ hS hl
  refine ⟨fun i j x y hi hj hxy => ?_, fun k q hk => ?_⟩
  · have nd : (w.map Prod.fst).Nodup := by
      refine List.pairwise_iff_getElem.mpr (fun i j hi hj hij heq => ?_)
      simp only [List.length_map] at hi hj
      have e1 : w[i]? = some w[i] := List.getElem?_eq_getElem hi
      have e2 : w[j]? = some w[j] := List.getElem?_eq_getElem hj
      have := hD.1 i j _ _ e1 e2 (by simpa using heq)
      omega
    have nd' : (w'.map Prod.fst).Nodup := (h.map Prod.fst).nodup_iff.mp nd
    have hil := (List.getElem?_eq_some_iff.mp hi).1
    have hjl := (List.getElem?_eq_some_iff.mp hj).1
    have e1 := (List.getElem?_eq_some_iff.mp hi).2
    have e2 := (List.getElem?_eq_some_iff.mp hj).2
    rcases Nat.lt_trichotomy i j with g | g | g
    · exact (List.pairwise_iff_getElem.mp nd' i j (by simpa using hil) (by simpa using hjl) g (by simp [e1, e2, hxy])).elim
    · exact g
    · exact (List.pairwise_iff_getElem.mp nd' j i (by simpa using hjl) (by simpa using hil) g (by simp [e1, e2, hxy])).elim
  · obtain ⟨j, hj⟩ := List.getElem?_of_mem (h.mem_iff.mpr (List.mem_of_getElem? hk))
    exact hD.2 j q hj
end
section
/-! states of the objects, and the worlds that hold them -/
abbrev zsT : Type := (Nat → Int32) × Int32
abbrev zsC : Type := zsT × zsT × (Nat → Int32)
abbrev zsF : Type := zsC × zsT × (Nat → Int32)
abbrev zsE : Type := zsF × zsT × (Nat → Int32)
abbrev zsS : Type := zsE × zsT × zsT × Int32
abbrev zsP : Type := (Nat → Int32) × (Nat → Int32) × Int32 × Int32
abbrev zsW : Type := (Nat → Int32) × (Nat → Int32) × Int32
abbrev zsK : Type := (Nat → zsS) × Int32 × Int32
abbrev zsX : Type := zsP × Int32 × Int32 × zsW × zsS × zsK × zsS
abbrev zsM : Type := (Nat → Int32) × (Nat → Nat → Int32)
def zwT (c : zY) (a0 a1 : Nat) (w : Int32) (n : Nat) (x : zsT) : va_W := [(a0, .inr (6, [.int w, .ref a1, .int x.2])), (a1, .inl (c.1, n, .inl x.1))]
def zwJ (c : zY) (q : Nat → Nat) (x : zsT) : va_W := [(q 0, .inr (4, [.ref (q 1), .int x.2])), (q 1, .inl (c.1, 900, .inl x.1))]
def zwC (c : zY) (q : Nat → Nat) (x : zsC) : va_W := zwJ c q x.1 ++ ((q 2, .inr (1, [.ref (q 3), .ref (q 0), .ref (q 5)])) :: (zwT c (q 3) (q 4) 6 2304 x.2.1 ++ [(q 5, .inl (c.1, 8, .inl x.2.2))]))
def zwF (c : zY) (q : Nat → Nat) (x : zsF) : va_W := zwC c q x.1 ++ ((q 6, .inr (3, [.ref (q 7), .ref (q 2), .ref (q 0), .int (x.2.2 3), .int (x.2.2 4)])) :: zwT c (q 7) (q 8) 13 104 x.2.1)
def zwE (c : zY) (q : Nat → Nat) (x : zsE) : va_W := zwF c q x.1 ++ ((q 9, .inr (2, [.ref (q 10), .ref (q 6), .ref (q 2), .ref (q 0), .int (x.2.2 4), .int (x.2.2 5), .int (x.2.2 6), .int (x.2.2 7), .int (x.2.2 8), .int (x.2.2 9), .int (x.2.2 10)])) :: zwT c (q 10) (q 11) 1 8 x.2.1)
def zwS (c : zY) (q : Nat → Nat) (x : zsS) : va_W := zwE c q x.1 ++ ((q 12, .inr (5, [.ref (q 0), .ref (q 2), .ref (q 6), .ref (q 9), .ref (q 13), .ref (q 15), .int x.2.2.2])) :: (zwT c (q 13) (q 14) 1 100 x.2.1 ++ zwT c (q 15) (q 16) 25 100 x.2.2.1))
def zwP (c : zY) (a0 a1 a2 : Nat) (x : zsP) : va_W := [(a0, .inr (7, [.ref a1, .ref a2, .int x.2.2.1, .int x.2.2.2])), (a1, .inl (c.1, 40, .inl x.1)), (a2, .inl (c.1, 25, .inl x.2.1))]
def zwW (c : zY) (a0 a1 a2 : Nat) (x : zsW) : va_W := [(a0, .inr (8, [.ref a1, .ref a2, .int x.2.2])), (a1, .inl (c.1, 100, .inl x.1)), (a2, .inl (c.1, 100, .inl x.2.1))]
def zeR (q : Nat → Nat) : Nat → Option Nat := fun i => if i < 6 then some (q (55 + 17 * i)) else none
def zwK (c : zY) (q : Nat → Nat) (x : zsK) : va_W := (q 24, .inr (0, [.ref (q 25), .int x.2.1, .int x.2.2])) :: (q 25, .inl (c.2.2, 6, .inr (.inr (.inr (.inr (zeR q)))))) :: (zwS c (fun i => q (i + 43)) (x.1 0) ++ (zwS c (fun i => q (i + 60)) (x.1 1) ++ (zwS c (fun i => q (i + 77)) (x.1 2) ++ (zwS c (fun i => q (i + 94)) (x.1 3) ++ (zwS c (fun i => q (i + 111)) (x.1 4) ++ zwS c (fun i => q (i + 128)) (x.1 5))))))
def zwX (c : zY) (q : Nat → Nat) (x : zsX) : va_W := zwP c (q 18) (q 19) (q 20) x.1 ++ ((q 17, .inr (9, [.ref (q 12), .ref (q 38), .ref (q 24), .ref (q 18), .ref (q 21), .int x.2.1, .int x.2.2.1])) :: (zwW c (q 21) (q 22) (q 23) x.2.2.2.1 ++ (zwS c q x.2.2.2.2.1 ++ (zwK c q x.2.2.2.2.2.1 ++ zwS c (fun i => q (i + 26)) x.2.2.2.2.2.2))))

def zfM (q : Nat → Nat) (x : Nat → Int32) : List Value := [.ref (q 1), .ref (q 2), .ref (q 3), .ref (q 4), .ref (q 5), .ref (q 6), .ref (q 7), .ref (q 8), .ref (q 9), .ref (q 10), .ref (q 11), .int (x 11), .int (x 12), .ref (q 12), .int (x 14), .ref (q 13), .int (x 16), .int (x 17), .int (x 18), .int (x 19), .int (x 20), .int (x 21), .int (x 22), .int (x 23), .int (x 24), .int (x 25), .int (x 26), .int (x 27), .int (x 28), .int (x 29), .ref (q 14), .ref (q 15), .ref (q 16), .ref (q 17), .ref (q 18), .ref (q 19), .int (x 36), .int (x 37), .int (x 38), .ref (q 20), .ref (q 21), .ref (q 22), .int (x 42), .int (x 43), .int (x 44), .int (x 45)]
def zwM (c : zY) (q : Nat → Nat) (x : zsM) : va_W := (q 0, .inr (10, zfM q x.1)) :: [((q 1), .inl (c.1, 100, .inl (x.2 0))), ((q 2), .inl (c.1, 8, .inl (x.2 1))), ((q 3), .inl (c.1, 8, .inl (x.2 2))), ((q 4), .inl (c.1, 8, .inl (x.2 3))), ((q 5), .inl (c.1, 8, .inl (x.2 4))), ((q 6), .inl (c.1, 8, .inl (x.2 5))), ((q 7), .inl (c.1, 8, .inl (x.2 6))), ((q 8), .inl (c.1, 8, .inl (x.2 7))), ((q 9), .inl (c.1, 24, .inl (x.2 8))), ((q 10), .inl (c.1, 24, .inl (x.2 9))), ((q 11), .inl (c.1, 8, .inl (x.2 10))), ((q 12), .inl (c.1, 300, .inl (x.2 13))), ((q 13), .inl (c.1, 384, .inl (x.2 15))), ((q 14), .inl (c.1, 8, .inl (x.2 30))), ((q 15), .inl (c.1, 100, .inl (x.2 31))), ((q 16), .inl (c.1, 100, .inl (x.2 32))), ((q 17), .inl (c.1, 100, .inl (x.2 33))), ((q 18), .inl (c.1, 40, .inl (x.2 34))), ((q 19), .inl (c.1, 25, .inl (x.2 35))), ((q 20), .inl (c.2.1, 100, .inl (x.2 39))), ((q 21), .inl (c.1, 6078, .inl (x.2 40))), ((q 22), .inl (c.1, 1013, .inl (x.2 41)))]
set_option maxRecDepth 4000 in
theorem su_Mo_0_11 (c : zY) (q : Nat → Nat) (x : zsM) (v : Int32) : (zwM c q x).set 0 (q 0, .inr (10, (zfM q x.1).set 11 (.int v))) = zwM c q (upd x.1 11 v, x.2) := rfl
set_option maxRecDepth 4000 in
theorem su_Mo_0_12 (c : zY) (q : Nat → Nat) (x : zsM) (v : Int32) : (zwM c q x).set 0 (q 0, .inr (10, (zfM q x.1).set 12 (.int v))) = zwM c q (upd x.1 12 v, x.2) := rfl
set_option maxRecDepth 4000 in
theorem su_Mo_0_14 (c : zY) (q : Nat → Nat) (x : zsM) (v : Int32) : (zwM c q x).set 0 (q 0, .inr (10, (zfM q x.1).set 14 (.int v))) = zwM c q (upd x.1 14 v, x.2) := rfl
set_option maxRecDepth 4000 in
theorem su_Mo_0_16 (c : zY) (q : Nat → Nat) (x : zsM) (v : Int32) : (zwM c q x).set 0 (q 0, .inr (10, (zfM q x.1).set 16 (.int v))) = zwM c q (upd x.1 16 v, x.2) := rfl
set_option maxRecDepth 4000 in
theorem su_Mo_0_17 (c : zY) (q : Nat → Nat) (x : zsM) (v : Int32) : (zwM c q x).set 0 (q 0, .inr (10, (zfM q x.1).set 17 (.int v))) = zwM c q (upd x.1 17 v, x.2) := rfl
set_option maxRecDepth 4000 in
theorem su_Mo_0_18 (c : zY) (q : Nat → Nat) (x : zsM) (v : Int32) : (zwM c q x).set 0 (q 0, .inr (10, (zfM q x.1).set 18 (.int v))) = zwM c q (upd x.1 18 v, x.2) := rfl
set_option maxRecDepth 4000 in
theorem su_Mo_0_19 (c : zY) (q : Nat → Nat) (x : zsM) (v : Int32) : (zwM c q x).set 0 (q 0, .inr (10, (zfM q x.1).set 19 (.int v))) = zwM c q (upd x.1 19 v, x.2) := rfl
set_option maxRecDepth 4000 in
theorem su_Mo_0_20 (c : zY) (q : Nat → Nat) (x : zsM) (v : Int32) : (zwM c q x).set 0 (q 0, .inr (10, (zfM q x.1).set 20 (.int v))) = zwM c q (upd x.1 20 v, x.2) := rfl
set_option maxRecDepth 4000 in
theorem su_Mo_0_21 (c : zY) (q : Nat → Nat) (x : zsM) (v : Int32) : (zwM c q x).set 0 (q 0, .inr (10, (zfM q x.1).set 21 (.int v))) = zwM c q (upd x.1 21 v, x.2) := rfl
set_option maxRecDepth 4000 in
theorem su_Mo_0_22 (c : zY) (q : Nat → Nat) (x : zsM) (v : Int32) : (zwM c q x).set 0 (q 0, .inr (10, (zfM q x.1).set 22 (.int v))) = zwM c q (upd x.1 22 v, x.2) := rfl
set_option maxRecDepth 4000 in
theorem su_Mo_0_23 (c : zY) (q : Nat → Nat) (x : zsM) (v : Int32) : (zwM c q x).set 0 (q 0, .inr (10, (zfM q x.1).set 23 (.int v))) = zwM c q (upd x.1 23 v, x.2) := rfl
set_option maxRecDepth 4000 in
theorem su_Mo_0_24 (c : zY) (q : Nat → Nat) (x : zsM) (v : Int32) : (zwM c q x).set 0 (q 0, .inr (10, (zfM q x.1).set 24 (.int v))) = zwM c q (upd x.1 24 v, x.2) := rfl
set_option maxRecDepth 4000 in
theorem su_Mo_0_25 (c : zY) (q : Nat → Nat) (x : zsM) (v : Int32) : (zwM c q x).set 0 (q 0, .inr (10, (zfM q x.1).set 25 (.int v))) = zwM c q (upd x.1 25 v, x.2) := rfl
set_option maxRecDepth 4000 in
theorem su_Mo_0_26 (c : zY) (q : Nat → Nat) (x : zsM) (v : Int32) : (zwM c q x).set 0 (q 0, .inr (10, (zfM q x.1).set 26 (.int v))) = zwM c q (upd x.1 26 v, x.2) := rfl
set_option maxRecDepth 4000 in
theorem su_Mo_0_27 (c : zY) (q : Nat → Nat) (x : zsM) (v : Int32) : (zwM c q x).set 0 (q 0, .inr (10, (zfM q x.1).set 27 (.int v))) = zwM c q (upd x.1 27 v, x.2) := rfl
set_option maxRecDepth 4000 in
theorem su_Mo_0_28 (c : zY) (q : Nat → Nat) (x : zsM) (v : Int32) : (zwM c q x).set 0 (q 0, .inr (10, (zfM q x.1).set 28 (.int v))) = zwM c q (upd x.1 28 v, x.2) := rfl
set_option maxRecDepth 4000 in
theorem su_Mo_0_29 (c : zY) (q : Nat → Nat) (x : zsM) (v : Int32) : (zwM c q x).set 0 (q 0, .inr (10, (zfM q x.1).set 29 (.int v))) = zwM c q (upd x.1 29 v, x.2) := rfl
set_option maxRecDepth 4000 in
theorem su_Mo_0_36 (c : zY) (q : Nat → Nat) (x : zsM) (v : Int32) : (zwM c q x).set 0 (q 0, .inr (10, (zfM q x.1).set 36 (.int v))) = zwM c q (upd x.1 36 v, x.2) := rfl
set_option maxRecDepth 4000 in
theorem su_Mo_0_37 (c : zY) (q : Nat → Nat) (x : zsM) (v : Int32) : (zwM c q x).set 0 (q 0, .inr (10, (zfM q x.1).set 37 (.int v))) = zwM c q (upd x.1 37 v, x.2) := rfl
set_option maxRecDepth 4000 in
theorem su_Mo_0_38 (c : zY) (q : Nat → Nat) (x : zsM) (v : Int32) : (zwM c q x).set 0 (q 0, .inr (10, (zfM q x.1).set 38 (.int v))) = zwM c q (upd x.1 38 v, x.2) := rfl
set_option maxRecDepth 4000 in
theorem su_Mo_0_42 (c : zY) (q : Nat → Nat) (x : zsM) (v : Int32) : (zwM c q x).set 0 (q 0, .inr (10, (zfM q x.1).set 42 (.int v))) = zwM c q (upd x.1 42 v, x.2) := rfl
set_option maxRecDepth 4000 in
theorem su_Mo_0_43 (c : zY) (q : Nat → Nat) (x : zsM) (v : Int32) : (zwM c q x).set 0 (q 0, .inr (10, (zfM q x.1).set 43 (.int v))) = zwM c q (upd x.1 43 v, x.2) := rfl
set_option maxRecDepth 4000 in
theorem su_Mo_0_44 (c : zY) (q : Nat → Nat) (x : zsM) (v : Int32) : (zwM c q x).set 0 (q 0, .inr (10, (zfM q x.1).set 44 (.int v))) = zwM c q (upd x.1 44 v, x.2) := rfl
set_option maxRecDepth 4000 in
theorem su_Mo_0_45 (c : zY) (q : Nat → Nat) (x : zsM) (v : Int32) : (zwM c q x).set 0 (q 0, .inr (10, (zfM q x.1).set 45 (.int v))) = zwM c q (upd x.1 45 v, x.2) := rfl
set_option maxRecDepth 4000 in
theorem sa_Mo_1 (c : zY) (q : Nat → Nat) (x : zsM) (f : Nat → Int32) : (zwM c q x).set 1 ((q 1), .inl (c.1, 100, .inl f)) = zwM c q (x.1, va_up x.2 0 f) := rfl
set_option maxRecDepth 4000 in
theorem sa_Mo_2 (c : zY) (q : Nat → Nat) (x : zsM) (f : Nat → Int32) : (zwM c q x).set 2 ((q 2), .inl (c.1, 8, .inl f)) = zwM c q (x.1, va_up x.2 1 f) := rfl
set_option maxRecDepth 4000 in
theorem sa_Mo_3 (c : zY) (q : Nat → Nat) (x : zsM) (f : Nat → Int32) : (zwM c q x).set 3 ((q 3), .inl (c.1, 8, .inl f)) = zwM c q (x.1, va_up x.2 2 f) := rfl
set_option maxRecDepth 4000 in
theorem sa_Mo_4 (c : zY) (q : Nat → Nat) (x : zsM) (f : Nat → Int32) : (zwM c q x).set 4 ((q 4), .inl (c.1, 8, .inl f)) = zwM c q (x.1, va_up x.2 3 f) := rfl
set_option maxRecDepth 4000 in
theorem sa_Mo_5 (c : zY) (q : Nat → Nat) (x : zsM) (f : Nat → Int32) : (zwM c q x).set 5 ((q 5), .inl (c.1, 8, .inl f)) = zwM c q (x.1, va_up x.2 4 f) := rfl
set_option maxRecDepth 4000 in
theorem sa_Mo_6 (c : zY) (q : Nat → Nat) (x : zsM) (f : Nat → Int32) : (zwM c q x).set 6 ((q 6), .inl (c.1, 8, .inl f)) = zwM c q (x.1, va_up x.2 5 f) := rfl
set_option maxRecDepth 4000 in
theorem sa_Mo_7 (c : zY) (q : Nat → Nat) (x : zsM) (f : Nat → Int32) : (zwM c q x).set 7 ((q 7), .inl (c.1, 8, .inl f)) = zwM c q (x.1, va_up x.2 6 f) := rfl
set_option maxRecDepth 4000 in
theorem sa_Mo_8 (c : zY) (q : Nat → Nat) (x : zsM) (f : Nat → Int32) : (zwM c q x).set 8 ((q 8), .inl (c.1, 8, .inl f)) = zwM c q (x.1, va_up x.2 7 f) := rfl
set_option maxRecDepth 4000 in
theorem sa_Mo_9 (c : zY) (q : Nat → Nat) (x : zsM) (f : Nat → Int32) : (zwM c q x).set 9 ((q 9), .inl (c.1, 24, .inl f)) = zwM c q (x.1, va_up x.2 8 f) := rfl
set_option maxRecDepth 4000 in
theorem sa_Mo_10 (c : zY) (q : Nat → Nat) (x : zsM) (f : Nat → Int32) : (zwM c q x).set 10 ((q 10), .inl (c.1, 24, .inl f)) = zwM c q (x.1, va_up x.2 9 f) := rfl
set_option maxRecDepth 4000 in
theorem sa_Mo_11 (c : zY) (q : Nat → Nat) (x : zsM) (f : Nat → Int32) : (zwM c q x).set 11 ((q 11), .inl (c.1, 8, .inl f)) = zwM c q (x.1, va_up x.2 10 f) := rfl
set_option maxRecDepth 4000 in
theorem sa_Mo_12 (c : zY) (q : Nat → Nat) (x : zsM) (f : Nat → Int32) : (zwM c q x).set 12 ((q 12), .inl (c.1, 300, .inl f)) = zwM c q (x.1, va_up x.2 13 f) := rfl
set_option maxRecDepth 4000 in
theorem sa_Mo_13 (c : zY) (q : Nat → Nat) (x : zsM) (f : Nat → Int32) : (zwM c q x).set 13 ((q 13), .inl (c.1, 384, .inl f)) = zwM c q (x.1, va_up x.2 15 f) := rfl
set_option maxRecDepth 4000 in
theorem sa_Mo_14 (c : zY) (q : Nat → Nat) (x : zsM) (f : Nat → Int32) : (zwM c q x).set 14 ((q 14), .inl (c.1, 8, .inl f)) = zwM c q (x.1, va_up x.2 30 f) := rfl
set_option maxRecDepth 4000 in
theorem sa_Mo_15 (c : zY) (q : Nat → Nat) (x : zsM) (f : Nat → Int32) : (zwM c q x).set 15 ((q 15), .inl (c.1, 100, .inl f)) = zwM c q (x.1, va_up x.2 31 f) := rfl
set_option maxRecDepth 4000 in
theorem sa_Mo_16 (c : zY) (q : Nat → Nat) (x : zsM) (f : Nat → Int32) : (zwM c q x).set 16 ((q 16), .inl (c.1, 100, .inl f)) = zwM c q (x.1, va_up x.2 32 f) := rfl
set_option maxRecDepth 4000 in
theorem sa_Mo_17 (c : zY) (q : Nat → Nat) (x : zsM) (f : Nat → Int32) : (zwM c q x).set 17 ((q 17), .inl (c.1, 100, .inl f)) = zwM c q (x.1, va_up x.2 33 f) := rfl
set_option maxRecDepth 4000 in
theorem sa_Mo_18 (c : zY) (q : Nat → Nat) (x : zsM) (f : Nat → Int32) : (zwM c q x).set 18 ((q 18), .inl (c.1, 40, .inl f)) = zwM c q (x.1, va_up x.2 34 f) := rfl
set_option maxRecDepth 4000 in
theorem sa_Mo_19 (c : zY) (q : Nat → Nat) (x : zsM) (f : Nat → Int32) : (zwM c q x).set 19 ((q 19), .inl (c.1, 25, .inl f)) = zwM c q (x.1, va_up x.2 35 f) := rfl
set_option maxRecDepth 4000 in
theorem sa_Mo_20 (c : zY) (q : Nat → Nat) (x : zsM) (f : Nat → Int32) : (zwM c q x).set 20 ((q 20), .inl (c.2.1, 100, .inl f)) = zwM c q (x.1, va_up x.2 39 f) := rfl
set_option maxRecDepth 4000 in
theorem sa_Mo_21 (c : zY) (q : Nat → Nat) (x : zsM) (f : Nat → Int32) : (zwM c q x).set 21 ((q 21), .inl (c.1, 6078, .inl f)) = zwM c q (x.1, va_up x.2 40 f) := rfl
set_option maxRecDepth 4000 in
theorem sa_Mo_22 (c : zY) (q : Nat → Nat) (x : zsM) (f : Nat → Int32) : (zwM c q x).set 22 ((q 22), .inl (c.1, 1013, .inl f)) = zwM c q (x.1, va_up x.2 41 f) := rfl
set_option maxRecDepth 20000 in
theorem zq_Ta (c : zY) (a0 a1 : Nat) (w : Int32) (n : Nat) (x x2 : zsT) : (zwT c a0 a1 w n x2).map Prod.fst = (zwT c a0 a1 w n x).map Prod.fst := rfl
theorem su_Ta_0_2 (c : zY) (a0 a1 : Nat) (w : Int32) (n : Nat) (x : zsT) (v : Int32) : (zwT c a0 a1 w n x).set 0 (a0, .inr (6, ([.int w, .ref a1, .int x.2]).set 2 (.int v))) = zwT c a0 a1 w n (x.1, v) := rfl
theorem sa_Ta_1 (c : zY) (a0 a1 : Nat) (w : Int32) (n : Nat) (x : zsT) (f : Nat → Int32) : (zwT c a0 a1 w n x).set 1 (a1, .inl (c.1, n, .inl f)) = zwT c a0 a1 w n (f, x.2) := rfl
set_option maxRecDepth 20000 in
theorem zq_Jo (c : zY) (q : Nat → Nat) (x x2 : zsT) : (zwJ c q x2).map Prod.fst = (zwJ c q x).map Prod.fst := rfl
theorem su_Jo_0_1 (c : zY) (q : Nat → Nat) (x : zsT) (v : Int32) : (zwJ c q x).set 0 ((q 0), .inr (4, ([.ref (q 1), .int x.2]).set 1 (.int v))) = zwJ c q (x.1, v) := rfl
theorem sa_Jo_1 (c : zY) (q : Nat → Nat) (x : zsT) (f : Nat → Int32) : (zwJ c q x).set 1 ((q 1), .inl (c.1, 900, .inl f)) = zwJ c q (f, x.2) := rfl
set_option maxRecDepth 20000 in
theorem zq_Co (c : zY) (q : Nat → Nat) (x x2 : zsC) : (zwC c q x2).map Prod.fst = (zwC c q x).map Prod.fst := rfl
theorem su_Co_0_1 (c : zY) (q : Nat → Nat) (x : zsC) (v : Int32) : (zwC c q x).set 0 ((q 0), .inr (4, ([.ref (q 1), .int x.1.2]).set 1 (.int v))) = zwC c q ((x.1.1, v), x.2.1, x.2.2) := rfl
theorem sa_Co_1 (c : zY) (q : Nat → Nat) (x : zsC) (f : Nat → Int32) : (zwC c q x).set 1 ((q 1), .inl (c.1, 900, .inl f)) = zwC c q ((f, x.1.2), x.2.1, x.2.2) := rfl
theorem su_Co_3_2 (c : zY) (q : Nat → Nat) (x : zsC) (v : Int32) : (zwC c q x).set 3 ((q 3), .inr (6, ([.int 6, .ref (q 4), .int x.2.1.2]).set 2 (.int v))) = zwC c q (x.1, (x.2.1.1, v), x.2.2) := rfl
theorem sa_Co_4 (c : zY) (q : Nat → Nat) (x : zsC) (f : Nat → Int32) : (zwC c q x).set 4 ((q 4), .inl (c.1, 2304, .inl f)) = zwC c q (x.1, (f, x.2.1.2), x.2.2) := rfl
theorem sa_Co_5 (c : zY) (q : Nat → Nat) (x : zsC) (f : Nat → Int32) : (zwC c q x).set 5 ((q 5), .inl (c.1, 8, .inl f)) = zwC c q (x.1, x.2.1, f) := rfl
set_option maxRecDepth 20000 in
theorem zq_Fi (c : zY) (q : Nat → Nat) (x x2 : zsF) : (zwF c q x2).map Prod.fst = (zwF c q x).map Prod.fst := rfl
theorem su_Fi_0_1 (c : zY) (q : Nat → Nat) (x : zsF) (v : Int32) : (zwF c q x).set 0 ((q 0), .inr (4, ([.ref (q 1), .int x.1.1.2]).set 1 (.int v))) = zwF c q (((x.1.1.1, v), x.1.2.1, x.1.2.2), x.2.1, x.2.2) := rfl
theorem sa_Fi_1 (c : zY) (q : Nat → Nat) (x : zsF) (f : Nat → Int32) : (zwF c q x).set 1 ((q 1), .inl (c.1, 900, .inl f)) = zwF c q (((f, x.1.1.2), x.1.2.1, x.1.2.2), x.2.1, x.2.2) := rfl
theorem su_Fi_3_2 (c : zY) (q : Nat → Nat) (x : zsF) (v : Int32) : (zwF c q x).set 3 ((q 3), .inr (6, ([.int 6, .ref (q 4), .int x.1.2.1.2]).set 2 (.int v))) = zwF c q ((x.1.1, (x.1.2.1.1, v), x.1.2.2), x.2.1, x.2.2) := rfl
theorem sa_Fi_4 (c : zY) (q : Nat → Nat) (x : zsF) (f : Nat → Int32) : (zwF c q x).set 4 ((q 4), .inl (c.1, 2304, .inl f)) = zwF c q ((x.1.1, (f, x.1.2.1.2), x.1.2.2), x.2.1, x.2.2) := rfl
theorem sa_Fi_5 (c : zY) (q : Nat → Nat) (x : zsF) (f : Nat → Int32) : (zwF c q x).set 5 ((q 5), .inl (c.1, 8, .inl f)) = zwF c q ((x.1.1, x.1.2.1, f), x.2.1, x.2.2) := rfl
theorem su_Fi_6_3 (c : zY) (q : Nat → Nat) (x : zsF) (v : Int32) : (zwF c q x).set 6 ((q 6), .inr (3, ([.ref (q 7), .ref (q 2), .ref (q 0), .int (x.2.2 3), .int (x.2.2 4)]).set 3 (.int v))) = zwF c q (x.1, x.2.1, (upd x.2.2 3 v)) := rfl
theorem su_Fi_6_4 (c : zY) (q : Nat → Nat) (x : zsF) (v : Int32) : (zwF c q x).set 6 ((q 6), .inr (3, ([.ref (q 7), .ref (q 2), .ref (q 0), .int (x.2.2 3), .int (x.2.2 4)]).set 4 (.int v))) = zwF c q (x.1, x.2.1, (upd x.2.2 4 v)) := rfl
theorem su_Fi_7_2 (c : zY) (q : Nat → Nat) (x : zsF) (v : Int32) : (zwF c q x).set 7 ((q 7), .inr (6, ([.int 13, .ref (q 8), .int x.2.1.2]).set 2 (.int v))) = zwF c q (x.1, (x.2.1.1, v), x.2.2) := rfl
theorem sa_Fi_8 (c : zY) (q : Nat → Nat) (x : zsF) (f : Nat → Int32) : (zwF c q x).set 8 ((q 8), .inl (c.1, 104, .inl f)) = zwF c q (x.1, (f, x.2.1.2), x.2.2) := rfl
set_option maxRecDepth 20000 in
theorem zq_En (c : zY) (q : Nat → Nat) (x x2 : zsE) : (zwE c q x2).map Prod.fst = (zwE c q x).map Prod.fst := rfl
theorem su_En_0_1 (c : zY) (q : Nat → Nat) (x : zsE) (v : Int32) : (zwE c q x).set 0 ((q 0), .inr (4, ([.ref (q 1), .int x.1.1.1.2]).set 1 (.int v))) = zwE c q ((((x.1.1.1.1, v), x.1.1.2.1, x.1.1.2.2), x.1.2.1, x.1.2.2), x.2.1, x.2.2) := rfl
theorem sa_En_1 (c : zY) (q : Nat → Nat) (x : zsE) (f : Nat → Int32) : (zwE c q x).set 1 ((q 1), .inl (c.1, 900, .inl f)) = zwE c q ((((f, x.1.1.1.2), x.1.1.2.1, x.1.1.2.2), x.1.2.1, x.1.2.2), x.2.1, x.2.2) := rfl
theorem su_En_3_2 (c : zY) (q : Nat → Nat) (x : zsE) (v : Int32) : (zwE c q x).set 3 ((q 3), .inr (6, ([.int 6, .ref (q 4), .int x.1.1.2.1.2]).set 2 (.int v))) = zwE c q (((x.1.1.1, (x.1.1.2.1.1, v), x.1.1.2.2), x.1.2.1, x.1.2.2), x.2.1, x.2.2) := rfl
theorem sa_En_4 (c : zY) (q : Nat → Nat) (x : zsE) (f : Nat → Int32) : (zwE c q x).set 4 ((q 4), .inl (c.1, 2304, .inl f)) = zwE c q (((x.1.1.1, (f, x.1.1.2.1.2), x.1.1.2.2), x.1.2.1, x.1.2.2), x.2.1, x.2.2) := rfl
theorem sa_En_5 (c : zY) (q : Nat → Nat) (x : zsE) (f : Nat → Int32) : (zwE c q x).set 5 ((q 5), .inl (c.1, 8, .inl f)) = zwE c q (((x.1.1.1, x.1.1.2.1, f), x.1.2.1, x.1.2.2), x.2.1, x.2.2) := rfl
theorem su_En_6_3 (c : zY) (q : Nat → Nat) (x : zsE) (v : Int32) : (zwE c q x).set 6 ((q 6), .inr (3, ([.ref (q 7), .ref (q 2), .ref (q 0), .int (x.1.2.2 3), .int (x.1.2.2 4)]).set 3 (.int v))) = zwE c q ((x.1.1, x.1.2.1, (upd x.1.2.2 3 v)), x.2.1, x.2.2) := rfl
theorem su_En_6_4 (c : zY) (q : Nat → Nat) (x : zsE) (v : Int32) : (zwE c q x).set 6 ((q 6), .inr (3, ([.ref (q 7), .ref (q 2), .ref (q 0), .int (x.1.2.2 3), .int (x.1.2.2 4)]).set 4 (.int v))) = zwE c q ((x.1.1, x.1.2.1, (upd x.1.2.2 4 v)), x.2.1, x.2.2) := rfl
theorem su_En_7_2 (c : zY) (q : Nat → Nat) (x : zsE) (v : Int32) : (zwE c q x).set 7 ((q 7), .inr (6, ([.int 13, .ref (q 8), .int x.1.2.1.2]).set 2 (.int v))) = zwE c q ((x.1.1, (x.1.2.1.1, v), x.1.2.2), x.2.1, x.2.2) := rfl
theorem sa_En_8 (c : zY) (q : Nat → Nat) (x : zsE) (f : Nat → Int32) : (zwE c q x).set 8 ((q 8), .inl (c.1, 104, .inl f)) = zwE c q ((x.1.1, (f, x.1.2.1.2), x.1.2.2), x.2.1, x.2.2) := rfl
theorem su_En_9_4 (c : zY) (q : Nat → Nat) (x : zsE) (v : Int32) : (zwE c q x).set 9 ((q 9), .inr (2, ([.ref (q 10), .ref (q 6), .ref (q 2), .ref (q 0), .int (x.2.2 4), .int (x.2.2 5), .int (x.2.2 6), .int (x.2.2 7), .int (x.2.2 8), .int (x.2.2 9), .int (x.2.2 10)]).set 4 (.int v))) = zwE c q (x.1, x.2.1, (upd x.2.2 4 v)) := rfl
theorem su_En_9_5 (c : zY) (q : Nat → Nat) (x : zsE) (v : Int32) : (zwE c q x).set 9 ((q 9), .inr (2, ([.ref (q 10), .ref (q 6), .ref (q 2), .ref (q 0), .int (x.2.2 4), .int (x.2.2 5), .int (x.2.2 6), .int (x.2.2 7), .int (x.2.2 8), .int (x.2.2 9), .int (x.2.2 10)]).set 5 (.int v))) = zwE c q (x.1, x.2.1, (upd x.2.2 5 v)) := rfl
theorem su_En_9_6 (c : zY) (q : Nat → Nat) (x : zsE) (v : Int32) : (zwE c q x).set 9 ((q 9), .inr (2, ([.ref (q 10), .ref (q 6), .ref (q 2), .ref (q 0), .int (x.2.2 4), .int (x.2.2 5), .int (x.2.2 6), .int (x.2.2 7), .int (x.2.2 8), .int (x.2.2 9), .int (x.2.2 10)]).set 6 (.int v))) = zwE c q (x.1, x.2.1, (upd x.2.2 6 v)) := rfl
theorem su_En_9_7 (c : zY) (q : Nat → Nat) (x : zsE) (v : Int32) : (zwE c q x).set 9 ((q 9), .inr (2, ([.ref (q 10), .ref (q 6), .ref (q 2), .ref (q 0), .int (x.2.2 4), .int (x.2.2 5), .int (x.2.2 6), .int (x.2.2 7), .int (x.2.2 8), .int (x.2.2 9), .int (x.2.2 10)]).set 7 (.int v))) = zwE c q (x.1, x.2.1, (upd x.2.2 7 v)) := rfl
theorem su_En_9_8 (c : zY) (q : Nat → Nat) (x : zsE) (v : Int32) : (zwE c q x).set 9 ((q 9), .inr (2, ([.ref (q 10), .ref (q 6), .ref (q 2), .ref (q 0), .int (x.2.2 4), .int (x.2.2 5), .int (x.2.2 6), .int (x.2.2 7), .int (x.2.2 8), .int (x.2.2 9), .int (x.2.2 10)]).set 8 (.int v))) = zwE c q (x.1, x.2.1, (upd x.2.2 8 v)) := rfl
theorem su_En_9_9 (c : zY) (q : Nat → Nat) (x : zsE) (v : Int32) : (zwE c q x).set 9 ((q 9), .inr (2, ([.ref (q 10), .ref (q 6), .ref (q 2), .ref (q 0), .int (x.2.2 4), .int (x.2.2 5), .int (x.2.2 6), .int (x.2.2 7), .int (x.2.2 8), .int (x.2.2 9), .int (x.2.2 10)]).set 9 (.int v))) = zwE c q (x.1, x.2.1, (upd x.2.2 9 v)) := rfl
theorem su_En_9_10 (c : zY) (q : Nat → Nat) (x : zsE) (v : Int32) : (zwE c q x).set 9 ((q 9), .inr (2, ([.ref (q 10), .ref (q 6), .ref (q 2), .ref (q 0), .int (x.2.2 4), .int (x.2.2 5), .int (x.2.2 6), .int (x.2.2 7), .int (x.2.2 8), .int (x.2.2 9), .int (x.2.2 10)]).set 10 (.int v))) = zwE c q (x.1, x.2.1, (upd x.2.2 10 v)) := rfl
theorem su_En_10_2 (c : zY) (q : Nat → Nat) (x : zsE) (v : Int32) : (zwE c q x).set 10 ((q 10), .inr (6, ([.int 1, .ref (q 11), .int x.2.1.2]).set 2 (.int v))) = zwE c q (x.1, (x.2.1.1, v), x.2.2) := rfl
theorem sa_En_11 (c : zY) (q : Nat → Nat) (x : zsE) (f : Nat → Int32) : (zwE c q x).set 11 ((q 11), .inl (c.1, 8, .inl f)) = zwE c q (x.1, (f, x.2.1.2), x.2.2) := rfl
set_option maxRecDepth 20000 in
theorem zq_St (c : zY) (q : Nat → Nat) (x x2 : zsS) : (zwS c q x2).map Prod.fst = (zwS c q x).map Prod.fst := rfl
theorem su_St_0_1 (c : zY) (q : Nat → Nat) (x : zsS) (v : Int32) : (zwS c q x).set 0 ((q 0), .inr (4, ([.ref (q 1), .int x.1.1.1.1.2]).set 1 (.int v))) = zwS c q (((((x.1.1.1.1.1, v), x.1.1.1.2.1, x.1.1.1.2.2), x.1.1.2.1, x.1.1.2.2), x.1.2.1, x.1.2.2), x.2.1, x.2.2.1, x.2.2.2) := rfl
theorem sa_St_1 (c : zY) (q : Nat → Nat) (x : zsS) (f : Nat → Int32) : (zwS c q x).set 1 ((q 1), .inl (c.1, 900, .inl f)) = zwS c q (((((f, x.1.1.1.1.2), x.1.1.1.2.1, x.1.1.1.2.2), x.1.1.2.1, x.1.1.2.2), x.1.2.1, x.1.2.2), x.2.1, x.2.2.1, x.2.2.2) := rfl
theorem su_St_3_2 (c : zY) (q : Nat → Nat) (x : zsS) (v : Int32) : (zwS c q x).set 3 ((q 3), .inr (6, ([.int 6, .ref (q 4), .int x.1.1.1.2.1.2]).set 2 (.int v))) = zwS c q ((((x.1.1.1.1, (x.1.1.1.2.1.1, v), x.1.1.1.2.2), x.1.1.2.1, x.1.1.2.2), x.1.2.1, x.1.2.2), x.2.1, x.2.2.1, x.2.2.2) := rfl
theorem sa_St_4 (c : zY) (q : Nat → Nat) (x : zsS) (f : Nat → Int32) : (zwS c q x).set 4 ((q 4), .inl (c.1, 2304, .inl f)) = zwS c q ((((x.1.1.1.1, (f, x.1.1.1.2.1.2), x.1.1.1.2.2), x.1.1.2.1, x.1.1.2.2), x.1.2.1, x.1.2.2), x.2.1, x.2.2.1, x.2.2.2) := rfl
theorem sa_St_5 (c : zY) (q : Nat → Nat) (x : zsS) (f : Nat → Int32) : (zwS c q x).set 5 ((q 5), .inl (c.1, 8, .inl f)) = zwS c q ((((x.1.1.1.1, x.1.1.1.2.1, f), x.1.1.2.1, x.1.1.2.2), x.1.2.1, x.1.2.2), x.2.1, x.2.2.1, x.2.2.2) := rfl
theorem su_St_6_3 (c : zY) (q : Nat → Nat) (x : zsS) (v : Int32) : (zwS c q x).set 6 ((q 6), .inr (3, ([.ref (q 7), .ref (q 2), .ref (q 0), .int (x.1.1.2.2 3), .int (x.1.1.2.2 4)]).set 3 (.int v))) = zwS c q (((x.1.1.1, x.1.1.2.1, (upd x.1.1.2.2 3 v)), x.1.2.1, x.1.2.2), x.2.1, x.2.2.1, x.2.2.2) := rfl
theorem su_St_6_4 (c : zY) (q : Nat → Nat) (x : zsS) (v : Int32) : (zwS c q x).set 6 ((q 6), .inr (3, ([.ref (q 7), .ref (q 2), .ref (q 0), .int (x.1.1.2.2 3), .int (x.1.1.2.2 4)]).set 4 (.int v))) = zwS c q (((x.1.1.1, x.1.1.2.1, (upd x.1.1.2.2 4 v)), x.1.2.1, x.1.2.2), x.2.1, x.2.2.1, x.2.2.2) := rfl
theorem su_St_7_2 (c : zY) (q : Nat → Nat) (x : zsS) (v : Int32) : (zwS c q x).set 7 ((q 7), .inr (6, ([.int 13, .ref (q 8), .int x.1.1.2.1.2]).set 2 (.int v))) = zwS c q (((x.1.1.1, (x.1.1.2.1.1, v), x.1.1.2.2), x.1.2.1, x.1.2.2), x.2.1, x.2.2.1, x.2.2.2) := rfl
theorem sa_St_8 (c : zY) (q : Nat → Nat) (x : zsS) (f : Nat → Int32) : (zwS c q x).set 8 ((q 8), .inl (c.1, 104, .inl f)) = zwS c q (((x.1.1.1, (f, x.1.1.2.1.2), x.1.1.2.2), x.1.2.1, x.1.2.2), x.2.1, x.2.2.1, x.2.2.2) := rfl
theorem su_St_9_4 (c : zY) (q : Nat → Nat) (x : zsS) (v : Int32) : (zwS c q x).set 9 ((q 9), .inr (2, ([.ref (q 10), .ref (q 6), .ref (q 2), .ref (q 0), .int (x.1.2.2 4), .int (x.1.2.2 5), .int (x.1.2.2 6), .int (x.1.2.2 7), .int (x.1.2.2 8), .int (x.1.2.2 9), .int (x.1.2.2 10)]).set 4 (.int v))) = zwS c q ((x.1.1, x.1.2.1, (upd x.1.2.2 4 v)), x.2.1, x.2.2.1, x.2.2.2) := rfl
theorem su_St_9_5 (c : zY) (q : Nat → Nat) (x : zsS) (v : Int32) : (zwS c q x).set 9 ((q 9), .inr (2, ([.ref (q 10), .ref (q 6), .ref (q 2), .ref (q 0), .int (x.1.2.2 4), .int (x.1.2.2 5), .int (x.1.2.2 6), .int (x.1.2.2 7), .int (x.1.2.2 8), .int (x.1.2.2 9), .int (x.1.2.2 10)]).set 5 (.int v))) = zwS c q ((x.1.1, x.1.2.1, (upd x.1.2.2 5 v)), x.2.1, x.2.2.1, x.2.2.2) := rfl
theorem su_St_9_6 (c : zY) (q : Nat → Nat) (x : zsS) (v : Int32) : (zwS c q x).set 9 ((q 9), .inr (2, ([.ref (q 10), .ref (q 6), .ref (q 2), .ref (q 0), .int (x.1.2.2 4), .int (x.1.2.2 5), .int (x.1.2.2 6), .int (x.1.2.2 7), .int (x.1.2.2 8), .int (x.1.2.2 9), .int (x.1.2.2 10)]).set 6 (.int v))) = zwS c q ((x.1.1, x.1.2.1, (upd x.1.2.2 6 v)), x.2.1, x.2.2.1, x.2.2.2) := rfl
theorem su_St_9_7 (c : zY) (q : Nat → Nat) (x : zsS) (v : Int32) : (zwS c q x).set 9 ((q 9), .inr (2, ([.ref (q 10), .ref (q 6), .ref (q 2), .ref (q 0), .int (x.1.2.2 4), .int (x.1.2.2 5), .int (x.1.2.2 6), .int (x.1.2.2 7), .int (x.1.2.2 8), .int (x.1.2.2 9), .int (x.1.2.2 10)]).set 7 (.int v))) = zwS c q ((x.1.1, x.1.2.1, (upd x.1.2.2 7 v)), x.2.1, x.2.2.1, x.2.2.2) := rfl
theorem su_St_9_8 (c : zY) (q : Nat → Nat) (x : zsS) (v : Int32) : (zwS c q x).set 9 ((q 9), .inr (2, ([.ref (q 10), .ref (q 6), .ref (q 2), .ref (q 0), .int (x.1.2.2 4), .int (x.1.2.2 5), .int (x.1.2.2 6), .int (x.1.2.2 7), .int (x.1.2.2 8), .int (x.1.2.2 9), .int (x.1.2.2 10)]).set 8 (.int v))) = zwS c q ((x.1.1, x.1.2.1, (upd x.1.2.2 8 v)), x.2.1, x.2.2.1, x.2.2.2) := rfl
theorem su_St_9_9 (c : zY) (q : Nat → Nat) (x : zsS) (v : Int32) : (zwS c q x).set 9 ((q 9), .inr (2, ([.ref (q 10), .ref (q 6), .ref (q 2), .ref (q 0), .int (x.1.2.2 4), .int (x.1.2.2 5), .int (x.1.2.2 6), .int (x.1.2.2 7), .int (x.1.2.2 8), .int (x.1.2.2 9), .int (x.1.2.2 10)]).set 9 (.int v))) = zwS c q ((x.1.1, x.1.2.1, (upd x.1.2.2 9 v)), x.2.1, x.2.2.1, x.2.2.2) := rfl
theorem su_St_9_10 (c : zY) (q : Nat → Nat) (x : zsS) (v : Int32) : (zwS c q x).set 9 ((q 9), .inr (2, ([.ref (q 10), .ref (q 6), .ref (q 2), .ref (q 0), .int (x.1.2.2 4), .int (x.1.2.2 5), .int (x.1.2.2 6), .int (x.1.2.2 7), .int (x.1.2.2 8), .int (x.1.2.2 9), .int (x.1.2.2 10)]).set 10 (.int v))) = zwS c q ((x.1.1, x.1.2.1, (upd x.1.2.2 10 v)), x.2.1, x.2.2.1, x.2.2.2) := rfl
theorem su_St_10_2 (c : zY) (q : Nat → Nat) (x : zsS) (v : Int32) : (zwS c q x).set 10 ((q 10), .inr (6, ([.int 1, .ref (q 11), .int x.1.2.1.2]).set 2 (.int v))) = zwS c q ((x.1.1, (x.1.2.1.1, v), x.1.2.2), x.2.1, x.2.2.1, x.2.2.2) := rfl
theorem sa_St_11 (c : zY) (q : Nat → Nat) (x : zsS) (f : Nat → Int32) : (zwS c q x).set 11 ((q 11), .inl (c.1, 8, .inl f)) = zwS c q ((x.1.1, (f, x.1.2.1.2), x.1.2.2), x.2.1, x.2.2.1, x.2.2.2) := rfl
theorem su_St_12_6 (c : zY) (q : Nat → Nat) (x : zsS) (v : Int32) : (zwS c q x).set 12 ((q 12), .inr (5, ([.ref (q 0), .ref (q 2), .ref (q 6), .ref (q 9), .ref (q 13), .ref (q 15), .int x.2.2.2]).set 6 (.int v))) = zwS c q (x.1, x.2.1, x.2.2.1, v) := rfl
theorem su_St_13_2 (c : zY) (q : Nat → Nat) (x : zsS) (v : Int32) : (zwS c q x).set 13 ((q 13), .inr (6, ([.int 1, .ref (q 14), .int x.2.1.2]).set 2 (.int v))) = zwS c q (x.1, (x.2.1.1, v), x.2.2.1, x.2.2.2) := rfl
theorem sa_St_14 (c : zY) (q : Nat → Nat) (x : zsS) (f : Nat → Int32) : (zwS c q x).set 14 ((q 14), .inl (c.1, 100, .inl f)) = zwS c q (x.1, (f, x.2.1.2), x.2.2.1, x.2.2.2) := rfl
theorem su_St_15_2 (c : zY) (q : Nat → Nat) (x : zsS) (v : Int32) : (zwS c q x).set 15 ((q 15), .inr (6, ([.int 25, .ref (q 16), .int x.2.2.1.2]).set 2 (.int v))) = zwS c q (x.1, x.2.1, (x.2.2.1.1, v), x.2.2.2) := rfl
theorem sa_St_16 (c : zY) (q : Nat → Nat) (x : zsS) (f : Nat → Int32) : (zwS c q x).set 16 ((q 16), .inl (c.1, 100, .inl f)) = zwS c q (x.1, x.2.1, (f, x.2.2.1.2), x.2.2.2) := rfl
set_option maxRecDepth 20000 in
theorem zq_Tp (c : zY) (a0 a1 a2 : Nat) (x x2 : zsP) : (zwP c a0 a1 a2 x2).map Prod.fst = (zwP c a0 a1 a2 x).map Prod.fst := rfl
theorem su_Tp_0_2 (c : zY) (a0 a1 a2 : Nat) (x : zsP) (v : Int32) : (zwP c a0 a1 a2 x).set 0 (a0, .inr (7, ([.ref a1, .ref a2, .int x.2.2.1, .int x.2.2.2]).set 2 (.int v))) = zwP c a0 a1 a2 (x.1, x.2.1, v, x.2.2.2) := rfl
theorem su_Tp_0_3 (c : zY) (a0 a1 a2 : Nat) (x : zsP) (v : Int32) : (zwP c a0 a1 a2 x).set 0 (a0, .inr (7, ([.ref a1, .ref a2, .int x.2.2.1, .int x.2.2.2]).set 3 (.int v))) = zwP c a0 a1 a2 (x.1, x.2.1, x.2.2.1, v) := rfl
theorem sa_Tp_1 (c : zY) (a0 a1 a2 : Nat) (x : zsP) (f : Nat → Int32) : (zwP c a0 a1 a2 x).set 1 (a1, .inl (c.1, 40, .inl f)) = zwP c a0 a1 a2 (f, x.2.1, x.2.2.1, x.2.2.2) := rfl
theorem sa_Tp_2 (c : zY) (a0 a1 a2 : Nat) (x : zsP) (f : Nat → Int32) : (zwP c a0 a1 a2 x).set 2 (a2, .inl (c.1, 25, .inl f)) = zwP c a0 a1 a2 (x.1, f, x.2.2.1, x.2.2.2) := rfl
set_option maxRecDepth 20000 in
theorem zq_Wa (c : zY) (a0 a1 a2 : Nat) (x x2 : zsW) : (zwW c a0 a1 a2 x2).map Prod.fst = (zwW c a0 a1 a2 x).map Prod.fst := rfl
theorem su_Wa_0_2 (c : zY) (a0 a1 a2 : Nat) (x : zsW) (v : Int32) : (zwW c a0 a1 a2 x).set 0 (a0, .inr (8, ([.ref a1, .ref a2, .int x.2.2]).set 2 (.int v))) = zwW c a0 a1 a2 (x.1, x.2.1, v) := rfl
theorem sa_Wa_1 (c : zY) (a0 a1 a2 : Nat) (x : zsW) (f : Nat → Int32) : (zwW c a0 a1 a2 x).set 1 (a1, .inl (c.1, 100, .inl f)) = zwW c a0 a1 a2 (f, x.2.1, x.2.2) := rfl
theorem sa_Wa_2 (c : zY) (a0 a1 a2 : Nat) (x : zsW) (f : Nat → Int32) : (zwW c a0 a1 a2 x).set 2 (a2, .inl (c.1, 100, .inl f)) = zwW c a0 a1 a2 (x.1, f, x.2.2) := rfl
set_option maxRecDepth 20000 in
theorem zq_EL (c : zY) (q : Nat → Nat) (x x2 : zsX) : (zwX c q x2).map Prod.fst = (zwX c q x).map Prod.fst := rfl
theorem su_EL_0_2 (c : zY) (q : Nat → Nat) (x : zsX) (v : Int32) : (zwX c q x).set 0 ((q 18), .inr (7, ([.ref (q 19), .ref (q 20), .int x.1.2.2.1, .int x.1.2.2.2]).set 2 (.int v))) = zwX c q ((x.1.1, x.1.2.1, v, x.1.2.2.2), x.2.1, x.2.2.1, x.2.2.2.1, x.2.2.2.2.1, x.2.2.2.2.2.1, x.2.2.2.2.2.2) := rfl
theorem su_EL_0_3 (c : zY) (q : Nat → Nat) (x : zsX) (v : Int32) : (zwX c q x).set 0 ((q 18), .inr (7, ([.ref (q 19), .ref (q 20), .int x.1.2.2.1, .int x.1.2.2.2]).set 3 (.int v))) = zwX c q ((x.1.1, x.1.2.1, x.1.2.2.1, v), x.2.1, x.2.2.1, x.2.2.2.1, x.2.2.2.2.1, x.2.2.2.2.2.1, x.2.2.2.2.2.2) := rfl
theorem sa_EL_1 (c : zY) (q : Nat → Nat) (x : zsX) (f : Nat → Int32) : (zwX c q x).set 1 ((q 19), .inl (c.1, 40, .inl f)) = zwX c q ((f, x.1.2.1, x.1.2.2.1, x.1.2.2.2), x.2.1, x.2.2.1, x.2.2.2.1, x.2.2.2.2.1, x.2.2.2.2.2.1, x.2.2.2.2.2.2) := rfl
theorem sa_EL_2 (c : zY) (q : Nat → Nat) (x : zsX) (f : Nat → Int32) : (zwX c q x).set 2 ((q 20), .inl (c.1, 25, .inl f)) = zwX c q ((x.1.1, f, x.1.2.2.1, x.1.2.2.2), x.2.1, x.2.2.1, x.2.2.2.1, x.2.2.2.2.1, x.2.2.2.2.2.1, x.2.2.2.2.2.2) := rfl
theorem su_EL_3_5 (c : zY) (q : Nat → Nat) (x : zsX) (v : Int32) : (zwX c q x).set 3 ((q 17), .inr (9, ([.ref (q 12), .ref (q 38), .ref (q 24), .ref (q 18), .ref (q 21), .int x.2.1, .int x.2.2.1]).set 5 (.int v))) = zwX c q (x.1, v, x.2.2.1, x.2.2.2.1, x.2.2.2.2.1, x.2.2.2.2.2.1, x.2.2.2.2.2.2) := rfl
theorem su_EL_3_6 (c : zY) (q : Nat → Nat) (x : zsX) (v : Int32) : (zwX c q x).set 3 ((q 17), .inr (9, ([.ref (q 12), .ref (q 38), .ref (q 24), .ref (q 18), .ref (q 21), .int x.2.1, .int x.2.2.1]).set 6 (.int v))) = zwX c q (x.1, x.2.1, v, x.2.2.2.1, x.2.2.2.2.1, x.2.2.2.2.2.1, x.2.2.2.2.2.2) := rfl
theorem su_EL_4_2 (c : zY) (q : Nat → Nat) (x : zsX) (v : Int32) : (zwX c q x).set 4 ((q 21), .inr (8, ([.ref (q 22), .ref (q 23), .int x.2.2.2.1.2.2]).set 2 (.int v))) = zwX c q (x.1, x.2.1, x.2.2.1, (x.2.2.2.1.1, x.2.2.2.1.2.1, v), x.2.2.2.2.1, x.2.2.2.2.2.1, x.2.2.2.2.2.2) := rfl
theorem sa_EL_5 (c : zY) (q : Nat → Nat) (x : zsX) (f : Nat → Int32) : (zwX c q x).set 5 ((q 22), .inl (c.1, 100, .inl f)) = zwX c q (x.1, x.2.1, x.2.2.1, (f, x.2.2.2.1.2.1, x.2.2.2.1.2.2), x.2.2.2.2.1, x.2.2.2.2.2.1, x.2.2.2.2.2.2) := rfl
theorem sa_EL_6 (c : zY) (q : Nat → Nat) (x : zsX) (f : Nat → Int32) : (zwX c q x).set 6 ((q 23), .inl (c.1, 100, .inl f)) = zwX c q (x.1, x.2.1, x.2.2.1, (x.2.2.2.1.1, f, x.2.2.2.1.2.2), x.2.2.2.2.1, x.2.2.2.2.2.1, x.2.2.2.2.2.2) := rfl
theorem su_EL_7_1 (c : zY) (q : Nat → Nat) (x : zsX) (v : Int32) : (zwX c q x).set 7 ((q 0), .inr (4, ([.ref (q 1), .int x.2.2.2.2.1.1.1.1.1.2]).set 1 (.int v))) = zwX c q (x.1, x.2.1, x.2.2.1, x.2.2.2.1, (((((x.2.2.2.2.1.1.1.1.1.1, v), x.2.2.2.2.1.1.1.1.2.1, x.2.2.2.2.1.1.1.1.2.2), x.2.2.2.2.1.1.1.2.1, x.2.2.2.2.1.1.1.2.2), x.2.2.2.2.1.1.2.1, x.2.2.2.2.1.1.2.2), x.2.2.2.2.1.2.1, x.2.2.2.2.1.2.2.1, x.2.2.2.2.1.2.2.2), x.2.2.2.2.2.1, x.2.2.2.2.2.2) := rfl
theorem sa_EL_8 (c : zY) (q : Nat → Nat) (x : zsX) (f : Nat → Int32) : (zwX c q x).set 8 ((q 1), .inl (c.1, 900, .inl f)) = zwX c q (x.1, x.2.1, x.2.2.1, x.2.2.2.1, (((((f, x.2.2.2.2.1.1.1.1.1.2), x.2.2.2.2.1.1.1.1.2.1, x.2.2.2.2.1.1.1.1.2.2), x.2.2.2.2.1.1.1.2.1, x.2.2.2.2.1.1.1.2.2), x.2.2.2.2.1.1.2.1, x.2.2.2.2.1.1.2.2), x.2.2.2.2.1.2.1, x.2.2.2.2.1.2.2.1, x.2.2.2.2.1.2.2.2), x.2.2.2.2.2.1, x.2.2.2.2.2.2) := rfl
theorem su_EL_10_2 (c : zY) (q : Nat → Nat) (x : zsX) (v : Int32) : (zwX c q x).set 10 ((q 3), .inr (6, ([.int 6, .ref (q 4), .int x.2.2.2.2.1.1.1.1.2.1.2]).set 2 (.int v))) = zwX c q (x.1, x.2.1, x.2.2.1, x.2.2.2.1, ((((x.2.2.2.2.1.1.1.1.1, (x.2.2.2.2.1.1.1.1.2.1.1, v), x.2.2.2.2.1.1.1.1.2.2), x.2.2.2.2.1.1.1.2.1, x.2.2.2.2.1.1.1.2.2), x.2.2.2.2.1.1.2.1, x.2.2.2.2.1.1.2.2), x.2.2.2.2.1.2.1, x.2.2.2.2.1.2.2.1, x.2.2.2.2.1.2.2.2), x.2.2.2.2.2.1, x.2.2.2.2.2.2) := rfl
theorem sa_EL_11 (c : zY) (q : Nat → Nat) (x : zsX) (f : Nat → Int32) : (zwX c q x).set 11 ((q 4), .inl (c.1, 2304, .inl f)) = zwX c q (x.1, x.2.1, x.2.2.1, x.2.2.2.1, ((((x.2.2.2.2.1.1.1.1.1, (f, x.2.2.2.2.1.1.1.1.2.1.2), x.2.2.2.2.1.1.1.1.2.2), x.2.2.2.2.1.1.1.2.1, x.2.2.2.2.1.1.1.2.2), x.2.2.2.2.1.1.2.1, x.2.2.2.2.1.1.2.2), x.2.2.2.2.1.2.1, x.2.2.2.2.1.2.2.1, x.2.2.2.2.1.2.2.2), x.2.2.2.2.2.1, x.2.2.2.2.2.2) := rfl
theorem sa_EL_12 (c : zY) (q : Nat → Nat) (x : zsX) (f : Nat → Int32) : (zwX c q x).set 12 ((q 5), .inl (c.1, 8, .inl f)) = zwX c q (x.1, x.2.1, x.2.2.1, x.2.2.2.1, ((((x.2.2.2.2.1.1.1.1.1, x.2.2.2.2.1.1.1.1.2.1, f), x.2.2.2.2.1.1.1.2.1, x.2.2.2.2.1.1.1.2.2), x.2.2.2.2.1.1.2.1, x.2.2.2.2.1.1.2.2), x.2.2.2.2.1.2.1, x.2.2.2.2.1.2.2.1, x.2.2.2.2.1.2.2.2), x.2.2.2.2.2.1, x.2.2.2.2.2.2) := rfl
theorem su_EL_13_3 (c : zY) (q : Nat → Nat) (x : zsX) (v : Int32) : (zwX c q x).set 13 ((q 6), .inr (3, ([.ref (q 7), .ref (q 2), .ref (q 0), .int (x.2.2.2.2.1.1.1.2.2 3), .int (x.2.2.2.2.1.1.1.2.2 4)]).set 3 (.int v))) = zwX c q (x.1, x.2.1, x.2.2.1, x.2.2.2.1, (((x.2.2.2.2.1.1.1.1, x.2.2.2.2.1.1.1.2.1, (upd x.2.2.2.2.1.1.1.2.2 3 v)), x.2.2.2.2.1.1.2.1, x.2.2.2.2.1.1.2.2), x.2.2.2.2.1.2.1, x.2.2.2.2.1.2.2.1, x.2.2.2.2.1.2.2.2), x.2.2.2.2.2.1, x.2.2.2.2.2.2) := rfl
theorem su_EL_13_4 (c : zY) (q : Nat → Nat) (x : zsX) (v : Int32) : (zwX c q x).set 13 ((q 6), .inr (3, ([.ref (q 7), .ref (q 2), .ref (q 0), .int (x.2.2.2.2.1.1.1.2.2 3), .int (x.2.2.2.2.1.1.1.2.2 4)]).set 4 (.int v))) = zwX c q (x.1, x.2.1, x.2.2.1, x.2.2.2.1, (((x.2.2.2.2.1.1.1.1, x.2.2.2.2.1.1.1.2.1, (upd x.2.2.2.2.1.1.1.2.2 4 v)), x.2.2.2.2.1.1.2.1, x.2.2.2.2.1.1.2.2), x.2.2.2.2.1.2.1, x.2.2.2.2.1.2.2.1, x.2.2.2.2.1.2.2.2), x.2.2.2.2.2.1, x.2.2.2.2.2.2) := rfl
theorem su_EL_14_2 (c : zY) (q : Nat → Nat) (x : zsX) (v : Int32) : (zwX c q x).set 14 ((q 7), .inr (6, ([.int 13, .ref (q 8), .int x.2.2.2.2.1.1.1.2.1.2]).set 2 (.int v))) = zwX c q (x.1, x.2.1, x.2.2.1, x.2.2.2.1, (((x.2.2.2.2.1.1.1.1, (x.2.2.2.2.1.1.1.2.1.1, v), x.2.2.2.2.1.1.1.2.2), x.2.2.2.2.1.1.2.1, x.2.2.2.2.1.1.2.2), x.2.2.2.2.1.2.1, x.2.2.2.2.1.2.2.1, x.2.2.2.2.1.2.2.2), x.2.2.2.2.2.1, x.2.2.2.2.2.2) := rfl
theorem sa_EL_15 (c : zY) (q : Nat → Nat) (x : zsX) (f : Nat → Int32) : (zwX c q x).set 15 ((q 8), .inl (c.1, 104, .inl f)) = zwX c q (x.1, x.2.1, x.2.2.1, x.2.2.2.1, (((x.2.2.2.2.1.1.1.1, (f, x.2.2.2.2.1.1.1.2.1.2), x.2.2.2.2.1.1.1.2.2), x.2.2.2.2.1.1.2.1, x.2.2.2.2.1.1.2.2), x.2.2.2.2.1.2.1, x.2.2.2.2.1.2.2.1, x.2.2.2.2.1.2.2.2), x.2.2.2.2.2.1, x.2.2.2.2.2.2) := rfl
theorem su_EL_16_4 (c : zY) (q : Nat → Nat) (x : zsX) (v : Int32) : (zwX c q x).set 16 ((q 9), .inr (2, ([.ref (q 10), .ref (q 6), .ref (q 2), .ref (q 0), .int (x.2.2.2.2.1.1.2.2 4), .int (x.2.2.2.2.1.1.2.2 5), .int (x.2.2.2.2.1.1.2.2 6), .int (x.2.2.2.2.1.1.2.2 7), .int (x.2.2.2.2.1.1.2.2 8), .int (x.2.2.2.2.1.1.2.2 9), .int (x.2.2.2.2.1.1.2.2 10)]).set 4 (.int v))) = zwX c q (x.1, x.2.1, x.2.2.1, x.2.2.2.1, ((x.2.2.2.2.1.1.1, x.2.2.2.2.1.1.2.1, (upd x.2.2.2.2.1.1.2.2 4 v)), x.2.2.2.2.1.2.1, x.2.2.2.2.1.2.2.1, x.2.2.2.2.1.2.2.2), x.2.2.2.2.2.1, x.2.2.2.2.2.2) := rfl
theorem su_EL_16_5 (c : zY) (q : Nat → Nat) (x : zsX) (v : Int32) : (zwX c q x).set 16 ((q 9), .inr (2, ([.ref (q 10), .ref (q 6), .ref (q 2), .ref (q 0), .int (x.2.2.2.2.1.1.2.2 4), .int (x.2.2.2.2.1.1.2.2 5), .int (x.2.2.2.2.1.1.2.2 6), .int (x.2.2.2.2.1.1.2.2 7), .int (x.2.2.2.2.1.1.2.2 8), .int (x.2.2.2.2.1.1.2.2 9), .int (x.2.2.2.2.1.1.2.2 10)]).set 5 (.int v))) = zwX c q (x.1, x.2.1, x.2.2.1, x.2.2.2.1, ((x.2.2.2.2.1.1.1, x.2.2.2.2.1.1.2.1, (upd x.2.2.2.2.1.1.2.2 5 v)), x.2.2.2.2.1.2.1, x.2.2.2.2.1.2.2.1, x.2.2.2.2.1.2.2.2), x.2.2.2.2.2.1, x.2.2.2.2.2.2) := rfl
theorem su_EL_16_6 (c : zY) (q : Nat → Nat) (x : zsX) (v : Int32) : (zwX c q x).set 16 ((q 9), .inr (2, ([.ref (q 10), .ref (q 6), .ref (q 2), .ref (q 0), .int (x.2.2.2.2.1.1.2.2 4), .int (x.2.2.2.2.1.1.2.2 5), .int (x.2.2.2.2.1.1.2.2 6), .int (x.2.2.2.2.1.1.2.2 7), .int (x.2.2.2.2.1.1.2.2 8), .int (x.2.2.2.2.1.1.2.2 9), .int (x.2.2.2.2.1.1.2.2 10)]).set 6 (.int v))) = zwX c q (x.1, x.2.1, x.2.2.1, x.2.2.2.1, ((x.2.2.2.2.1.1.1, x.2.2.2.2.1.1.2.1, (upd x.2.2.2.2.1.1.2.2 6 v)), x.2.2.2.2.1.2.1, x.2.2.2.2.1.2.2.1, x.2.2.2.2.1.2.2.2), x.2.2.2.2.2.1, x.2.2.2.2.2.2) := rfl
theorem su_EL_16_7 (c : zY) (q : Nat → Nat) (x : zsX) (v : Int32) : (zwX c q x).set 16 ((q 9), .inr (2, ([.ref (q 10), .ref (q 6), .ref (q 2), .ref (q 0), .int (x.2.2.2.2.1.1.2.2 4), .int (x.2.2.2.2.1.1.2.2 5), .int (x.2.2.2.2.1.1.2.2 6), .int (x.2.2.2.2.1.1.2.2 7), .int (x.2.2.2.2.1.1.2.2 8), .int (x.2.2.2.2.1.1.2.2 9), .int (x.2.2.2.2.1.1.2.2 10)]).set 7 (.int v))) = zwX c q (x.1, x.2.1, x.2.2.1, x.2.2.2.1, ((x.2.2.2.2.1.1.1, x.2.2.2.2.1.1.2.1, (upd x.2.2.2.2.1.1.2.2 7 v)), x.2.2.2.2.1.2.1, x.2.2.2.2.1.2.2.1, x.2.2.2.2.1.2.2.2), x.2.2.2.2.2.1, x.2.2.2.2.2.2) := rfl
theorem su_EL_16_8 (c : zY) (q : Nat → Nat) (x : zsX) (v : Int32) : (zwX c q x).set 16 ((q 9), .inr (2, ([.ref (q 10), .ref (q 6), .ref (q 2), .ref (q 0), .int (x.2.2.2.2.1.1.2.2 4), .int (x.2.2.2.2.1.1.2.2 5), .int (x.2.2.2.2.1.1.2.2 6), .int (x.2.2.2.2.1.1.2.2 7), .int (x.2.2.2.2.1.1.2.2 8), .int (x.2.2.2.2.1.1.2.2 9), .int (x.2.2.2.2.1.1.2.2 10)]).set 8 (.int v))) = zwX c q (x.1, x.2.1, x.2.2.1, x.2.2.2.1, ((x.2.2.2.2.1.1.1, x.2.2.2.2.1.1.2.1, (upd x.2.2.2.2.1.1.2.2 8 v)), x.2.2.2.2.1.2.1, x.2.2.2.2.1.2.2.1, x.2.2.2.2.1.2.2.2), x.2.2.2.2.2.1, x.2.2.2.2.2.2) := rfl
theorem su_EL_16_9 (c : zY) (q : Nat → Nat) (x : zsX) (v : Int32) : (zwX c q x).set 16 ((q 9), .inr (2, ([.ref (q 10), .ref (q 6), .ref (q 2), .ref (q 0), .int (x.2.2.2.2.1.1.2.2 4), .int (x.2.2.2.2.1.1.2.2 5), .int (x.2.2.2.2.1.1.2.2 6), .int (x.2.2.2.2.1.1.2.2 7), .int (x.2.2.2.2.1.1.2.2 8), .int (x.2.2.2.2.1.1.2.2 9), .int (x.2.2.2.2.1.1.2.2 10)]).set 9 (.int v))) = zwX c q (x.1, x.2.1, x.2.2.1, x.2.2.2.1, ((x.2.2.2.2.1.1.1, x.2.2.2.2.1.1.2.1, (upd x.2.2.2.2.1.1.2.2 9 v)), x.2.2.2.2.1.2.1, x.2.2.2.2.1.2.2.1, x.2.2.2.2.1.2.2.2), x.2.2.2.2.2.1, x.2.2.2.2.2.2) := rfl
theorem su_EL_16_10 (c : zY) (q : Nat → Nat) (x : zsX) (v : Int32) : (zwX c q x).set 16 ((q 9), .inr (2, ([.ref (q 10), .ref (q 6), .ref (q 2), .ref (q 0), .int (x.2.2.2.2.1.1.2.2 4), .int (x.2.2.2.2.1.1.2.2 5), .int (x.2.2.2.2.1.1.2.2 6), .int (x.2.2.2.2.1.1.2.2 7), .int (x.2.2.2.2.1.1.2.2 8), .int (x.2.2.2.2.1.1.2.2 9), .int (x.2.2.2.2.1.1.2.2 10)]).set 10 (.int v))) = zwX c q (x.1, x.2.1, x.2.2.1, x.2.2.2.1, ((x.2.2.2.2.1.1.1, x.2.2.2.2.1.1.2.1, (upd x.2.2.2.2.1.1.2.2 10 v)), x.2.2.2.2.1.2.1, x.2.2.2.2.1.2.2.1, x.2.2.2.2.1.2.2.2), x.2.2.2.2.2.1, x.2.2.2.2.2.2) := rfl
theorem su_EL_17_2 (c : zY) (q : Nat → Nat) (x : zsX) (v : Int32) : (zwX c q x).set 17 ((q 10), .inr (6, ([.int 1, .ref (q 11), .int x.2.2.2.2.1.1.2.1.2]).set 2 (.int v))) = zwX c q (x.1, x.2.1, x.2.2.1, x.2.2.2.1, ((x.2.2.2.2.1.1.1, (x.2.2.2.2.1.1.2.1.1, v), x.2.2.2.2.1.1.2.2), x.2.2.2.2.1.2.1, x.2.2.2.2.1.2.2.1, x.2.2.2.2.1.2.2.2), x.2.2.2.2.2.1, x.2.2.2.2.2.2) := rfl
theorem sa_EL_18 (c : zY) (q : Nat → Nat) (x : zsX) (f : Nat → Int32) : (zwX c q x).set 18 ((q 11), .inl (c.1, 8, .inl f)) = zwX c q (x.1, x.2.1, x.2.2.1, x.2.2.2.1, ((x.2.2.2.2.1.1.1, (f, x.2.2.2.2.1.1.2.1.2), x.2.2.2.2.1.1.2.2), x.2.2.2.2.1.2.1, x.2.2.2.2.1.2.2.1, x.2.2.2.2.1.2.2.2), x.2.2.2.2.2.1, x.2.2.2.2.2.2) := rfl
theorem su_EL_19_6 (c : zY) (q : Nat → Nat) (x : zsX) (v : Int32) : (zwX c q x).set 19 ((q 12), .inr (5, ([.ref (q 0), .ref (q 2), .ref (q 6), .ref (q 9), .ref (q 13), .ref (q 15), .int x.2.2.2.2.1.2.2.2]).set 6 (.int v))) = zwX c q (x.1, x.2.1, x.2.2.1, x.2.2.2.1, (x.2.2.2.2.1.1, x.2.2.2.2.1.2.1, x.2.2.2.2.1.2.2.1, v), x.2.2.2.2.2.1, x.2.2.2.2.2.2) := rfl
theorem su_EL_20_2 (c : zY) (q : Nat → Nat) (x : zsX) (v : Int32) : (zwX c q x).set 20 ((q 13), .inr (6, ([.int 1, .ref (q 14), .int x.2.2.2.2.1.2.1.2]).set 2 (.int v))) = zwX c q (x.1, x.2.1, x.2.2.1, x.2.2.2.1, (x.2.2.2.2.1.1, (x.2.2.2.2.1.2.1.1, v), x.2.2.2.2.1.2.2.1, x.2.2.2.2.1.2.2.2), x.2.2.2.2.2.1, x.2.2.2.2.2.2) := rfl
theorem sa_EL_21 (c : zY) (q : Nat → Nat) (x : zsX) (f : Nat → Int32) : (zwX c q x).set 21 ((q 14), .inl (c.1, 100, .inl f)) = zwX c q (x.1, x.2.1, x.2.2.1, x.2.2.2.1, (x.2.2.2.2.1.1, (f, x.2.2.2.2.1.2.1.2), x.2.2.2.2.1.2.2.1, x.2.2.2.2.1.2.2.2), x.2.2.2.2.2.1, x.2.2.2.2.2.2) := rfl
theorem su_EL_22_2 (c : zY) (q : Nat → Nat) (x : zsX) (v : Int32) : (zwX c q x).set 22 ((q 15), .inr (6, ([.int 25, .ref (q 16), .int x.2.2.2.2.1.2.2.1.2]).set 2 (.int v))) = zwX c q (x.1, x.2.1, x.2.2.1, x.2.2.2.1, (x.2.2.2.2.1.1, x.2.2.2.2.1.2.1, (x.2.2.2.2.1.2.2.1.1, v), x.2.2.2.2.1.2.2.2), x.2.2.2.2.2.1, x.2.2.2.2.2.2) := rfl
theorem sa_EL_23 (c : zY) (q : Nat → Nat) (x : zsX) (f : Nat → Int32) : (zwX c q x).set 23 ((q 16), .inl (c.1, 100, .inl f)) = zwX c q (x.1, x.2.1, x.2.2.1, x.2.2.2.1, (x.2.2.2.2.1.1, x.2.2.2.2.1.2.1, (f, x.2.2.2.2.1.2.2.1.2), x.2.2.2.2.1.2.2.2), x.2.2.2.2.2.1, x.2.2.2.2.2.2) := rfl
theorem zq_Mo (c : zY) (q : Nat → Nat) (x x2 : zsM) : (zwM c q x2).map Prod.fst = (zwM c q x).map Prod.fst := rfl
def zu_Co_Jo_0 (c : zY) (q : Nat → Nat) (x : zsC) : va_W := []
def zv_Co_Jo_0 (c : zY) (q : Nat → Nat) (x : zsC) : va_W := [((q 2), .inr (1, [.ref (q 3), .ref (q 0), .ref (q 5)])), ((q 3), .inr (6, [.int 6, .ref (q 4), .int x.2.1.2])), ((q 4), .inl (c.1, 2304, .inl x.2.1.1)), ((q 5), .inl (c.1, 8, .inl x.2.2))]
set_option maxRecDepth 20000 in
theorem sp_Co_Jo_0 (c : zY) (q : Nat → Nat) (x : zsC) : zwC c q x = zu_Co_Jo_0 c q x ++ (zwJ c q x.1 ++ zv_Co_Jo_0 c q x) := rfl
set_option maxRecDepth 20000 in
theorem sq_Co_Jo_0 (c : zY) (q : Nat → Nat) (x : zsC) (y : zsT) : zu_Co_Jo_0 c q x ++ (zwJ c q y ++ zv_Co_Jo_0 c q x) = zwC c q (y, x.2.1, x.2.2) := rfl
def zu_Co_Ta_3 (c : zY) (q : Nat → Nat) (x : zsC) : va_W := [((q 0), .inr (4, [.ref (q 1), .int x.1.2])), ((q 1), .inl (c.1, 900, .inl x.1.1)), ((q 2), .inr (1, [.ref (q 3), .ref (q 0), .ref (q 5)]))]
def zv_Co_Ta_3 (c : zY) (q : Nat → Nat) (x : zsC) : va_W := [((q 5), .inl (c.1, 8, .inl x.2.2))]
set_option maxRecDepth 20000 in
theorem sp_Co_Ta_3 (c : zY) (q : Nat → Nat) (x : zsC) : zwC c q x = zu_Co_Ta_3 c q x ++ (zwT c (q 3) (q 4) 6 2304 x.2.1 ++ zv_Co_Ta_3 c q x) := rfl
set_option maxRecDepth 20000 in
theorem sq_Co_Ta_3 (c : zY) (q : Nat → Nat) (x : zsC) (y : zsT) : zu_Co_Ta_3 c q x ++ (zwT c (q 3) (q 4) 6 2304 y ++ zv_Co_Ta_3 c q x) = zwC c q (x.1, y, x.2.2) := rfl
def zu_Fi_Co_0 (c : zY) (q : Nat → Nat) (x : zsF) : va_W := []
def zv_Fi_Co_0 (c : zY) (q : Nat → Nat) (x : zsF) : va_W := [((q 6), .inr (3, [.ref (q 7), .ref (q 2), .ref (q 0), .int (x.2.2 3), .int (x.2.2 4)])), ((q 7), .inr (6, [.int 13, .ref (q 8), .int x.2.1.2])), ((q 8), .inl (c.1, 104, .inl x.2.1.1))]
set_option maxRecDepth 20000 in
theorem sp_Fi_Co_0 (c : zY) (q : Nat → Nat) (x : zsF) : zwF c q x = zu_Fi_Co_0 c q x ++ (zwC c q x.1 ++ zv_Fi_Co_0 c q x) := rfl
set_option maxRecDepth 20000 in
theorem sq_Fi_Co_0 (c : zY) (q : Nat → Nat) (x : zsF) (y : zsC) : zu_Fi_Co_0 c q x ++ (zwC c q y ++ zv_Fi_Co_0 c q x) = zwF c q (y, x.2.1, x.2.2) := rfl
def zu_Fi_Jo_0 (c : zY) (q : Nat → Nat) (x : zsF) : va_W := []
def zv_Fi_Jo_0 (c : zY) (q : Nat → Nat) (x : zsF) : va_W := [((q 2), .inr (1, [.ref (q 3), .ref (q 0), .ref (q 5)])), ((q 3), .inr (6, [.int 6, .ref (q 4), .int x.1.2.1.2])), ((q 4), .inl (c.1, 2304, .inl x.1.2.1.1)), ((q 5), .inl (c.1, 8, .inl x.1.2.2)), ((q 6), .inr (3, [.ref (q 7), .ref (q 2), .ref (q 0), .int (x.2.2 3), .int (x.2.2 4)])), ((q 7), .inr (6, [.int 13, .ref (q 8), .int x.2.1.2])), ((q 8), .inl (c.1, 104, .inl x.2.1.1))]
set_option maxRecDepth 20000 in
theorem sp_Fi_Jo_0 (c : zY) (q : Nat → Nat) (x : zsF) : zwF c q x = zu_Fi_Jo_0 c q x ++ (zwJ c q x.1.1 ++ zv_Fi_Jo_0 c q x) := rfl
set_option maxRecDepth 20000 in
theorem sq_Fi_Jo_0 (c : zY) (q : Nat → Nat) (x : zsF) (y : zsT) : zu_Fi_Jo_0 c q x ++ (zwJ c q y ++ zv_Fi_Jo_0 c q x) = zwF c q ((y, x.1.2.1, x.1.2.2), x.2.1, x.2.2) := rfl
def zu_Fi_Ta_7 (c : zY) (q : Nat → Nat) (x : zsF) : va_W := [((q 0), .inr (4, [.ref (q 1), .int x.1.1.2])), ((q 1), .inl (c.1, 900, .inl x.1.1.1)), ((q 2), .inr (1, [.ref (q 3), .ref (q 0), .ref (q 5)])), ((q 3), .inr (6, [.int 6, .ref (q 4), .int x.1.2.1.2])), ((q 4), .inl (c.1, 2304, .inl x.1.2.1.1)), ((q 5), .inl (c.1, 8, .inl x.1.2.2)), ((q 6), .inr (3, [.ref (q 7), .ref (q 2), .ref (q 0), .int (x.2.2 3), .int (x.2.2 4)]))]
def zv_Fi_Ta_7 (c : zY) (q : Nat → Nat) (x : zsF) : va_W := []
set_option maxRecDepth 20000 in
theorem sp_Fi_Ta_7 (c : zY) (q : Nat → Nat) (x : zsF) : zwF c q x = zu_Fi_Ta_7 c q x ++ (zwT c (q 7) (q 8) 13 104 x.2.1 ++ zv_Fi_Ta_7 c q x) := rfl
set_option maxRecDepth 20000 in
theorem sq_Fi_Ta_7 (c : zY) (q : Nat → Nat) (x : zsF) (y : zsT) : zu_Fi_Ta_7 c q x ++ (zwT c (q 7) (q 8) 13 104 y ++ zv_Fi_Ta_7 c q x) = zwF c q (x.1, y, x.2.2) := rfl
def zu_En_Fi_0 (c : zY) (q : Nat → Nat) (x : zsE) : va_W := []
def zv_En_Fi_0 (c : zY) (q : Nat → Nat) (x : zsE) : va_W := [((q 9), .inr (2, [.ref (q 10), .ref (q 6), .ref (q 2), .ref (q 0), .int (x.2.2 4), .int (x.2.2 5), .int (x.2.2 6), .int (x.2.2 7), .int (x.2.2 8), .int (x.2.2 9), .int (x.2.2 10)])), ((q 10), .inr (6, [.int 1, .ref (q 11), .int x.2.1.2])), ((q 11), .inl (c.1, 8, .inl x.2.1.1))]
set_option maxRecDepth 20000 in
theorem sp_En_Fi_0 (c : zY) (q : Nat → Nat) (x : zsE) : zwE c q x = zu_En_Fi_0 c q x ++ (zwF c q x.1 ++ zv_En_Fi_0 c q x) := rfl
set_option maxRecDepth 20000 in
theorem sq_En_Fi_0 (c : zY) (q : Nat → Nat) (x : zsE) (y : zsF) : zu_En_Fi_0 c q x ++ (zwF c q y ++ zv_En_Fi_0 c q x) = zwE c q (y, x.2.1, x.2.2) := rfl
def zu_En_Co_0 (c : zY) (q : Nat → Nat) (x : zsE) : va_W := []
def zv_En_Co_0 (c : zY) (q : Nat → Nat) (x : zsE) : va_W := [((q 6), .inr (3, [.ref (q 7), .ref (q 2), .ref (q 0), .int (x.1.2.2 3), .int (x.1.2.2 4)])), ((q 7), .inr (6, [.int 13, .ref (q 8), .int x.1.2.1.2])), ((q 8), .inl (c.1, 104, .inl x.1.2.1.1)), ((q 9), .inr (2, [.ref (q 10), .ref (q 6), .ref (q 2), .ref (q 0), .int (x.2.2 4), .int (x.2.2 5), .int (x.2.2 6), .int (x.2.2 7), .int (x.2.2 8), .int (x.2.2 9), .int (x.2.2 10)])), ((q 10), .inr (6, [.int 1, .ref (q 11), .int x.2.1.2])), ((q 11), .inl (c.1, 8, .inl x.2.1.1))]
set_option maxRecDepth 20000 in
theorem sp_En_Co_0 (c : zY) (q : Nat → Nat) (x : zsE) : zwE c q x = zu_En_Co_0 c q x ++ (zwC c q x.1.1 ++ zv_En_Co_0 c q x) := rfl
set_option maxRecDepth 20000 in
theorem sq_En_Co_0 (c : zY) (q : Nat → Nat) (x : zsE) (y : zsC) : zu_En_Co_0 c q x ++ (zwC c q y ++ zv_En_Co_0 c q x) = zwE c q ((y, x.1.2.1, x.1.2.2), x.2.1, x.2.2) := rfl
def zu_En_Jo_0 (c : zY) (q : Nat → Nat) (x : zsE) : va_W := []
def zv_En_Jo_0 (c : zY) (q : Nat → Nat) (x : zsE) : va_W := [((q 2), .inr (1, [.ref (q 3), .ref (q 0), .ref (q 5)])), ((q 3), .inr (6, [.int 6, .ref (q 4), .int x.1.1.2.1.2])), ((q 4), .inl (c.1, 2304, .inl x.1.1.2.1.1)), ((q 5), .inl (c.1, 8, .inl x.1.1.2.2)), ((q 6), .inr (3, [.ref (q 7), .ref (q 2), .ref (q 0), .int (x.1.2.2 3), .int (x.1.2.2 4)])), ((q 7), .inr (6, [.int 13, .ref (q 8), .int x.1.2.1.2])), ((q 8), .inl (c.1, 104, .inl x.1.2.1.1)), ((q 9), .inr (2, [.ref (q 10), .ref (q 6), .ref (q 2), .ref (q 0), .int (x.2.2 4), .int (x.2.2 5), .int (x.2.2 6), .int (x.2.2 7), .int (x.2.2 8), .int (x.2.2 9), .int (x.2.2 10)])), ((q 10), .inr (6, [.int 1, .ref (q 11), .int x.2.1.2])), ((q 11), .inl (c.1, 8, .inl x.2.1.1))]
set_option maxRecDepth 20000 in
theorem sp_En_Jo_0 (c : zY) (q : Nat → Nat) (x : zsE) : zwE c q x = zu_En_Jo_0 c q x ++ (zwJ c q x.1.1.1 ++ zv_En_Jo_0 c q x) := rfl
set_option maxRecDepth 20000 in
theorem sq_En_Jo_0 (c : zY) (q : Nat → Nat) (x : zsE) (y : zsT) : zu_En_Jo_0 c q x ++ (zwJ c q y ++ zv_En_Jo_0 c q x) = zwE c q (((y, x.1.1.2.1, x.1.1.2.2), x.1.2.1, x.1.2.2), x.2.1, x.2.2) := rfl
def zu_En_Ta_10 (c : zY) (q : Nat → Nat) (x : zsE) : va_W := [((q 0), .inr (4, [.ref (q 1), .int x.1.1.1.2])), ((q 1), .inl (c.1, 900, .inl x.1.1.1.1)), ((q 2), .inr (1, [.ref (q 3), .ref (q 0), .ref (q 5)])), ((q 3), .inr (6, [.int 6, .ref (q 4), .int x.1.1.2.1.2])), ((q 4), .inl (c.1, 2304, .inl x.1.1.2.1.1)), ((q 5), .inl (c.1, 8, .inl x.1.1.2.2)), ((q 6), .inr (3, [.ref (q 7), .ref (q 2), .ref (q 0), .int (x.1.2.2 3), .int (x.1.2.2 4)])), ((q 7), .inr (6, [.int 13, .ref (q 8), .int x.1.2.1.2])), ((q 8), .inl (c.1, 104, .inl x.1.2.1.1)), ((q 9), .inr (2, [.ref (q 10), .ref (q 6), .ref (q 2), .ref (q 0), .int (x.2.2 4), .int (x.2.2 5), .int (x.2.2 6), .int (x.2.2 7), .int (x.2.2 8), .int (x.2.2 9), .int (x.2.2 10)]))]
def zv_En_Ta_10 (c : zY) (q : Nat → Nat) (x : zsE) : va_W := []
set_option maxRecDepth 20000 in
theorem sp_En_Ta_10 (c : zY) (q : Nat → Nat) (x : zsE) : zwE c q x = zu_En_Ta_10 c q x ++ (zwT c (q 10) (q 11) 1 8 x.2.1 ++ zv_En_Ta_10 c q x) := rfl
set_option maxRecDepth 20000 in
theorem sq_En_Ta_10 (c : zY) (q : Nat → Nat) (x : zsE) (y : zsT) : zu_En_Ta_10 c q x ++ (zwT c (q 10) (q 11) 1 8 y ++ zv_En_Ta_10 c q x) = zwE c q (x.1, y, x.2.2) := rfl
def zu_St_En_0 (c : zY) (q : Nat → Nat) (x : zsS) : va_W := []
def zv_St_En_0 (c : zY) (q : Nat → Nat) (x : zsS) : va_W := [((q 12), .inr (5, [.ref (q 0), .ref (q 2), .ref (q 6), .ref (q 9), .ref (q 13), .ref (q 15), .int x.2.2.2])), ((q 13), .inr (6, [.int 1, .ref (q 14), .int x.2.1.2])), ((q 14), .inl (c.1, 100, .inl x.2.1.1)), ((q 15), .inr (6, [.int 25, .ref (q 16), .int x.2.2.1.2])), ((q 16), .inl (c.1, 100, .inl x.2.2.1.1))]
set_option maxRecDepth 20000 in
theorem sp_St_En_0 (c : zY) (q : Nat → Nat) (x : zsS) : zwS c q x = zu_St_En_0 c q x ++ (zwE c q x.1 ++ zv_St_En_0 c q x) := rfl
set_option maxRecDepth 20000 in
theorem sq_St_En_0 (c : zY) (q : Nat → Nat) (x : zsS) (y : zsE) : zu_St_En_0 c q x ++ (zwE c q y ++ zv_St_En_0 c q x) = zwS c q (y, x.2.1, x.2.2.1, x.2.2.2) := rfl
def zu_St_Fi_0 (c : zY) (q : Nat → Nat) (x : zsS) : va_W := []
def zv_St_Fi_0 (c : zY) (q : Nat → Nat) (x : zsS) : va_W := [((q 9), .inr (2, [.ref (q 10), .ref (q 6), .ref (q 2), .ref (q 0), .int (x.1.2.2 4), .int (x.1.2.2 5), .int (x.1.2.2 6), .int (x.1.2.2 7), .int (x.1.2.2 8), .int (x.1.2.2 9), .int (x.1.2.2 10)])), ((q 10), .inr (6, [.int 1, .ref (q 11), .int x.1.2.1.2])), ((q 11), .inl (c.1, 8, .inl x.1.2.1.1)), ((q 12), .inr (5, [.ref (q 0), .ref (q 2), .ref (q 6), .ref (q 9), .ref (q 13), .ref (q 15), .int x.2.2.2])), ((q 13), .inr (6, [.int 1, .ref (q 14), .int x.2.1.2])), ((q 14), .inl (c.1, 100, .inl x.2.1.1)), ((q 15), .inr (6, [.int 25, .ref (q 16), .int x.2.2.1.2])), ((q 16), .inl (c.1, 100, .inl x.2.2.1.1))]
set_option maxRecDepth 20000 in
theorem sp_St_Fi_0 (c : zY) (q : Nat → Nat) (x : zsS) : zwS c q x = zu_St_Fi_0 c q x ++ (zwF c q x.1.1 ++ zv_St_Fi_0 c q x) := rfl
set_option maxRecDepth 20000 in
theorem sq_St_Fi_0 (c : zY) (q : Nat → Nat) (x : zsS) (y : zsF) : zu_St_Fi_0 c q x ++ (zwF c q y ++ zv_St_Fi_0 c q x) = zwS c q ((y, x.1.2.1, x.1.2.2), x.2.1, x.2.2.1, x.2.2.2) := rfl
def zu_St_Co_0 (c : zY) (q : Nat → Nat) (x : zsS) : va_W := []
def zv_St_Co_0 (c : zY) (q : Nat → Nat) (x : zsS) : va_W := [((q 6), .inr (3, [.ref (q 7), .ref (q 2), .ref (q 0), .int (x.1.1.2.2 3), .int (x.1.1.2.2 4)])), ((q 7), .inr (6, [.int 13, .ref (q 8), .int x.1.1.2.1.2])), ((q 8), .inl (c.1, 104, .inl x.1.1.2.1.1)), ((q 9), .inr (2, [.ref (q 10), .ref (q 6), .ref (q 2), .ref (q 0), .int (x.1.2.2 4), .int (x.1.2.2 5), .int (x.1.2.2 6), .int (x.1.2.2 7), .int (x.1.2.2 8), .int (x.1.2.2 9), .int (x.1.2.2 10)])), ((q 10), .inr (6, [.int 1, .ref (q 11), .int x.1.2.1.2])), ((q 11), .inl (c.1, 8, .inl x.1.2.1.1)), ((q 12), .inr (5, [.ref (q 0), .ref (q 2), .ref (q 6), .ref (q 9), .ref (q 13), .ref (q 15), .int x.2.2.2])), ((q 13), .inr (6, [.int 1, .ref (q 14), .int x.2.1.2])), ((q 14), .inl (c.1, 100, .inl x.2.1.1)), ((q 15), .inr (6, [.int 25, .ref (q 16), .int x.2.2.1.2])), ((q 16), .inl (c.1, 100, .inl x.2.2.1.1))]
set_option maxRecDepth 20000 in
theorem sp_St_Co_0 (c : zY) (q : Nat → Nat) (x : zsS) : zwS c q x = zu_St_Co_0 c q x ++ (zwC c q x.1.1.1 ++ zv_St_Co_0 c q x) := rfl
set_option maxRecDepth 20000 in
theorem sq_St_Co_0 (c : zY) (q : Nat → Nat) (x : zsS) (y : zsC) : zu_St_Co_0 c q x ++ (zwC c q y ++ zv_St_Co_0 c q x) = zwS c q (((y, x.1.1.2.1, x.1.1.2.2), x.1.2.1, x.1.2.2), x.2.1, x.2.2.1, x.2.2.2) := rfl
def zu_St_Jo_0 (c : zY) (q : Nat → Nat) (x : zsS) : va_W := []
def zv_St_Jo_0 (c : zY) (q : Nat → Nat) (x : zsS) : va_W := [((q 2), .inr (1, [.ref (q 3), .ref (q 0), .ref (q 5)])), ((q 3), .inr (6, [.int 6, .ref (q 4), .int x.1.1.1.2.1.2])), ((q 4), .inl (c.1, 2304, .inl x.1.1.1.2.1.1)), ((q 5), .inl (c.1, 8, .inl x.1.1.1.2.2)), ((q 6), .inr (3, [.ref (q 7), .ref (q 2), .ref (q 0), .int (x.1.1.2.2 3), .int (x.1.1.2.2 4)])), ((q 7), .inr (6, [.int 13, .ref (q 8), .int x.1.1.2.1.2])), ((q 8), .inl (c.1, 104, .inl x.1.1.2.1.1)), ((q 9), .inr (2, [.ref (q 10), .ref (q 6), .ref (q 2), .ref (q 0), .int (x.1.2.2 4), .int (x.1.2.2 5), .int (x.1.2.2 6), .int (x.1.2.2 7), .int (x.1.2.2 8), .int (x.1.2.2 9), .int (x.1.2.2 10)])), ((q 10), .inr (6, [.int 1, .ref (q 11), .int x.1.2.1.2])), ((q 11), .inl (c.1, 8, .inl x.1.2.1.1)), ((q 12), .inr (5, [.ref (q 0), .ref (q 2), .ref (q 6), .ref (q 9), .ref (q 13), .ref (q 15), .int x.2.2.2])), ((q 13), .inr (6, [.int 1, .ref (q 14), .int x.2.1.2])), ((q 14), .inl (c.1, 100, .inl x.2.1.1)), ((q 15), .inr (6, [.int 25, .ref (q 16), .int x.2.2.1.2])), ((q 16), .inl (c.1, 100, .inl x.2.2.1.1))]
set_option maxRecDepth 20000 in
theorem sp_St_Jo_0 (c : zY) (q : Nat → Nat) (x : zsS) : zwS c q x = zu_St_Jo_0 c q x ++ (zwJ c q x.1.1.1.1 ++ zv_St_Jo_0 c q x) := rfl
set_option maxRecDepth 20000 in
theorem sq_St_Jo_0 (c : zY) (q : Nat → Nat) (x : zsS) (y : zsT) : zu_St_Jo_0 c q x ++ (zwJ c q y ++ zv_St_Jo_0 c q x) = zwS c q ((((y, x.1.1.1.2.1, x.1.1.1.2.2), x.1.1.2.1, x.1.1.2.2), x.1.2.1, x.1.2.2), x.2.1, x.2.2.1, x.2.2.2) := rfl
def zu_St_Ta_13 (c : zY) (q : Nat → Nat) (x : zsS) : va_W := [((q 0), .inr (4, [.ref (q 1), .int x.1.1.1.1.2])), ((q 1), .inl (c.1, 900, .inl x.1.1.1.1.1)), ((q 2), .inr (1, [.ref (q 3), .ref (q 0), .ref (q 5)])), ((q 3), .inr (6, [.int 6, .ref (q 4), .int x.1.1.1.2.1.2])), ((q 4), .inl (c.1, 2304, .inl x.1.1.1.2.1.1)), ((q 5), .inl (c.1, 8, .inl x.1.1.1.2.2)), ((q 6), .inr (3, [.ref (q 7), .ref (q 2), .ref (q 0), .int (x.1.1.2.2 3), .int (x.1.1.2.2 4)])), ((q 7), .inr (6, [.int 13, .ref (q 8), .int x.1.1.2.1.2])), ((q 8), .inl (c.1, 104, .inl x.1.1.2.1.1)), ((q 9), .inr (2, [.ref (q 10), .ref (q 6), .ref (q 2), .ref (q 0), .int (x.1.2.2 4), .int (x.1.2.2 5), .int (x.1.2.2 6), .int (x.1.2.2 7), .int (x.1.2.2 8), .int (x.1.2.2 9), .int (x.1.2.2 10)])), ((q 10), .inr (6, [.int 1, .ref (q 11), .int x.1.2.1.2])), ((q 11), .inl (c.1, 8, .inl x.1.2.1.1)), ((q 12), .inr (5, [.ref (q 0), .ref (q 2), .ref (q 6), .ref (q 9), .ref (q 13), .ref (q 15), .int x.2.2.2]))]
def zv_St_Ta_13 (c : zY) (q : Nat → Nat) (x : zsS) : va_W := [((q 15), .inr (6, [.int 25, .ref (q 16), .int x.2.2.1.2])), ((q 16), .inl (c.1, 100, .inl x.2.2.1.1))]
set_option maxRecDepth 20000 in
theorem sp_St_Ta_13 (c : zY) (q : Nat → Nat) (x : zsS) : zwS c q x = zu_St_Ta_13 c q x ++ (zwT c (q 13) (q 14) 1 100 x.2.1 ++ zv_St_Ta_13 c q x) := rfl
set_option maxRecDepth 20000 in
theorem sq_St_Ta_13 (c : zY) (q : Nat → Nat) (x : zsS) (y : zsT) : zu_St_Ta_13 c q x ++ (zwT c (q 13) (q 14) 1 100 y ++ zv_St_Ta_13 c q x) = zwS c q (x.1, y, x.2.2.1, x.2.2.2) := rfl
def zu_St_Ta_15 (c : zY) (q : Nat → Nat) (x : zsS) : va_W := [((q 0), .inr (4, [.ref (q 1), .int x.1.1.1.1.2])), ((q 1), .inl (c.1, 900, .inl x.1.1.1.1.1)), ((q 2), .inr (1, [.ref (q 3), .ref (q 0), .ref (q 5)])), ((q 3), .inr (6, [.int 6, .ref (q 4), .int x.1.1.1.2.1.2])), ((q 4), .inl (c.1, 2304, .inl x.1.1.1.2.1.1)), ((q 5), .inl (c.1, 8, .inl x.1.1.1.2.2)), ((q 6), .inr (3, [.ref (q 7), .ref (q 2), .ref (q 0), .int (x.1.1.2.2 3), .int (x.1.1.2.2 4)])), ((q 7), .inr (6, [.int 13, .ref (q 8), .int x.1.1.2.1.2])), ((q 8), .inl (c.1, 104, .inl x.1.1.2.1.1)), ((q 9), .inr (2, [.ref (q 10), .ref (q 6), .ref (q 2), .ref (q 0), .int (x.1.2.2 4), .int (x.1.2.2 5), .int (x.1.2.2 6), .int (x.1.2.2 7), .int (x.1.2.2 8), .int (x.1.2.2 9), .int (x.1.2.2 10)])), ((q 10), .inr (6, [.int 1, .ref (q 11), .int x.1.2.1.2])), ((q 11), .inl (c.1, 8, .inl x.1.2.1.1)), ((q 12), .inr (5, [.ref (q 0), .ref (q 2), .ref (q 6), .ref (q 9), .ref (q 13), .ref (q 15), .int x.2.2.2])), ((q 13), .inr (6, [.int 1, .ref (q 14), .int x.2.1.2])), ((q 14), .inl (c.1, 100, .inl x.2.1.1))]
def zv_St_Ta_15 (c : zY) (q : Nat → Nat) (x : zsS) : va_W := []
set_option maxRecDepth 20000 in
theorem sp_St_Ta_15 (c : zY) (q : Nat → Nat) (x : zsS) : zwS c q x = zu_St_Ta_15 c q x ++ (zwT c (q 15) (q 16) 25 100 x.2.2.1 ++ zv_St_Ta_15 c q x) := rfl
set_option maxRecDepth 20000 in
theorem sq_St_Ta_15 (c : zY) (q : Nat → Nat) (x : zsS) (y : zsT) : zu_St_Ta_15 c q x ++ (zwT c (q 15) (q 16) 25 100 y ++ zv_St_Ta_15 c q x) = zwS c q (x.1, x.2.1, y, x.2.2.2) := rfl
def zu_EL_Tp_0 (c : zY) (q : Nat → Nat) (x : zsX) : va_W := []
def zv_EL_Tp_0 (c : zY) (q : Nat → Nat) (x : zsX) : va_W := [((q 17), .inr (9, [.ref (q 12), .ref (q 38), .ref (q 24), .ref (q 18), .ref (q 21), .int x.2.1, .int x.2.2.1])), ((q 21), .inr (8, [.ref (q 22), .ref (q 23), .int x.2.2.2.1.2.2])), ((q 22), .inl (c.1, 100, .inl x.2.2.2.1.1)), ((q 23), .inl (c.1, 100, .inl x.2.2.2.1.2.1)), ((q 0), .inr (4, [.ref (q 1), .int x.2.2.2.2.1.1.1.1.1.2])), ((q 1), .inl (c.1, 900, .inl x.2.2.2.2.1.1.1.1.1.1)), ((q 2), .inr (1, [.ref (q 3), .ref (q 0), .ref (q 5)])), ((q 3), .inr (6, [.int 6, .ref (q 4), .int x.2.2.2.2.1.1.1.1.2.1.2])), ((q 4), .inl (c.1, 2304, .inl x.2.2.2.2.1.1.1.1.2.1.1)), ((q 5), .inl (c.1, 8, .inl x.2.2.2.2.1.1.1.1.2.2)), ((q 6), .inr (3, [.ref (q 7), .ref (q 2), .ref (q 0), .int (x.2.2.2.2.1.1.1.2.2 3), .int (x.2.2.2.2.1.1.1.2.2 4)])), ((q 7), .inr (6, [.int 13, .ref (q 8), .int x.2.2.2.2.1.1.1.2.1.2])), ((q 8), .inl (c.1, 104, .inl x.2.2.2.2.1.1.1.2.1.1)), ((q 9), .inr (2, [.ref (q 10), .ref (q 6), .ref (q 2), .ref (q 0), .int (x.2.2.2.2.1.1.2.2 4), .int (x.2.2.2.2.1.1.2.2 5), .int (x.2.2.2.2.1.1.2.2 6), .int (x.2.2.2.2.1.1.2.2 7), .int (x.2.2.2.2.1.1.2.2 8), .int (x.2.2.2.2.1.1.2.2 9), .int (x.2.2.2.2.1.1.2.2 10)])), ((q 10), .inr (6, [.int 1, .ref (q 11), .int x.2.2.2.2.1.1.2.1.2])), ((q 11), .inl (c.1, 8, .inl x.2.2.2.2.1.1.2.1.1)), ((q 12), .inr (5, [.ref (q 0), .ref (q 2), .ref (q 6), .ref (q 9), .ref (q 13), .ref (q 15), .int x.2.2.2.2.1.2.2.2])), ((q 13), .inr (6, [.int 1, .ref (q 14), .int x.2.2.2.2.1.2.1.2])), ((q 14), .inl (c.1, 100, .inl x.2.2.2.2.1.2.1.1)), ((q 15), .inr (6, [.int 25, .ref (q 16), .int x.2.2.2.2.1.2.2.1.2])), ((q 16), .inl (c.1, 100, .inl x.2.2.2.2.1.2.2.1.1))] ++ (zwK c q x.2.2.2.2.2.1 ++ zwS c (fun i => q (i + 26)) x.2.2.2.2.2.2)
set_option maxRecDepth 20000 in
theorem sp_EL_Tp_0 (c : zY) (q : Nat → Nat) (x : zsX) : zwX c q x = zu_EL_Tp_0 c q x ++ (zwP c (q 18) (q 19) (q 20) x.1 ++ zv_EL_Tp_0 c q x) := rfl
set_option maxRecDepth 20000 in
theorem sq_EL_Tp_0 (c : zY) (q : Nat → Nat) (x : zsX) (y : zsP) : zu_EL_Tp_0 c q x ++ (zwP c (q 18) (q 19) (q 20) y ++ zv_EL_Tp_0 c q x) = zwX c q (y, x.2.1, x.2.2.1, x.2.2.2.1, x.2.2.2.2.1, x.2.2.2.2.2.1, x.2.2.2.2.2.2) := rfl
def zu_EL_St_7 (c : zY) (q : Nat → Nat) (x : zsX) : va_W := [((q 18), .inr (7, [.ref (q 19), .ref (q 20), .int x.1.2.2.1, .int x.1.2.2.2])), ((q 19), .inl (c.1, 40, .inl x.1.1)), ((q 20), .inl (c.1, 25, .inl x.1.2.1)), ((q 17), .inr (9, [.ref (q 12), .ref (q 38), .ref (q 24), .ref (q 18), .ref (q 21), .int x.2.1, .int x.2.2.1])), ((q 21), .inr (8, [.ref (q 22), .ref (q 23), .int x.2.2.2.1.2.2])), ((q 22), .inl (c.1, 100, .inl x.2.2.2.1.1)), ((q 23), .inl (c.1, 100, .inl x.2.2.2.1.2.1))]
def zv_EL_St_7 (c : zY) (q : Nat → Nat) (x : zsX) : va_W := [] ++ (zwK c q x.2.2.2.2.2.1 ++ zwS c (fun i => q (i + 26)) x.2.2.2.2.2.2)
set_option maxRecDepth 20000 in
theorem sp_EL_St_7 (c : zY) (q : Nat → Nat) (x : zsX) : zwX c q x = zu_EL_St_7 c q x ++ (zwS c q x.2.2.2.2.1 ++ zv_EL_St_7 c q x) := rfl
set_option maxRecDepth 20000 in
theorem sq_EL_St_7 (c : zY) (q : Nat → Nat) (x : zsX) (y : zsS) : zu_EL_St_7 c q x ++ (zwS c q y ++ zv_EL_St_7 c q x) = zwX c q (x.1, x.2.1, x.2.2.1, x.2.2.2.1, y, x.2.2.2.2.2.1, x.2.2.2.2.2.2) := rfl
def zu_EL_En_7 (c : zY) (q : Nat → Nat) (x : zsX) : va_W := [((q 18), .inr (7, [.ref (q 19), .ref (q 20), .int x.1.2.2.1, .int x.1.2.2.2])), ((q 19), .inl (c.1, 40, .inl x.1.1)), ((q 20), .inl (c.1, 25, .inl x.1.2.1)), ((q 17), .inr (9, [.ref (q 12), .ref (q 38), .ref (q 24), .ref (q 18), .ref (q 21), .int x.2.1, .int x.2.2.1])), ((q 21), .inr (8, [.ref (q 22), .ref (q 23), .int x.2.2.2.1.2.2])), ((q 22), .inl (c.1, 100, .inl x.2.2.2.1.1)), ((q 23), .inl (c.1, 100, .inl x.2.2.2.1.2.1))]
def zv_EL_En_7 (c : zY) (q : Nat → Nat) (x : zsX) : va_W := [((q 12), .inr (5, [.ref (q 0), .ref (q 2), .ref (q 6), .ref (q 9), .ref (q 13), .ref (q 15), .int x.2.2.2.2.1.2.2.2])), ((q 13), .inr (6, [.int 1, .ref (q 14), .int x.2.2.2.2.1.2.1.2])), ((q 14), .inl (c.1, 100, .inl x.2.2.2.2.1.2.1.1)), ((q 15), .inr (6, [.int 25, .ref (q 16), .int x.2.2.2.2.1.2.2.1.2])), ((q 16), .inl (c.1, 100, .inl x.2.2.2.2.1.2.2.1.1))] ++ (zwK c q x.2.2.2.2.2.1 ++ zwS c (fun i => q (i + 26)) x.2.2.2.2.2.2)
set_option maxRecDepth 20000 in
theorem sp_EL_En_7 (c : zY) (q : Nat → Nat) (x : zsX) : zwX c q x = zu_EL_En_7 c q x ++ (zwE c q x.2.2.2.2.1.1 ++ zv_EL_En_7 c q x) := rfl
set_option maxRecDepth 20000 in
theorem sq_EL_En_7 (c : zY) (q : Nat → Nat) (x : zsX) (y : zsE) : zu_EL_En_7 c q x ++ (zwE c q y ++ zv_EL_En_7 c q x) = zwX c q (x.1, x.2.1, x.2.2.1, x.2.2.2.1, (y, x.2.2.2.2.1.2.1, x.2.2.2.2.1.2.2.1, x.2.2.2.2.1.2.2.2), x.2.2.2.2.2.1, x.2.2.2.2.2.2) := rfl
def zu_EL_Fi_7 (c : zY) (q : Nat → Nat) (x : zsX) : va_W := [((q 18), .inr (7, [.ref (q 19), .ref (q 20), .int x.1.2.2.1, .int x.1.2.2.2])), ((q 19), .inl (c.1, 40, .inl x.1.1)), ((q 20), .inl (c.1, 25, .inl x.1.2.1)), ((q 17), .inr (9, [.ref (q 12), .ref (q 38), .ref (q 24), .ref (q 18), .ref (q 21), .int x.2.1, .int x.2.2.1])), ((q 21), .inr (8, [.ref (q 22), .ref (q 23), .int x.2.2.2.1.2.2])), ((q 22), .inl (c.1, 100, .inl x.2.2.2.1.1)), ((q 23), .inl (c.1, 100, .inl x.2.2.2.1.2.1))]
def zv_EL_Fi_7 (c : zY) (q : Nat → Nat) (x : zsX) : va_W := [((q 9), .inr (2, [.ref (q 10), .ref (q 6), .ref (q 2), .ref (q 0), .int (x.2.2.2.2.1.1.2.2 4), .int (x.2.2.2.2.1.1.2.2 5), .int (x.2.2.2.2.1.1.2.2 6), .int (x.2.2.2.2.1.1.2.2 7), .int (x.2.2.2.2.1.1.2.2 8), .int (x.2.2.2.2.1.1.2.2 9), .int (x.2.2.2.2.1.1.2.2 10)])), ((q 10), .inr (6, [.int 1, .ref (q 11), .int x.2.2.2.2.1.1.2.1.2])), ((q 11), .inl (c.1, 8, .inl x.2.2.2.2.1.1.2.1.1)), ((q 12), .inr (5, [.ref (q 0), .ref (q 2), .ref (q 6), .ref (q 9), .ref (q 13), .ref (q 15), .int x.2.2.2.2.1.2.2.2])), ((q 13), .inr (6, [.int 1, .ref (q 14), .int x.2.2.2.2.1.2.1.2])), ((q 14), .inl (c.1, 100, .inl x.2.2.2.2.1.2.1.1)), ((q 15), .inr (6, [.int 25, .ref (q 16), .int x.2.2.2.2.1.2.2.1.2])), ((q 16), .inl (c.1, 100, .inl x.2.2.2.2.1.2.2.1.1))] ++ (zwK c q x.2.2.2.2.2.1 ++ zwS c (fun i => q (i + 26)) x.2.2.2.2.2.2)
set_option maxRecDepth 20000 in
theorem sp_EL_Fi_7 (c : zY) (q : Nat → Nat) (x : zsX) : zwX c q x = zu_EL_Fi_7 c q x ++ (zwF c q x.2.2.2.2.1.1.1 ++ zv_EL_Fi_7 c q x) := rfl
set_option maxRecDepth 20000 in
theorem sq_EL_Fi_7 (c : zY) (q : Nat → Nat) (x : zsX) (y : zsF) : zu_EL_Fi_7 c q x ++ (zwF c q y ++ zv_EL_Fi_7 c q x) = zwX c q (x.1, x.2.1, x.2.2.1, x.2.2.2.1, ((y, x.2.2.2.2.1.1.2.1, x.2.2.2.2.1.1.2.2), x.2.2.2.2.1.2.1, x.2.2.2.2.1.2.2.1, x.2.2.2.2.1.2.2.2), x.2.2.2.2.2.1, x.2.2.2.2.2.2) := rfl
def zu_EL_Co_7 (c : zY) (q : Nat → Nat) (x : zsX) : va_W := [((q 18), .inr (7, [.ref (q 19), .ref (q 20), .int x.1.2.2.1, .int x.1.2.2.2])), ((q 19), .inl (c.1, 40, .inl x.1.1)), ((q 20), .inl (c.1, 25, .inl x.1.2.1)), ((q 17), .inr (9, [.ref (q 12), .ref (q 38), .ref (q 24), .ref (q 18), .ref (q 21), .int x.2.1, .int x.2.2.1])), ((q 21), .inr (8, [.ref (q 22), .ref (q 23), .int x.2.2.2.1.2.2])), ((q 22), .inl (c.1, 100, .inl x.2.2.2.1.1)), ((q 23), .inl (c.1, 100, .inl x.2.2.2.1.2.1))]
def zv_EL_Co_7 (c : zY) (q : Nat → Nat) (x : zsX) : va_W := [((q 6), .inr (3, [.ref (q 7), .ref (q 2), .ref (q 0), .int (x.2.2.2.2.1.1.1.2.2 3), .int (x.2.2.2.2.1.1.1.2.2 4)])), ((q 7), .inr (6, [.int 13, .ref (q 8), .int x.2.2.2.2.1.1.1.2.1.2])), ((q 8), .inl (c.1, 104, .inl x.2.2.2.2.1.1.1.2.1.1)), ((q 9), .inr (2, [.ref (q 10), .ref (q 6), .ref (q 2), .ref (q 0), .int (x.2.2.2.2.1.1.2.2 4), .int (x.2.2.2.2.1.1.2.2 5), .int (x.2.2.2.2.1.1.2.2 6), .int (x.2.2.2.2.1.1.2.2 7), .int (x.2.2.2.2.1.1.2.2 8), .int (x.2.2.2.2.1.1.2.2 9), .int (x.2.2.2.2.1.1.2.2 10)])), ((q 10), .inr (6, [.int 1, .ref (q 11), .int x.2.2.2.2.1.1.2.1.2])), ((q 11), .inl (c.1, 8, .inl x.2.2.2.2.1.1.2.1.1)), ((q 12), .inr (5, [.ref (q 0), .ref (q 2), .ref (q 6), .ref (q 9), .ref (q 13), .ref (q 15), .int x.2.2.2.2.1.2.2.2])), ((q 13), .inr (6, [.int 1, .ref (q 14), .int x.2.2.2.2.1.2.1.2])), ((q 14), .inl (c.1, 100, .inl x.2.2.2.2.1.2.1.1)), ((q 15), .inr (6, [.int 25, .ref (q 16), .int x.2.2.2.2.1.2.2.1.2])), ((q 16), .inl (c.1, 100, .inl x.2.2.2.2.1.2.2.1.1))] ++ (zwK c q x.2.2.2.2.2.1 ++ zwS c (fun i => q (i + 26)) x.2.2.2.2.2.2)
set_option maxRecDepth 20000 in
theorem sp_EL_Co_7 (c : zY) (q : Nat → Nat) (x : zsX) : zwX c q x = zu_EL_Co_7 c q x ++ (zwC c q x.2.2.2.2.1.1.1.1 ++ zv_EL_Co_7 c q x) := rfl
set_option maxRecDepth 20000 in
theorem sq_EL_Co_7 (c : zY) (q : Nat → Nat) (x : zsX) (y : zsC) : zu_EL_Co_7 c q x ++ (zwC c q y ++ zv_EL_Co_7 c q x) = zwX c q (x.1, x.2.1, x.2.2.1, x.2.2.2.1, (((y, x.2.2.2.2.1.1.1.2.1, x.2.2.2.2.1.1.1.2.2), x.2.2.2.2.1.1.2.1, x.2.2.2.2.1.1.2.2), x.2.2.2.2.1.2.1, x.2.2.2.2.1.2.2.1, x.2.2.2.2.1.2.2.2), x.2.2.2.2.2.1, x.2.2.2.2.2.2) := rfl
def zu_EL_Jo_7 (c : zY) (q : Nat → Nat) (x : zsX) : va_W := [((q 18), .inr (7, [.ref (q 19), .ref (q 20), .int x.1.2.2.1, .int x.1.2.2.2])), ((q 19), .inl (c.1, 40, .inl x.1.1)), ((q 20), .inl (c.1, 25, .inl x.1.2.1)), ((q 17), .inr (9, [.ref (q 12), .ref (q 38), .ref (q 24), .ref (q 18), .ref (q 21), .int x.2.1, .int x.2.2.1])), ((q 21), .inr (8, [.ref (q 22), .ref (q 23), .int x.2.2.2.1.2.2])), ((q 22), .inl (c.1, 100, .inl x.2.2.2.1.1)), ((q 23), .inl (c.1, 100, .inl x.2.2.2.1.2.1))]
def zv_EL_Jo_7 (c : zY) (q : Nat → Nat) (x : zsX) : va_W := [((q 2), .inr (1, [.ref (q 3), .ref (q 0), .ref (q 5)])), ((q 3), .inr (6, [.int 6, .ref (q 4), .int x.2.2.2.2.1.1.1.1.2.1.2])), ((q 4), .inl (c.1, 2304, .inl x.2.2.2.2.1.1.1.1.2.1.1)), ((q 5), .inl (c.1, 8, .inl x.2.2.2.2.1.1.1.1.2.2)), ((q 6), .inr (3, [.ref (q 7), .ref (q 2), .ref (q 0), .int (x.2.2.2.2.1.1.1.2.2 3), .int (x.2.2.2.2.1.1.1.2.2 4)])), ((q 7), .inr (6, [.int 13, .ref (q 8), .int x.2.2.2.2.1.1.1.2.1.2])), ((q 8), .inl (c.1, 104, .inl x.2.2.2.2.1.1.1.2.1.1)), ((q 9), .inr (2, [.ref (q 10), .ref (q 6), .ref (q 2), .ref (q 0), .int (x.2.2.2.2.1.1.2.2 4), .int (x.2.2.2.2.1.1.2.2 5), .int (x.2.2.2.2.1.1.2.2 6), .int (x.2.2.2.2.1.1.2.2 7), .int (x.2.2.2.2.1.1.2.2 8), .int (x.2.2.2.2.1.1.2.2 9), .int (x.2.2.2.2.1.1.2.2 10)])), ((q 10), .inr (6, [.int 1, .ref (q 11), .int x.2.2.2.2.1.1.2.1.2])), ((q 11), .inl (c.1, 8, .inl x.2.2.2.2.1.1.2.1.1)), ((q 12), .inr (5, [.ref (q 0), .ref (q 2), .ref (q 6), .ref (q 9), .ref (q 13), .ref (q 15), .int x.2.2.2.2.1.2.2.2])), ((q 13), .inr (6, [.int 1, .ref (q 14), .int x.2.2.2.2.1.2.1.2])), ((q 14), .inl (c.1, 100, .inl x.2.2.2.2.1.2.1.1)), ((q 15), .inr (6, [.int 25, .ref (q 16), .int x.2.2.2.2.1.2.2.1.2])), ((q 16), .inl (c.1, 100, .inl x.2.2.2.2.1.2.2.1.1))] ++ (zwK c q x.2.2.2.2.2.1 ++ zwS c (fun i => q (i + 26)) x.2.2.2.2.2.2)
set_option maxRecDepth 20000 in
theorem sp_EL_Jo_7 (c : zY) (q : Nat → Nat) (x : zsX) : zwX c q x = zu_EL_Jo_7 c q x ++ (zwJ c q x.2.2.2.2.1.1.1.1.1 ++ zv_EL_Jo_7 c q x) := rfl
set_option maxRecDepth 20000 in
theorem sq_EL_Jo_7 (c : zY) (q : Nat → Nat) (x : zsX) (y : zsT) : zu_EL_Jo_7 c q x ++ (zwJ c q y ++ zv_EL_Jo_7 c q x) = zwX c q (x.1, x.2.1, x.2.2.1, x.2.2.2.1, ((((y, x.2.2.2.2.1.1.1.1.2.1, x.2.2.2.2.1.1.1.1.2.2), x.2.2.2.2.1.1.1.2.1, x.2.2.2.2.1.1.1.2.2), x.2.2.2.2.1.1.2.1, x.2.2.2.2.1.1.2.2), x.2.2.2.2.1.2.1, x.2.2.2.2.1.2.2.1, x.2.2.2.2.1.2.2.2), x.2.2.2.2.2.1, x.2.2.2.2.2.2) := rfl
def zu_EL_Ta_20 (c : zY) (q : Nat → Nat) (x : zsX) : va_W := [((q 18), .inr (7, [.ref (q 19), .ref (q 20), .int x.1.2.2.1, .int x.1.2.2.2])), ((q 19), .inl (c.1, 40, .inl x.1.1)), ((q 20), .inl (c.1, 25, .inl x.1.2.1)), ((q 17), .inr (9, [.ref (q 12), .ref (q 38), .ref (q 24), .ref (q 18), .ref (q 21), .int x.2.1, .int x.2.2.1])), ((q 21), .inr (8, [.ref (q 22), .ref (q 23), .int x.2.2.2.1.2.2])), ((q 22), .inl (c.1, 100, .inl x.2.2.2.1.1)), ((q 23), .inl (c.1, 100, .inl x.2.2.2.1.2.1)), ((q 0), .inr (4, [.ref (q 1), .int x.2.2.2.2.1.1.1.1.1.2])), ((q 1), .inl (c.1, 900, .inl x.2.2.2.2.1.1.1.1.1.1)), ((q 2), .inr (1, [.ref (q 3), .ref (q 0), .ref (q 5)])), ((q 3), .inr (6, [.int 6, .ref (q 4), .int x.2.2.2.2.1.1.1.1.2.1.2])), ((q 4), .inl (c.1, 2304, .inl x.2.2.2.2.1.1.1.1.2.1.1)), ((q 5), .inl (c.1, 8, .inl x.2.2.2.2.1.1.1.1.2.2)), ((q 6), .inr (3, [.ref (q 7), .ref (q 2), .ref (q 0), .int (x.2.2.2.2.1.1.1.2.2 3), .int (x.2.2.2.2.1.1.1.2.2 4)])), ((q 7), .inr (6, [.int 13, .ref (q 8), .int x.2.2.2.2.1.1.1.2.1.2])), ((q 8), .inl (c.1, 104, .inl x.2.2.2.2.1.1.1.2.1.1)), ((q 9), .inr (2, [.ref (q 10), .ref (q 6), .ref (q 2), .ref (q 0), .int (x.2.2.2.2.1.1.2.2 4), .int (x.2.2.2.2.1.1.2.2 5), .int (x.2.2.2.2.1.1.2.2 6), .int (x.2.2.2.2.1.1.2.2 7), .int (x.2.2.2.2.1.1.2.2 8), .int (x.2.2.2.2.1.1.2.2 9), .int (x.2.2.2.2.1.1.2.2 10)])), ((q 10), .inr (6, [.int 1, .ref (q 11), .int x.2.2.2.2.1.1.2.1.2])), ((q 11), .inl (c.1, 8, .inl x.2.2.2.2.1.1.2.1.1)), ((q 12), .inr (5, [.ref (q 0), .ref (q 2), .ref (q 6), .ref (q 9), .ref (q 13), .ref (q 15), .int x.2.2.2.2.1.2.2.2]))]
def zv_EL_Ta_20 (c : zY) (q : Nat → Nat) (x : zsX) : va_W := [((q 15), .inr (6, [.int 25, .ref (q 16), .int x.2.2.2.2.1.2.2.1.2])), ((q 16), .inl (c.1, 100, .inl x.2.2.2.2.1.2.2.1.1))] ++ (zwK c q x.2.2.2.2.2.1 ++ zwS c (fun i => q (i + 26)) x.2.2.2.2.2.2)
set_option maxRecDepth 20000 in
theorem sp_EL_Ta_20 (c : zY) (q : Nat → Nat) (x : zsX) : zwX c q x = zu_EL_Ta_20 c q x ++ (zwT c (q 13) (q 14) 1 100 x.2.2.2.2.1.2.1 ++ zv_EL_Ta_20 c q x) := rfl
set_option maxRecDepth 20000 in
theorem sq_EL_Ta_20 (c : zY) (q : Nat → Nat) (x : zsX) (y : zsT) : zu_EL_Ta_20 c q x ++ (zwT c (q 13) (q 14) 1 100 y ++ zv_EL_Ta_20 c q x) = zwX c q (x.1, x.2.1, x.2.2.1, x.2.2.2.1, (x.2.2.2.2.1.1, y, x.2.2.2.2.1.2.2.1, x.2.2.2.2.1.2.2.2), x.2.2.2.2.2.1, x.2.2.2.2.2.2) := rfl
def zu_EL_Ta_22 (c : zY) (q : Nat → Nat) (x : zsX) : va_W := [((q 18), .inr (7, [.ref (q 19), .ref (q 20), .int x.1.2.2.1, .int x.1.2.2.2])), ((q 19), .inl (c.1, 40, .inl x.1.1)), ((q 20), .inl (c.1, 25, .inl x.1.2.1)), ((q 17), .inr (9, [.ref (q 12), .ref (q 38), .ref (q 24), .ref (q 18), .ref (q 21), .int x.2.1, .int x.2.2.1])), ((q 21), .inr (8, [.ref (q 22), .ref (q 23), .int x.2.2.2.1.2.2])), ((q 22), .inl (c.1, 100, .inl x.2.2.2.1.1)), ((q 23), .inl (c.1, 100, .inl x.2.2.2.1.2.1)), ((q 0), .inr (4, [.ref (q 1), .int x.2.2.2.2.1.1.1.1.1.2])), ((q 1), .inl (c.1, 900, .inl x.2.2.2.2.1.1.1.1.1.1)), ((q 2), .inr (1, [.ref (q 3), .ref (q 0), .ref (q 5)])), ((q 3), .inr (6, [.int 6, .ref (q 4), .int x.2.2.2.2.1.1.1.1.2.1.2])), ((q 4), .inl (c.1, 2304, .inl x.2.2.2.2.1.1.1.1.2.1.1)), ((q 5), .inl (c.1, 8, .inl x.2.2.2.2.1.1.1.1.2.2)), ((q 6), .inr (3, [.ref (q 7), .ref (q 2), .ref (q 0), .int (x.2.2.2.2.1.1.1.2.2 3), .int (x.2.2.2.2.1.1.1.2.2 4)])), ((q 7), .inr (6, [.int 13, .ref (q 8), .int x.2.2.2.2.1.1.1.2.1.2])), ((q 8), .inl (c.1, 104, .inl x.2.2.2.2.1.1.1.2.1.1)), ((q 9), .inr (2, [.ref (q 10), .ref (q 6), .ref (q 2), .ref (q 0), .int (x.2.2.2.2.1.1.2.2 4), .int (x.2.2.2.2.1.1.2.2 5), .int (x.2.2.2.2.1.1.2.2 6), .int (x.2.2.2.2.1.1.2.2 7), .int (x.2.2.2.2.1.1.2.2 8), .int (x.2.2.2.2.1.1.2.2 9), .int (x.2.2.2.2.1.1.2.2 10)])), ((q 10), .inr (6, [.int 1, .ref (q 11), .int x.2.2.2.2.1.1.2.1.2])), ((q 11), .inl (c.1, 8, .inl x.2.2.2.2.1.1.2.1.1)), ((q 12), .inr (5, [.ref (q 0), .ref (q 2), .ref (q 6), .ref (q 9), .ref (q 13), .ref (q 15), .int x.2.2.2.2.1.2.2.2])), ((q 13), .inr (6, [.int 1, .ref (q 14), .int x.2.2.2.2.1.2.1.2])), ((q 14), .inl (c.1, 100, .inl x.2.2.2.2.1.2.1.1))]
def zv_EL_Ta_22 (c : zY) (q : Nat → Nat) (x : zsX) : va_W := [] ++ (zwK c q x.2.2.2.2.2.1 ++ zwS c (fun i => q (i + 26)) x.2.2.2.2.2.2)
set_option maxRecDepth 20000 in
theorem sp_EL_Ta_22 (c : zY) (q : Nat → Nat) (x : zsX) : zwX c q x = zu_EL_Ta_22 c q x ++ (zwT c (q 15) (q 16) 25 100 x.2.2.2.2.1.2.2.1 ++ zv_EL_Ta_22 c q x) := rfl
set_option maxRecDepth 20000 in
theorem sq_EL_Ta_22 (c : zY) (q : Nat → Nat) (x : zsX) (y : zsT) : zu_EL_Ta_22 c q x ++ (zwT c (q 15) (q 16) 25 100 y ++ zv_EL_Ta_22 c q x) = zwX c q (x.1, x.2.1, x.2.2.1, x.2.2.2.1, (x.2.2.2.2.1.1, x.2.2.2.2.1.2.1, y, x.2.2.2.2.1.2.2.2), x.2.2.2.2.2.1, x.2.2.2.2.2.2) := rfl
theorem gf_Ta_7 {X : zX} {cc : ByteArray} {n d : Nat} {c : zY} {w : va_W} {L : List (Nat × Value)} {pc a : Nat} {st : List Value} {fs : List Value} {v : Value} (hX : Ok X zr_Ta cc n d c) (q0 : Nat) (he : w[q0]? = some (a, .inr (6, fs))) (hv : fs[0]? = some v) (hd : decode cc pc = .ok (.getfield 7, 3)) (k : Go X w L (pc + 3) (v :: st)) : Go X w L pc (.ref a :: st) := g_get hX zi_Ta 0 rfl zH_Ta_7 rfl q0 he hv hd k
theorem gf_Ta_19 {X : zX} {cc : ByteArray} {n d : Nat} {c : zY} {w : va_W} {L : List (Nat × Value)} {pc a : Nat} {st : List Value} {fs : List Value} {v : Value} (hX : Ok X zr_Ta cc n d c) (q0 : Nat) (he : w[q0]? = some (a, .inr (6, fs))) (hv : fs[1]? = some v) (hd : decode cc pc = .ok (.getfield 19, 3)) (k : Go X w L (pc + 3) (v :: st)) : Go X w L pc (.ref a :: st) := g_get hX zi_Ta 1 rfl zH_Ta_19 rfl q0 he hv hd k
theorem gf_Ta_23 {X : zX} {cc : ByteArray} {n d : Nat} {c : zY} {w : va_W} {L : List (Nat × Value)} {pc a : Nat} {st : List Value} {fs : List Value} {v : Value} (hX : Ok X zr_Ta cc n d c) (q0 : Nat) (he : w[q0]? = some (a, .inr (6, fs))) (hv : fs[2]? = some v) (hd : decode cc pc = .ok (.getfield 23, 3)) (k : Go X w L (pc + 3) (v :: st)) : Go X w L pc (.ref a :: st) := g_get hX zi_Ta 2 rfl zH_Ta_23 rfl q0 he hv hd k
theorem pf_Ta_23 {X : zX} {cc : ByteArray} {n d : Nat} {c : zY} {w w2 : va_W} {L : List (Nat × Value)} {pc a : Nat} {st : List Value} {fs : List Value} {v : Int32} (hX : Ok X zr_Ta cc n d c) (q0 : Nat) (he : w[q0]? = some (a, .inr (6, fs))) (hl0 : Nat.blt 2 fs.length = true) (hw : w.set q0 (a, .inr (6, fs.set 2 (.int v))) = w2) (hd : decode cc pc = .ok (.putfield 23, 3)) (k : Go X w2 L (pc + 3) st) : Go X w L pc (.int v :: .ref a :: st) := g_put zt_Ta zo_Ta zn_Ta hX zi_Ta 2 rfl zH_Ta_23 rfl rfl rfl rfl rfl q0 he hl0 hw hd k
theorem gf_Jo_11 {X : zX} {cc : ByteArray} {n d : Nat} {c : zY} {w : va_W} {L : List (Nat × Value)} {pc a : Nat} {st : List Value} {fs : List Value} {v : Value} (hX : Ok X zr_Jo cc n d c) (q0 : Nat) (he : w[q0]? = some (a, .inr (4, fs))) (hv : fs[0]? = some v) (hd : decode cc pc = .ok (.getfield 11, 3)) (k : Go X w L (pc + 3) (v :: st)) : Go X w L pc (.ref a :: st) := g_get hX zi_Jo 0 rfl zH_Jo_11 rfl q0 he hv hd k
theorem gf_Jo_15 {X : zX} {cc : ByteArray} {n d : Nat} {c : zY} {w : va_W} {L : List (Nat × Value)} {pc a : Nat} {st : List Value} {fs : List Value} {v : Value} (hX : Ok X zr_Jo cc n d c) (q0 : Nat) (he : w[q0]? = some (a, .inr (4, fs))) (hv : fs[1]? = some v) (hd : decode cc pc = .ok (.getfield 15, 3)) (k : Go X w L (pc + 3) (v :: st)) : Go X w L pc (.ref a :: st) := g_get hX zi_Jo 1 rfl zH_Jo_15 rfl q0 he hv hd k
theorem pf_Jo_15 {X : zX} {cc : ByteArray} {n d : Nat} {c : zY} {w w2 : va_W} {L : List (Nat × Value)} {pc a : Nat} {st : List Value} {fs : List Value} {v : Int32} (hX : Ok X zr_Jo cc n d c) (q0 : Nat) (he : w[q0]? = some (a, .inr (4, fs))) (hl0 : Nat.blt 1 fs.length = true) (hw : w.set q0 (a, .inr (4, fs.set 1 (.int v))) = w2) (hd : decode cc pc = .ok (.putfield 15, 3)) (k : Go X w2 L (pc + 3) st) : Go X w L pc (.int v :: .ref a :: st) := g_put zt_Jo zo_Jo zn_Jo hX zi_Jo 1 rfl zH_Jo_15 rfl rfl rfl rfl rfl q0 he hl0 hw hd k
theorem gf_EL_261 {X : zX} {cc : ByteArray} {n d : Nat} {c : zY} {w : va_W} {L : List (Nat × Value)} {pc a : Nat} {st : List Value} {fs : List Value} {v : Value} (hX : Ok X zr_EL cc n d c) (q0 : Nat) (he : w[q0]? = some (a, .inr (4, fs))) (hv : fs[1]? = some v) (hd : decode cc pc = .ok (.getfield 261, 3)) (k : Go X w L (pc + 3) (v :: st)) : Go X w L pc (.ref a :: st) := g_getN (host := "EncounterLedger") hX zi_Jo 1 rfl (List.mem_of_getElem? (i := 0) rfl) rfl q0 he hv hd k
theorem pf_EL_261 {X : zX} {cc : ByteArray} {n d : Nat} {c : zY} {w w2 : va_W} {L : List (Nat × Value)} {pc a : Nat} {st : List Value} {fs : List Value} {v : Int32} (hX : Ok X zr_EL cc n d c) (q0 : Nat) (he : w[q0]? = some (a, .inr (4, fs))) (hl0 : Nat.blt 1 fs.length = true) (hw : w.set q0 (a, .inr (4, fs.set 1 (.int v))) = w2) (hd : decode cc pc = .ok (.putfield 261, 3)) (k : Go X w2 L (pc + 3) st) : Go X w L pc (.int v :: .ref a :: st) := g_putN (host := "EncounterLedger") zt_Jo zo_Jo zn_Jo hX zi_Jo 1 rfl (List.mem_of_getElem? (i := 0) rfl) rfl rfl rfl rfl rfl q0 he hl0 hw hd k
theorem gf_Co_16 {X : zX} {cc : ByteArray} {n d : Nat} {c : zY} {w : va_W} {L : List (Nat × Value)} {pc a : Nat} {st : List Value} {fs : List Value} {v : Value} (hX : Ok X zr_Co cc n d c) (q0 : Nat) (he : w[q0]? = some (a, .inr (1, fs))) (hv : fs[0]? = some v) (hd : decode cc pc = .ok (.getfield 16, 3)) (k : Go X w L (pc + 3) (v :: st)) : Go X w L pc (.ref a :: st) := g_get hX zi_Co 0 rfl zH_Co_16 rfl q0 he hv hd k
theorem gf_Co_24 {X : zX} {cc : ByteArray} {n d : Nat} {c : zY} {w : va_W} {L : List (Nat × Value)} {pc a : Nat} {st : List Value} {fs : List Value} {v : Value} (hX : Ok X zr_Co cc n d c) (q0 : Nat) (he : w[q0]? = some (a, .inr (1, fs))) (hv : fs[1]? = some v) (hd : decode cc pc = .ok (.getfield 24, 3)) (k : Go X w L (pc + 3) (v :: st)) : Go X w L pc (.ref a :: st) := g_get hX zi_Co 1 rfl zH_Co_24 rfl q0 he hv hd k
theorem gf_Co_20 {X : zX} {cc : ByteArray} {n d : Nat} {c : zY} {w : va_W} {L : List (Nat × Value)} {pc a : Nat} {st : List Value} {fs : List Value} {v : Value} (hX : Ok X zr_Co cc n d c) (q0 : Nat) (he : w[q0]? = some (a, .inr (1, fs))) (hv : fs[2]? = some v) (hd : decode cc pc = .ok (.getfield 20, 3)) (k : Go X w L (pc + 3) (v :: st)) : Go X w L pc (.ref a :: st) := g_get hX zi_Co 2 rfl zH_Co_20 rfl q0 he hv hd k
theorem gf_Fi_16 {X : zX} {cc : ByteArray} {n d : Nat} {c : zY} {w : va_W} {L : List (Nat × Value)} {pc a : Nat} {st : List Value} {fs : List Value} {v : Value} (hX : Ok X zr_Fi cc n d c) (q0 : Nat) (he : w[q0]? = some (a, .inr (3, fs))) (hv : fs[0]? = some v) (hd : decode cc pc = .ok (.getfield 16, 3)) (k : Go X w L (pc + 3) (v :: st)) : Go X w L pc (.ref a :: st) := g_get hX zi_Fi 0 rfl zH_Fi_16 rfl q0 he hv hd k
theorem gf_Fi_20 {X : zX} {cc : ByteArray} {n d : Nat} {c : zY} {w : va_W} {L : List (Nat × Value)} {pc a : Nat} {st : List Value} {fs : List Value} {v : Value} (hX : Ok X zr_Fi cc n d c) (q0 : Nat) (he : w[q0]? = some (a, .inr (3, fs))) (hv : fs[1]? = some v) (hd : decode cc pc = .ok (.getfield 20, 3)) (k : Go X w L (pc + 3) (v :: st)) : Go X w L pc (.ref a :: st) := g_get hX zi_Fi 1 rfl zH_Fi_20 rfl q0 he hv hd k
theorem gf_Fi_24 {X : zX} {cc : ByteArray} {n d : Nat} {c : zY} {w : va_W} {L : List (Nat × Value)} {pc a : Nat} {st : List Value} {fs : List Value} {v : Value} (hX : Ok X zr_Fi cc n d c) (q0 : Nat) (he : w[q0]? = some (a, .inr (3, fs))) (hv : fs[2]? = some v) (hd : decode cc pc = .ok (.getfield 24, 3)) (k : Go X w L (pc + 3) (v :: st)) : Go X w L pc (.ref a :: st) := g_get hX zi_Fi 2 rfl zH_Fi_24 rfl q0 he hv hd k
theorem gf_Fi_67 {X : zX} {cc : ByteArray} {n d : Nat} {c : zY} {w : va_W} {L : List (Nat × Value)} {pc a : Nat} {st : List Value} {fs : List Value} {v : Value} (hX : Ok X zr_Fi cc n d c) (q0 : Nat) (he : w[q0]? = some (a, .inr (3, fs))) (hv : fs[3]? = some v) (hd : decode cc pc = .ok (.getfield 67, 3)) (k : Go X w L (pc + 3) (v :: st)) : Go X w L pc (.ref a :: st) := g_get hX zi_Fi 3 rfl zH_Fi_67 rfl q0 he hv hd k
theorem pf_Fi_67 {X : zX} {cc : ByteArray} {n d : Nat} {c : zY} {w w2 : va_W} {L : List (Nat × Value)} {pc a : Nat} {st : List Value} {fs : List Value} {v : Int32} (hX : Ok X zr_Fi cc n d c) (q0 : Nat) (he : w[q0]? = some (a, .inr (3, fs))) (hl0 : Nat.blt 3 fs.length = true) (hw : w.set q0 (a, .inr (3, fs.set 3 (.int v))) = w2) (hd : decode cc pc = .ok (.putfield 67, 3)) (k : Go X w2 L (pc + 3) st) : Go X w L pc (.int v :: .ref a :: st) := g_put zt_Fi zo_Fi zn_Fi hX zi_Fi 3 rfl zH_Fi_67 rfl rfl rfl rfl rfl q0 he hl0 hw hd k
theorem gf_EL_290 {X : zX} {cc : ByteArray} {n d : Nat} {c : zY} {w : va_W} {L : List (Nat × Value)} {pc a : Nat} {st : List Value} {fs : List Value} {v : Value} (hX : Ok X zr_EL cc n d c) (q0 : Nat) (he : w[q0]? = some (a, .inr (3, fs))) (hv : fs[3]? = some v) (hd : decode cc pc = .ok (.getfield 290, 3)) (k : Go X w L (pc + 3) (v :: st)) : Go X w L pc (.ref a :: st) := g_getN (host := "EncounterLedger") hX zi_Fi 3 rfl (List.mem_of_getElem? (i := 1) rfl) rfl q0 he hv hd k
theorem pf_EL_290 {X : zX} {cc : ByteArray} {n d : Nat} {c : zY} {w w2 : va_W} {L : List (Nat × Value)} {pc a : Nat} {st : List Value} {fs : List Value} {v : Int32} (hX : Ok X zr_EL cc n d c) (q0 : Nat) (he : w[q0]? = some (a, .inr (3, fs))) (hl0 : Nat.blt 3 fs.length = true) (hw : w.set q0 (a, .inr (3, fs.set 3 (.int v))) = w2) (hd : decode cc pc = .ok (.putfield 290, 3)) (k : Go X w2 L (pc + 3) st) : Go X w L pc (.int v :: .ref a :: st) := g_putN (host := "EncounterLedger") zt_Fi zo_Fi zn_Fi hX zi_Fi 3 rfl (List.mem_of_getElem? (i := 1) rfl) rfl rfl rfl rfl rfl q0 he hl0 hw hd k
theorem gf_Fi_85 {X : zX} {cc : ByteArray} {n d : Nat} {c : zY} {w : va_W} {L : List (Nat × Value)} {pc a : Nat} {st : List Value} {fs : List Value} {v : Value} (hX : Ok X zr_Fi cc n d c) (q0 : Nat) (he : w[q0]? = some (a, .inr (3, fs))) (hv : fs[4]? = some v) (hd : decode cc pc = .ok (.getfield 85, 3)) (k : Go X w L (pc + 3) (v :: st)) : Go X w L pc (.ref a :: st) := g_get hX zi_Fi 4 rfl zH_Fi_85 rfl q0 he hv hd k
theorem pf_Fi_85 {X : zX} {cc : ByteArray} {n d : Nat} {c : zY} {w w2 : va_W} {L : List (Nat × Value)} {pc a : Nat} {st : List Value} {fs : List Value} {v : Int32} (hX : Ok X zr_Fi cc n d c) (q0 : Nat) (he : w[q0]? = some (a, .inr (3, fs))) (hl0 : Nat.blt 4 fs.length = true) (hw : w.set q0 (a, .inr (3, fs.set 4 (.int v))) = w2) (hd : decode cc pc = .ok (.putfield 85, 3)) (k : Go X w2 L (pc + 3) st) : Go X w L pc (.int v :: .ref a :: st) := g_put zt_Fi zo_Fi zn_Fi hX zi_Fi 4 rfl zH_Fi_85 rfl rfl rfl rfl rfl q0 he hl0 hw hd k
theorem gf_EL_293 {X : zX} {cc : ByteArray} {n d : Nat} {c : zY} {w : va_W} {L : List (Nat × Value)} {pc a : Nat} {st : List Value} {fs : List Value} {v : Value} (hX : Ok X zr_EL cc n d c) (q0 : Nat) (he : w[q0]? = some (a, .inr (3, fs))) (hv : fs[4]? = some v) (hd : decode cc pc = .ok (.getfield 293, 3)) (k : Go X w L (pc + 3) (v :: st)) : Go X w L pc (.ref a :: st) := g_getN (host := "EncounterLedger") hX zi_Fi 4 rfl (List.mem_of_getElem? (i := 2) rfl) rfl q0 he hv hd k
theorem pf_EL_293 {X : zX} {cc : ByteArray} {n d : Nat} {c : zY} {w w2 : va_W} {L : List (Nat × Value)} {pc a : Nat} {st : List Value} {fs : List Value} {v : Int32} (hX : Ok X zr_EL cc n d c) (q0 : Nat) (he : w[q0]? = some (a, .inr (3, fs))) (hl0 : Nat.blt 4 fs.length = true) (hw : w.set q0 (a, .inr (3, fs.set 4 (.int v))) = w2) (hd : decode cc pc = .ok (.putfield 293, 3)) (k : Go X w2 L (pc + 3) st) : Go X w L pc (.int v :: .ref a :: st) := g_putN (host := "EncounterLedger") zt_Fi zo_Fi zn_Fi hX zi_Fi 4 rfl (List.mem_of_getElem? (i := 2) rfl) rfl rfl rfl rfl rfl q0 he hl0 hw hd k
theorem gf_En_14 {X : zX} {cc : ByteArray} {n d : Nat} {c : zY} {w : va_W} {L : List (Nat × Value)} {pc a : Nat} {st : List Value} {fs : List Value} {v : Value} (hX : Ok X zr_En cc n d c) (q0 : Nat) (he : w[q0]? = some (a, .inr (2, fs))) (hv : fs[0]? = some v) (hd : decode cc pc = .ok (.getfield 14, 3)) (k : Go X w L (pc + 3) (v :: st)) : Go X w L pc (.ref a :: st) := g_get hX zi_En 0 rfl zH_En_14 rfl q0 he hv hd k
theorem gf_En_20 {X : zX} {cc : ByteArray} {n d : Nat} {c : zY} {w : va_W} {L : List (Nat × Value)} {pc a : Nat} {st : List Value} {fs : List Value} {v : Value} (hX : Ok X zr_En cc n d c) (q0 : Nat) (he : w[q0]? = some (a, .inr (2, fs))) (hv : fs[1]? = some v) (hd : decode cc pc = .ok (.getfield 20, 3)) (k : Go X w L (pc + 3) (v :: st)) : Go X w L pc (.ref a :: st) := g_get hX zi_En 1 rfl zH_En_20 rfl q0 he hv hd k
theorem gf_En_24 {X : zX} {cc : ByteArray} {n d : Nat} {c : zY} {w : va_W} {L : List (Nat × Value)} {pc a : Nat} {st : List Value} {fs : List Value} {v : Value} (hX : Ok X zr_En cc n d c) (q0 : Nat) (he : w[q0]? = some (a, .inr (2, fs))) (hv : fs[2]? = some v) (hd : decode cc pc = .ok (.getfield 24, 3)) (k : Go X w L (pc + 3) (v :: st)) : Go X w L pc (.ref a :: st) := g_get hX zi_En 2 rfl zH_En_24 rfl q0 he hv hd k
theorem gf_En_28 {X : zX} {cc : ByteArray} {n d : Nat} {c : zY} {w : va_W} {L : List (Nat × Value)} {pc a : Nat} {st : List Value} {fs : List Value} {v : Value} (hX : Ok X zr_En cc n d c) (q0 : Nat) (he : w[q0]? = some (a, .inr (2, fs))) (hv : fs[3]? = some v) (hd : decode cc pc = .ok (.getfield 28, 3)) (k : Go X w L (pc + 3) (v :: st)) : Go X w L pc (.ref a :: st) := g_get hX zi_En 3 rfl zH_En_28 rfl q0 he hv hd k
theorem gf_En_32 {X : zX} {cc : ByteArray} {n d : Nat} {c : zY} {w : va_W} {L : List (Nat × Value)} {pc a : Nat} {st : List Value} {fs : List Value} {v : Value} (hX : Ok X zr_En cc n d c) (q0 : Nat) (he : w[q0]? = some (a, .inr (2, fs))) (hv : fs[4]? = some v) (hd : decode cc pc = .ok (.getfield 32, 3)) (k : Go X w L (pc + 3) (v :: st)) : Go X w L pc (.ref a :: st) := g_get hX zi_En 4 rfl zH_En_32 rfl q0 he hv hd k
theorem pf_En_32 {X : zX} {cc : ByteArray} {n d : Nat} {c : zY} {w w2 : va_W} {L : List (Nat × Value)} {pc a : Nat} {st : List Value} {fs : List Value} {v : Int32} (hX : Ok X zr_En cc n d c) (q0 : Nat) (he : w[q0]? = some (a, .inr (2, fs))) (hl0 : Nat.blt 4 fs.length = true) (hw : w.set q0 (a, .inr (2, fs.set 4 (.int v))) = w2) (hd : decode cc pc = .ok (.putfield 32, 3)) (k : Go X w2 L (pc + 3) st) : Go X w L pc (.int v :: .ref a :: st) := g_put zt_En zo_En zn_En hX zi_En 4 rfl zH_En_32 rfl rfl rfl rfl rfl q0 he hl0 hw hd k
theorem gf_EL_123 {X : zX} {cc : ByteArray} {n d : Nat} {c : zY} {w : va_W} {L : List (Nat × Value)} {pc a : Nat} {st : List Value} {fs : List Value} {v : Value} (hX : Ok X zr_EL cc n d c) (q0 : Nat) (he : w[q0]? = some (a, .inr (2, fs))) (hv : fs[4]? = some v) (hd : decode cc pc = .ok (.getfield 123, 3)) (k : Go X w L (pc + 3) (v :: st)) : Go X w L pc (.ref a :: st) := g_getN (host := "EncounterLedger") hX zi_En 4 rfl (List.mem_of_getElem? (i := 3) rfl) rfl q0 he hv hd k
theorem pf_EL_123 {X : zX} {cc : ByteArray} {n d : Nat} {c : zY} {w w2 : va_W} {L : List (Nat × Value)} {pc a : Nat} {st : List Value} {fs : List Value} {v : Int32} (hX : Ok X zr_EL cc n d c) (q0 : Nat) (he : w[q0]? = some (a, .inr (2, fs))) (hl0 : Nat.blt 4 fs.length = true) (hw : w.set q0 (a, .inr (2, fs.set 4 (.int v))) = w2) (hd : decode cc pc = .ok (.putfield 123, 3)) (k : Go X w2 L (pc + 3) st) : Go X w L pc (.int v :: .ref a :: st) := g_putN (host := "EncounterLedger") zt_En zo_En zn_En hX zi_En 4 rfl (List.mem_of_getElem? (i := 3) rfl) rfl rfl rfl rfl rfl q0 he hl0 hw hd k
theorem gf_En_36 {X : zX} {cc : ByteArray} {n d : Nat} {c : zY} {w : va_W} {L : List (Nat × Value)} {pc a : Nat} {st : List Value} {fs : List Value} {v : Value} (hX : Ok X zr_En cc n d c) (q0 : Nat) (he : w[q0]? = some (a, .inr (2, fs))) (hv : fs[5]? = some v) (hd : decode cc pc = .ok (.getfield 36, 3)) (k : Go X w L (pc + 3) (v :: st)) : Go X w L pc (.ref a :: st) := g_get hX zi_En 5 rfl zH_En_36 rfl q0 he hv hd k
theorem pf_En_36 {X : zX} {cc : ByteArray} {n d : Nat} {c : zY} {w w2 : va_W} {L : List (Nat × Value)} {pc a : Nat} {st : List Value} {fs : List Value} {v : Int32} (hX : Ok X zr_En cc n d c) (q0 : Nat) (he : w[q0]? = some (a, .inr (2, fs))) (hl0 : Nat.blt 5 fs.length = true) (hw : w.set q0 (a, .inr (2, fs.set 5 (.int v))) = w2) (hd : decode cc pc = .ok (.putfield 36, 3)) (k : Go X w2 L (pc + 3) st) : Go X w L pc (.int v :: .ref a :: st) := g_put zt_En zo_En zn_En hX zi_En 5 rfl zH_En_36 rfl rfl rfl rfl rfl q0 he hl0 hw hd k
theorem gf_EL_151 {X : zX} {cc : ByteArray} {n d : Nat} {c : zY} {w : va_W} {L : List (Nat × Value)} {pc a : Nat} {st : List Value} {fs : List Value} {v : Value} (hX : Ok X zr_EL cc n d c) (q0 : Nat) (he : w[q0]? = some (a, .inr (2, fs))) (hv : fs[6]? = some v) (hd : decode cc pc = .ok (.getfield 151, 3)) (k : Go X w L (pc + 3) (v :: st)) : Go X w L pc (.ref a :: st) := g_getN (host := "EncounterLedger") hX zi_En 6 rfl (List.mem_of_getElem? (i := 4) rfl) rfl q0 he hv hd k
theorem pf_EL_151 {X : zX} {cc : ByteArray} {n d : Nat} {c : zY} {w w2 : va_W} {L : List (Nat × Value)} {pc a : Nat} {st : List Value} {fs : List Value} {v : Int32} (hX : Ok X zr_EL cc n d c) (q0 : Nat) (he : w[q0]? = some (a, .inr (2, fs))) (hl0 : Nat.blt 6 fs.length = true) (hw : w.set q0 (a, .inr (2, fs.set 6 (.int v))) = w2) (hd : decode cc pc = .ok (.putfield 151, 3)) (k : Go X w2 L (pc + 3) st) : Go X w L pc (.int v :: .ref a :: st) := g_putN (host := "EncounterLedger") zt_En zo_En zn_En hX zi_En 6 rfl (List.mem_of_getElem? (i := 4) rfl) rfl rfl rfl rfl rfl q0 he hl0 hw hd k
theorem gf_En_84 {X : zX} {cc : ByteArray} {n d : Nat} {c : zY} {w : va_W} {L : List (Nat × Value)} {pc a : Nat} {st : List Value} {fs : List Value} {v : Value} (hX : Ok X zr_En cc n d c) (q0 : Nat) (he : w[q0]? = some (a, .inr (2, fs))) (hv : fs[6]? = some v) (hd : decode cc pc = .ok (.getfield 84, 3)) (k : Go X w L (pc + 3) (v :: st)) : Go X w L pc (.ref a :: st) := g_get hX zi_En 6 rfl zH_En_84 rfl q0 he hv hd k
theorem pf_En_84 {X : zX} {cc : ByteArray} {n d : Nat} {c : zY} {w w2 : va_W} {L : List (Nat × Value)} {pc a : Nat} {st : List Value} {fs : List Value} {v : Int32} (hX : Ok X zr_En cc n d c) (q0 : Nat) (he : w[q0]? = some (a, .inr (2, fs))) (hl0 : Nat.blt 6 fs.length = true) (hw : w.set q0 (a, .inr (2, fs.set 6 (.int v))) = w2) (hd : decode cc pc = .ok (.putfield 84, 3)) (k : Go X w2 L (pc + 3) st) : Go X w L pc (.int v :: .ref a :: st) := g_put zt_En zo_En zn_En hX zi_En 6 rfl zH_En_84 rfl rfl rfl rfl rfl q0 he hl0 hw hd k
theorem gf_En_87 {X : zX} {cc : ByteArray} {n d : Nat} {c : zY} {w : va_W} {L : List (Nat × Value)} {pc a : Nat} {st : List Value} {fs : List Value} {v : Value} (hX : Ok X zr_En cc n d c) (q0 : Nat) (he : w[q0]? = some (a, .inr (2, fs))) (hv : fs[7]? = some v) (hd : decode cc pc = .ok (.getfield 87, 3)) (k : Go X w L (pc + 3) (v :: st)) : Go X w L pc (.ref a :: st) := g_get hX zi_En 7 rfl zH_En_87 rfl q0 he hv hd k
theorem pf_En_87 {X : zX} {cc : ByteArray} {n d : Nat} {c : zY} {w w2 : va_W} {L : List (Nat × Value)} {pc a : Nat} {st : List Value} {fs : List Value} {v : Int32} (hX : Ok X zr_En cc n d c) (hb : v = 0 ∨ v = 1) (q0 : Nat) (he : w[q0]? = some (a, .inr (2, fs))) (hl0 : Nat.blt 7 fs.length = true) (hw : w.set q0 (a, .inr (2, fs.set 7 (.int v))) = w2) (hd : decode cc pc = .ok (.putfield 87, 3)) (k : Go X w2 L (pc + 3) st) : Go X w L pc (.int v :: .ref a :: st) := g_put zt_En zo_En zn_En hX zi_En 7 rfl zH_En_87 rfl rfl rfl (zbn hb) (zbf hb) q0 he hl0 hw hd k
theorem gf_EL_244 {X : zX} {cc : ByteArray} {n d : Nat} {c : zY} {w : va_W} {L : List (Nat × Value)} {pc a : Nat} {st : List Value} {fs : List Value} {v : Value} (hX : Ok X zr_EL cc n d c) (q0 : Nat) (he : w[q0]? = some (a, .inr (2, fs))) (hv : fs[7]? = some v) (hd : decode cc pc = .ok (.getfield 244, 3)) (k : Go X w L (pc + 3) (v :: st)) : Go X w L pc (.ref a :: st) := g_getN (host := "EncounterLedger") hX zi_En 7 rfl (List.mem_of_getElem? (i := 5) rfl) rfl q0 he hv hd k
theorem pf_EL_244 {X : zX} {cc : ByteArray} {n d : Nat} {c : zY} {w w2 : va_W} {L : List (Nat × Value)} {pc a : Nat} {st : List Value} {fs : List Value} {v : Int32} (hX : Ok X zr_EL cc n d c) (hb : v = 0 ∨ v = 1) (q0 : Nat) (he : w[q0]? = some (a, .inr (2, fs))) (hl0 : Nat.blt 7 fs.length = true) (hw : w.set q0 (a, .inr (2, fs.set 7 (.int v))) = w2) (hd : decode cc pc = .ok (.putfield 244, 3)) (k : Go X w2 L (pc + 3) st) : Go X w L pc (.int v :: .ref a :: st) := g_putN (host := "EncounterLedger") zt_En zo_En zn_En hX zi_En 7 rfl (List.mem_of_getElem? (i := 5) rfl) rfl rfl rfl (zbn hb) (zbf hb) q0 he hl0 hw hd k
theorem gf_En_67 {X : zX} {cc : ByteArray} {n d : Nat} {c : zY} {w : va_W} {L : List (Nat × Value)} {pc a : Nat} {st : List Value} {fs : List Value} {v : Value} (hX : Ok X zr_En cc n d c) (q0 : Nat) (he : w[q0]? = some (a, .inr (2, fs))) (hv : fs[8]? = some v) (hd : decode cc pc = .ok (.getfield 67, 3)) (k : Go X w L (pc + 3) (v :: st)) : Go X w L pc (.ref a :: st) := g_get hX zi_En 8 rfl zH_En_67 rfl q0 he hv hd k
theorem pf_En_67 {X : zX} {cc : ByteArray} {n d : Nat} {c : zY} {w w2 : va_W} {L : List (Nat × Value)} {pc a : Nat} {st : List Value} {fs : List Value} {v : Int32} (hX : Ok X zr_En cc n d c) (q0 : Nat) (he : w[q0]? = some (a, .inr (2, fs))) (hl0 : Nat.blt 8 fs.length = true) (hw : w.set q0 (a, .inr (2, fs.set 8 (.int v))) = w2) (hd : decode cc pc = .ok (.putfield 67, 3)) (k : Go X w2 L (pc + 3) st) : Go X w L pc (.int v :: .ref a :: st) := g_put zt_En zo_En zn_En hX zi_En 8 rfl zH_En_67 rfl rfl rfl rfl rfl q0 he hl0 hw hd k
theorem gf_EL_296 {X : zX} {cc : ByteArray} {n d : Nat} {c : zY} {w : va_W} {L : List (Nat × Value)} {pc a : Nat} {st : List Value} {fs : List Value} {v : Value} (hX : Ok X zr_EL cc n d c) (q0 : Nat) (he : w[q0]? = some (a, .inr (2, fs))) (hv : fs[8]? = some v) (hd : decode cc pc = .ok (.getfield 296, 3)) (k : Go X w L (pc + 3) (v :: st)) : Go X w L pc (.ref a :: st) := g_getN (host := "EncounterLedger") hX zi_En 8 rfl (List.mem_of_getElem? (i := 6) rfl) rfl q0 he hv hd k
theorem pf_EL_296 {X : zX} {cc : ByteArray} {n d : Nat} {c : zY} {w w2 : va_W} {L : List (Nat × Value)} {pc a : Nat} {st : List Value} {fs : List Value} {v : Int32} (hX : Ok X zr_EL cc n d c) (q0 : Nat) (he : w[q0]? = some (a, .inr (2, fs))) (hl0 : Nat.blt 8 fs.length = true) (hw : w.set q0 (a, .inr (2, fs.set 8 (.int v))) = w2) (hd : decode cc pc = .ok (.putfield 296, 3)) (k : Go X w2 L (pc + 3) st) : Go X w L pc (.int v :: .ref a :: st) := g_putN (host := "EncounterLedger") zt_En zo_En zn_En hX zi_En 8 rfl (List.mem_of_getElem? (i := 6) rfl) rfl rfl rfl rfl rfl q0 he hl0 hw hd k
theorem gf_En_91 {X : zX} {cc : ByteArray} {n d : Nat} {c : zY} {w : va_W} {L : List (Nat × Value)} {pc a : Nat} {st : List Value} {fs : List Value} {v : Value} (hX : Ok X zr_En cc n d c) (q0 : Nat) (he : w[q0]? = some (a, .inr (2, fs))) (hv : fs[9]? = some v) (hd : decode cc pc = .ok (.getfield 91, 3)) (k : Go X w L (pc + 3) (v :: st)) : Go X w L pc (.ref a :: st) := g_get hX zi_En 9 rfl zH_En_91 rfl q0 he hv hd k
theorem pf_En_91 {X : zX} {cc : ByteArray} {n d : Nat} {c : zY} {w w2 : va_W} {L : List (Nat × Value)} {pc a : Nat} {st : List Value} {fs : List Value} {v : Int32} (hX : Ok X zr_En cc n d c) (q0 : Nat) (he : w[q0]? = some (a, .inr (2, fs))) (hl0 : Nat.blt 9 fs.length = true) (hw : w.set q0 (a, .inr (2, fs.set 9 (.int v))) = w2) (hd : decode cc pc = .ok (.putfield 91, 3)) (k : Go X w2 L (pc + 3) st) : Go X w L pc (.int v :: .ref a :: st) := g_put zt_En zo_En zn_En hX zi_En 9 rfl zH_En_91 rfl rfl rfl rfl rfl q0 he hl0 hw hd k
theorem gf_EL_299 {X : zX} {cc : ByteArray} {n d : Nat} {c : zY} {w : va_W} {L : List (Nat × Value)} {pc a : Nat} {st : List Value} {fs : List Value} {v : Value} (hX : Ok X zr_EL cc n d c) (q0 : Nat) (he : w[q0]? = some (a, .inr (2, fs))) (hv : fs[9]? = some v) (hd : decode cc pc = .ok (.getfield 299, 3)) (k : Go X w L (pc + 3) (v :: st)) : Go X w L pc (.ref a :: st) := g_getN (host := "EncounterLedger") hX zi_En 9 rfl (List.mem_of_getElem? (i := 7) rfl) rfl q0 he hv hd k
theorem pf_EL_299 {X : zX} {cc : ByteArray} {n d : Nat} {c : zY} {w w2 : va_W} {L : List (Nat × Value)} {pc a : Nat} {st : List Value} {fs : List Value} {v : Int32} (hX : Ok X zr_EL cc n d c) (q0 : Nat) (he : w[q0]? = some (a, .inr (2, fs))) (hl0 : Nat.blt 9 fs.length = true) (hw : w.set q0 (a, .inr (2, fs.set 9 (.int v))) = w2) (hd : decode cc pc = .ok (.putfield 299, 3)) (k : Go X w2 L (pc + 3) st) : Go X w L pc (.int v :: .ref a :: st) := g_putN (host := "EncounterLedger") zt_En zo_En zn_En hX zi_En 9 rfl (List.mem_of_getElem? (i := 7) rfl) rfl rfl rfl rfl rfl q0 he hl0 hw hd k
theorem gf_En_117 {X : zX} {cc : ByteArray} {n d : Nat} {c : zY} {w : va_W} {L : List (Nat × Value)} {pc a : Nat} {st : List Value} {fs : List Value} {v : Value} (hX : Ok X zr_En cc n d c) (q0 : Nat) (he : w[q0]? = some (a, .inr (2, fs))) (hv : fs[10]? = some v) (hd : decode cc pc = .ok (.getfield 117, 3)) (k : Go X w L (pc + 3) (v :: st)) : Go X w L pc (.ref a :: st) := g_get hX zi_En 10 rfl zH_En_117 rfl q0 he hv hd k
theorem pf_En_117 {X : zX} {cc : ByteArray} {n d : Nat} {c : zY} {w w2 : va_W} {L : List (Nat × Value)} {pc a : Nat} {st : List Value} {fs : List Value} {v : Int32} (hX : Ok X zr_En cc n d c) (q0 : Nat) (he : w[q0]? = some (a, .inr (2, fs))) (hl0 : Nat.blt 10 fs.length = true) (hw : w.set q0 (a, .inr (2, fs.set 10 (.int v))) = w2) (hd : decode cc pc = .ok (.putfield 117, 3)) (k : Go X w2 L (pc + 3) st) : Go X w L pc (.int v :: .ref a :: st) := g_put zt_En zo_En zn_En hX zi_En 10 rfl zH_En_117 rfl rfl rfl rfl rfl q0 he hl0 hw hd k
theorem gf_EL_302 {X : zX} {cc : ByteArray} {n d : Nat} {c : zY} {w : va_W} {L : List (Nat × Value)} {pc a : Nat} {st : List Value} {fs : List Value} {v : Value} (hX : Ok X zr_EL cc n d c) (q0 : Nat) (he : w[q0]? = some (a, .inr (2, fs))) (hv : fs[10]? = some v) (hd : decode cc pc = .ok (.getfield 302, 3)) (k : Go X w L (pc + 3) (v :: st)) : Go X w L pc (.ref a :: st) := g_getN (host := "EncounterLedger") hX zi_En 10 rfl (List.mem_of_getElem? (i := 8) rfl) rfl q0 he hv hd k
theorem pf_EL_302 {X : zX} {cc : ByteArray} {n d : Nat} {c : zY} {w w2 : va_W} {L : List (Nat × Value)} {pc a : Nat} {st : List Value} {fs : List Value} {v : Int32} (hX : Ok X zr_EL cc n d c) (q0 : Nat) (he : w[q0]? = some (a, .inr (2, fs))) (hl0 : Nat.blt 10 fs.length = true) (hw : w.set q0 (a, .inr (2, fs.set 10 (.int v))) = w2) (hd : decode cc pc = .ok (.putfield 302, 3)) (k : Go X w2 L (pc + 3) st) : Go X w L pc (.int v :: .ref a :: st) := g_putN (host := "EncounterLedger") zt_En zo_En zn_En hX zi_En 10 rfl (List.mem_of_getElem? (i := 8) rfl) rfl rfl rfl rfl rfl q0 he hl0 hw hd k
theorem gf_St_38 {X : zX} {cc : ByteArray} {n d : Nat} {c : zY} {w : va_W} {L : List (Nat × Value)} {pc a : Nat} {st : List Value} {fs : List Value} {v : Value} (hX : Ok X zr_St cc n d c) (q0 : Nat) (he : w[q0]? = some (a, .inr (5, fs))) (hv : fs[0]? = some v) (hd : decode cc pc = .ok (.getfield 38, 3)) (k : Go X w L (pc + 3) (v :: st)) : Go X w L pc (.ref a :: st) := g_get hX zi_St 0 rfl zH_St_38 rfl q0 he hv hd k
theorem gf_EL_257 {X : zX} {cc : ByteArray} {n d : Nat} {c : zY} {w : va_W} {L : List (Nat × Value)} {pc a : Nat} {st : List Value} {fs : List Value} {v : Value} (hX : Ok X zr_EL cc n d c) (q0 : Nat) (he : w[q0]? = some (a, .inr (5, fs))) (hv : fs[0]? = some v) (hd : decode cc pc = .ok (.getfield 257, 3)) (k : Go X w L (pc + 3) (v :: st)) : Go X w L pc (.ref a :: st) := g_getN (host := "EncounterLedger") hX zi_St 0 rfl (List.mem_of_getElem? (i := 9) rfl) rfl q0 he hv hd k
theorem gf_St_42 {X : zX} {cc : ByteArray} {n d : Nat} {c : zY} {w : va_W} {L : List (Nat × Value)} {pc a : Nat} {st : List Value} {fs : List Value} {v : Value} (hX : Ok X zr_St cc n d c) (q0 : Nat) (he : w[q0]? = some (a, .inr (5, fs))) (hv : fs[1]? = some v) (hd : decode cc pc = .ok (.getfield 42, 3)) (k : Go X w L (pc + 3) (v :: st)) : Go X w L pc (.ref a :: st) := g_get hX zi_St 1 rfl zH_St_42 rfl q0 he hv hd k
theorem gf_EL_223 {X : zX} {cc : ByteArray} {n d : Nat} {c : zY} {w : va_W} {L : List (Nat × Value)} {pc a : Nat} {st : List Value} {fs : List Value} {v : Value} (hX : Ok X zr_EL cc n d c) (q0 : Nat) (he : w[q0]? = some (a, .inr (5, fs))) (hv : fs[1]? = some v) (hd : decode cc pc = .ok (.getfield 223, 3)) (k : Go X w L (pc + 3) (v :: st)) : Go X w L pc (.ref a :: st) := g_getN (host := "EncounterLedger") hX zi_St 1 rfl (List.mem_of_getElem? (i := 10) rfl) rfl q0 he hv hd k
theorem gf_St_46 {X : zX} {cc : ByteArray} {n d : Nat} {c : zY} {w : va_W} {L : List (Nat × Value)} {pc a : Nat} {st : List Value} {fs : List Value} {v : Value} (hX : Ok X zr_St cc n d c) (q0 : Nat) (he : w[q0]? = some (a, .inr (5, fs))) (hv : fs[2]? = some v) (hd : decode cc pc = .ok (.getfield 46, 3)) (k : Go X w L (pc + 3) (v :: st)) : Go X w L pc (.ref a :: st) := g_get hX zi_St 2 rfl zH_St_46 rfl q0 he hv hd k
theorem gf_Wa_26 {X : zX} {cc : ByteArray} {n d : Nat} {c : zY} {w : va_W} {L : List (Nat × Value)} {pc a : Nat} {st : List Value} {fs : List Value} {v : Value} (hX : Ok X zr_Wa cc n d c) (q0 : Nat) (he : w[q0]? = some (a, .inr (5, fs))) (hv : fs[2]? = some v) (hd : decode cc pc = .ok (.getfield 26, 3)) (k : Go X w L (pc + 3) (v :: st)) : Go X w L pc (.ref a :: st) := g_getN (host := "EncounterLedger") hX zi_St 2 rfl (List.mem_of_getElem? (i := 11) rfl) rfl q0 he hv hd k
theorem gf_EL_59 {X : zX} {cc : ByteArray} {n d : Nat} {c : zY} {w : va_W} {L : List (Nat × Value)} {pc a : Nat} {st : List Value} {fs : List Value} {v : Value} (hX : Ok X zr_EL cc n d c) (q0 : Nat) (he : w[q0]? = some (a, .inr (5, fs))) (hv : fs[2]? = some v) (hd : decode cc pc = .ok (.getfield 59, 3)) (k : Go X w L (pc + 3) (v :: st)) : Go X w L pc (.ref a :: st) := g_getN (host := "EncounterLedger") hX zi_St 2 rfl (List.mem_of_getElem? (i := 12) rfl) rfl q0 he hv hd k
theorem gf_St_55 {X : zX} {cc : ByteArray} {n d : Nat} {c : zY} {w : va_W} {L : List (Nat × Value)} {pc a : Nat} {st : List Value} {fs : List Value} {v : Value} (hX : Ok X zr_St cc n d c) (q0 : Nat) (he : w[q0]? = some (a, .inr (5, fs))) (hv : fs[3]? = some v) (hd : decode cc pc = .ok (.getfield 55, 3)) (k : Go X w L (pc + 3) (v :: st)) : Go X w L pc (.ref a :: st) := g_get hX zi_St 3 rfl zH_St_55 rfl q0 he hv hd k
theorem gf_EL_97 {X : zX} {cc : ByteArray} {n d : Nat} {c : zY} {w : va_W} {L : List (Nat × Value)} {pc a : Nat} {st : List Value} {fs : List Value} {v : Value} (hX : Ok X zr_EL cc n d c) (q0 : Nat) (he : w[q0]? = some (a, .inr (5, fs))) (hv : fs[3]? = some v) (hd : decode cc pc = .ok (.getfield 97, 3)) (k : Go X w L (pc + 3) (v :: st)) : Go X w L pc (.ref a :: st) := g_getN (host := "EncounterLedger") hX zi_St 3 rfl (List.mem_of_getElem? (i := 13) rfl) rfl q0 he hv hd k
theorem gf_St_14 {X : zX} {cc : ByteArray} {n d : Nat} {c : zY} {w : va_W} {L : List (Nat × Value)} {pc a : Nat} {st : List Value} {fs : List Value} {v : Value} (hX : Ok X zr_St cc n d c) (q0 : Nat) (he : w[q0]? = some (a, .inr (5, fs))) (hv : fs[4]? = some v) (hd : decode cc pc = .ok (.getfield 14, 3)) (k : Go X w L (pc + 3) (v :: st)) : Go X w L pc (.ref a :: st) := g_get hX zi_St 4 rfl zH_St_14 rfl q0 he hv hd k
theorem gf_Wa_46 {X : zX} {cc : ByteArray} {n d : Nat} {c : zY} {w : va_W} {L : List (Nat × Value)} {pc a : Nat} {st : List Value} {fs : List Value} {v : Value} (hX : Ok X zr_Wa cc n d c) (q0 : Nat) (he : w[q0]? = some (a, .inr (5, fs))) (hv : fs[4]? = some v) (hd : decode cc pc = .ok (.getfield 46, 3)) (k : Go X w L (pc + 3) (v :: st)) : Go X w L pc (.ref a :: st) := g_getN (host := "EncounterLedger") hX zi_St 4 rfl (List.mem_of_getElem? (i := 14) rfl) rfl q0 he hv hd k
theorem gf_EL_80 {X : zX} {cc : ByteArray} {n d : Nat} {c : zY} {w : va_W} {L : List (Nat × Value)} {pc a : Nat} {st : List Value} {fs : List Value} {v : Value} (hX : Ok X zr_EL cc n d c) (q0 : Nat) (he : w[q0]? = some (a, .inr (5, fs))) (hv : fs[4]? = some v) (hd : decode cc pc = .ok (.getfield 80, 3)) (k : Go X w L (pc + 3) (v :: st)) : Go X w L pc (.ref a :: st) := g_getN (host := "EncounterLedger") hX zi_St 4 rfl (List.mem_of_getElem? (i := 15) rfl) rfl q0 he hv hd k
theorem gf_St_22 {X : zX} {cc : ByteArray} {n d : Nat} {c : zY} {w : va_W} {L : List (Nat × Value)} {pc a : Nat} {st : List Value} {fs : List Value} {v : Value} (hX : Ok X zr_St cc n d c) (q0 : Nat) (he : w[q0]? = some (a, .inr (5, fs))) (hv : fs[5]? = some v) (hd : decode cc pc = .ok (.getfield 22, 3)) (k : Go X w L (pc + 3) (v :: st)) : Go X w L pc (.ref a :: st) := g_get hX zi_St 5 rfl zH_St_22 rfl q0 he hv hd k
theorem gf_EL_179 {X : zX} {cc : ByteArray} {n d : Nat} {c : zY} {w : va_W} {L : List (Nat × Value)} {pc a : Nat} {st : List Value} {fs : List Value} {v : Value} (hX : Ok X zr_EL cc n d c) (q0 : Nat) (he : w[q0]? = some (a, .inr (5, fs))) (hv : fs[5]? = some v) (hd : decode cc pc = .ok (.getfield 179, 3)) (k : Go X w L (pc + 3) (v :: st)) : Go X w L pc (.ref a :: st) := g_getN (host := "EncounterLedger") hX zi_St 5 rfl (List.mem_of_getElem? (i := 16) rfl) rfl q0 he hv hd k
theorem gf_St_83 {X : zX} {cc : ByteArray} {n d : Nat} {c : zY} {w : va_W} {L : List (Nat × Value)} {pc a : Nat} {st : List Value} {fs : List Value} {v : Value} (hX : Ok X zr_St cc n d c) (q0 : Nat) (he : w[q0]? = some (a, .inr (5, fs))) (hv : fs[6]? = some v) (hd : decode cc pc = .ok (.getfield 83, 3)) (k : Go X w L (pc + 3) (v :: st)) : Go X w L pc (.ref a :: st) := g_get hX zi_St 6 rfl zH_St_83 rfl q0 he hv hd k
theorem pf_St_83 {X : zX} {cc : ByteArray} {n d : Nat} {c : zY} {w w2 : va_W} {L : List (Nat × Value)} {pc a : Nat} {st : List Value} {fs : List Value} {v : Int32} (hX : Ok X zr_St cc n d c) (q0 : Nat) (he : w[q0]? = some (a, .inr (5, fs))) (hl0 : Nat.blt 6 fs.length = true) (hw : w.set q0 (a, .inr (5, fs.set 6 (.int v))) = w2) (hd : decode cc pc = .ok (.putfield 83, 3)) (k : Go X w2 L (pc + 3) st) : Go X w L pc (.int v :: .ref a :: st) := g_put zt_St zo_St zn_St hX zi_St 6 rfl zH_St_83 rfl rfl rfl rfl rfl q0 he hl0 hw hd k
theorem gf_EL_214 {X : zX} {cc : ByteArray} {n d : Nat} {c : zY} {w : va_W} {L : List (Nat × Value)} {pc a : Nat} {st : List Value} {fs : List Value} {v : Value} (hX : Ok X zr_EL cc n d c) (q0 : Nat) (he : w[q0]? = some (a, .inr (5, fs))) (hv : fs[6]? = some v) (hd : decode cc pc = .ok (.getfield 214, 3)) (k : Go X w L (pc + 3) (v :: st)) : Go X w L pc (.ref a :: st) := g_getN (host := "EncounterLedger") hX zi_St 6 rfl (List.mem_of_getElem? (i := 17) rfl) rfl q0 he hv hd k
theorem pf_EL_214 {X : zX} {cc : ByteArray} {n d : Nat} {c : zY} {w w2 : va_W} {L : List (Nat × Value)} {pc a : Nat} {st : List Value} {fs : List Value} {v : Int32} (hX : Ok X zr_EL cc n d c) (q0 : Nat) (he : w[q0]? = some (a, .inr (5, fs))) (hl0 : Nat.blt 6 fs.length = true) (hw : w.set q0 (a, .inr (5, fs.set 6 (.int v))) = w2) (hd : decode cc pc = .ok (.putfield 214, 3)) (k : Go X w2 L (pc + 3) st) : Go X w L pc (.int v :: .ref a :: st) := g_putN (host := "EncounterLedger") zt_St zo_St zn_St hX zi_St 6 rfl (List.mem_of_getElem? (i := 17) rfl) rfl rfl rfl rfl rfl q0 he hl0 hw hd k
theorem gf_Ch_11 {X : zX} {cc : ByteArray} {n d : Nat} {c : zY} {w : va_W} {L : List (Nat × Value)} {pc a : Nat} {st : List Value} {fs : List Value} {v : Value} (hX : Ok X zr_Ch cc n d c) (q0 : Nat) (he : w[q0]? = some (a, .inr (0, fs))) (hv : fs[0]? = some v) (hd : decode cc pc = .ok (.getfield 11, 3)) (k : Go X w L (pc + 3) (v :: st)) : Go X w L pc (.ref a :: st) := g_get hX zi_Ch 0 rfl zH_Ch_11 rfl q0 he hv hd k
theorem gf_Ch_24 {X : zX} {cc : ByteArray} {n d : Nat} {c : zY} {w : va_W} {L : List (Nat × Value)} {pc a : Nat} {st : List Value} {fs : List Value} {v : Value} (hX : Ok X zr_Ch cc n d c) (q0 : Nat) (he : w[q0]? = some (a, .inr (0, fs))) (hv : fs[1]? = some v) (hd : decode cc pc = .ok (.getfield 24, 3)) (k : Go X w L (pc + 3) (v :: st)) : Go X w L pc (.ref a :: st) := g_get hX zi_Ch 1 rfl zH_Ch_24 rfl q0 he hv hd k
theorem pf_Ch_24 {X : zX} {cc : ByteArray} {n d : Nat} {c : zY} {w w2 : va_W} {L : List (Nat × Value)} {pc a : Nat} {st : List Value} {fs : List Value} {v : Int32} (hX : Ok X zr_Ch cc n d c) (q0 : Nat) (he : w[q0]? = some (a, .inr (0, fs))) (hl0 : Nat.blt 1 fs.length = true) (hw : w.set q0 (a, .inr (0, fs.set 1 (.int v))) = w2) (hd : decode cc pc = .ok (.putfield 24, 3)) (k : Go X w2 L (pc + 3) st) : Go X w L pc (.int v :: .ref a :: st) := g_put zt_Ch zo_Ch zn_Ch hX zi_Ch 1 rfl zH_Ch_24 rfl rfl rfl rfl rfl q0 he hl0 hw hd k
theorem gf_EL_308 {X : zX} {cc : ByteArray} {n d : Nat} {c : zY} {w : va_W} {L : List (Nat × Value)} {pc a : Nat} {st : List Value} {fs : List Value} {v : Value} (hX : Ok X zr_EL cc n d c) (q0 : Nat) (he : w[q0]? = some (a, .inr (0, fs))) (hv : fs[1]? = some v) (hd : decode cc pc = .ok (.getfield 308, 3)) (k : Go X w L (pc + 3) (v :: st)) : Go X w L pc (.ref a :: st) := g_getN (host := "EncounterLedger") hX zi_Ch 1 rfl (List.mem_of_getElem? (i := 18) rfl) rfl q0 he hv hd k
theorem pf_EL_308 {X : zX} {cc : ByteArray} {n d : Nat} {c : zY} {w w2 : va_W} {L : List (Nat × Value)} {pc a : Nat} {st : List Value} {fs : List Value} {v : Int32} (hX : Ok X zr_EL cc n d c) (q0 : Nat) (he : w[q0]? = some (a, .inr (0, fs))) (hl0 : Nat.blt 1 fs.length = true) (hw : w.set q0 (a, .inr (0, fs.set 1 (.int v))) = w2) (hd : decode cc pc = .ok (.putfield 308, 3)) (k : Go X w2 L (pc + 3) st) : Go X w L pc (.int v :: .ref a :: st) := g_putN (host := "EncounterLedger") zt_Ch zo_Ch zn_Ch hX zi_Ch 1 rfl (List.mem_of_getElem? (i := 18) rfl) rfl rfl rfl rfl rfl q0 he hl0 hw hd k
theorem gf_Ch_16 {X : zX} {cc : ByteArray} {n d : Nat} {c : zY} {w : va_W} {L : List (Nat × Value)} {pc a : Nat} {st : List Value} {fs : List Value} {v : Value} (hX : Ok X zr_Ch cc n d c) (q0 : Nat) (he : w[q0]? = some (a, .inr (0, fs))) (hv : fs[2]? = some v) (hd : decode cc pc = .ok (.getfield 16, 3)) (k : Go X w L (pc + 3) (v :: st)) : Go X w L pc (.ref a :: st) := g_get hX zi_Ch 2 rfl zH_Ch_16 rfl q0 he hv hd k
theorem pf_Ch_16 {X : zX} {cc : ByteArray} {n d : Nat} {c : zY} {w w2 : va_W} {L : List (Nat × Value)} {pc a : Nat} {st : List Value} {fs : List Value} {v : Int32} (hX : Ok X zr_Ch cc n d c) (q0 : Nat) (he : w[q0]? = some (a, .inr (0, fs))) (hl0 : Nat.blt 2 fs.length = true) (hw : w.set q0 (a, .inr (0, fs.set 2 (.int v))) = w2) (hd : decode cc pc = .ok (.putfield 16, 3)) (k : Go X w2 L (pc + 3) st) : Go X w L pc (.int v :: .ref a :: st) := g_put zt_Ch zo_Ch zn_Ch hX zi_Ch 2 rfl zH_Ch_16 rfl rfl rfl rfl rfl q0 he hl0 hw hd k
theorem gf_Tp_11 {X : zX} {cc : ByteArray} {n d : Nat} {c : zY} {w : va_W} {L : List (Nat × Value)} {pc a : Nat} {st : List Value} {fs : List Value} {v : Value} (hX : Ok X zr_Tp cc n d c) (q0 : Nat) (he : w[q0]? = some (a, .inr (7, fs))) (hv : fs[0]? = some v) (hd : decode cc pc = .ok (.getfield 11, 3)) (k : Go X w L (pc + 3) (v :: st)) : Go X w L pc (.ref a :: st) := g_get hX zi_Tp 0 rfl zH_Tp_11 rfl q0 he hv hd k
theorem gf_Tp_15 {X : zX} {cc : ByteArray} {n d : Nat} {c : zY} {w : va_W} {L : List (Nat × Value)} {pc a : Nat} {st : List Value} {fs : List Value} {v : Value} (hX : Ok X zr_Tp cc n d c) (q0 : Nat) (he : w[q0]? = some (a, .inr (7, fs))) (hv : fs[1]? = some v) (hd : decode cc pc = .ok (.getfield 15, 3)) (k : Go X w L (pc + 3) (v :: st)) : Go X w L pc (.ref a :: st) := g_get hX zi_Tp 1 rfl zH_Tp_15 rfl q0 he hv hd k
theorem gf_Tp_18 {X : zX} {cc : ByteArray} {n d : Nat} {c : zY} {w : va_W} {L : List (Nat × Value)} {pc a : Nat} {st : List Value} {fs : List Value} {v : Value} (hX : Ok X zr_Tp cc n d c) (q0 : Nat) (he : w[q0]? = some (a, .inr (7, fs))) (hv : fs[2]? = some v) (hd : decode cc pc = .ok (.getfield 18, 3)) (k : Go X w L (pc + 3) (v :: st)) : Go X w L pc (.ref a :: st) := g_get hX zi_Tp 2 rfl zH_Tp_18 rfl q0 he hv hd k
theorem pf_Tp_18 {X : zX} {cc : ByteArray} {n d : Nat} {c : zY} {w w2 : va_W} {L : List (Nat × Value)} {pc a : Nat} {st : List Value} {fs : List Value} {v : Int32} (hX : Ok X zr_Tp cc n d c) (q0 : Nat) (he : w[q0]? = some (a, .inr (7, fs))) (hl0 : Nat.blt 2 fs.length = true) (hw : w.set q0 (a, .inr (7, fs.set 2 (.int v))) = w2) (hd : decode cc pc = .ok (.putfield 18, 3)) (k : Go X w2 L (pc + 3) st) : Go X w L pc (.int v :: .ref a :: st) := g_put zt_Tp zo_Tp zn_Tp hX zi_Tp 2 rfl zH_Tp_18 rfl rfl rfl rfl rfl q0 he hl0 hw hd k
theorem gf_EL_176 {X : zX} {cc : ByteArray} {n d : Nat} {c : zY} {w : va_W} {L : List (Nat × Value)} {pc a : Nat} {st : List Value} {fs : List Value} {v : Value} (hX : Ok X zr_EL cc n d c) (q0 : Nat) (he : w[q0]? = some (a, .inr (7, fs))) (hv : fs[2]? = some v) (hd : decode cc pc = .ok (.getfield 176, 3)) (k : Go X w L (pc + 3) (v :: st)) : Go X w L pc (.ref a :: st) := g_getN (host := "EncounterLedger") hX zi_Tp 2 rfl (List.mem_of_getElem? (i := 19) rfl) rfl q0 he hv hd k
theorem pf_EL_176 {X : zX} {cc : ByteArray} {n d : Nat} {c : zY} {w w2 : va_W} {L : List (Nat × Value)} {pc a : Nat} {st : List Value} {fs : List Value} {v : Int32} (hX : Ok X zr_EL cc n d c) (q0 : Nat) (he : w[q0]? = some (a, .inr (7, fs))) (hl0 : Nat.blt 2 fs.length = true) (hw : w.set q0 (a, .inr (7, fs.set 2 (.int v))) = w2) (hd : decode cc pc = .ok (.putfield 176, 3)) (k : Go X w2 L (pc + 3) st) : Go X w L pc (.int v :: .ref a :: st) := g_putN (host := "EncounterLedger") zt_Tp zo_Tp zn_Tp hX zi_Tp 2 rfl (List.mem_of_getElem? (i := 19) rfl) rfl rfl rfl rfl rfl q0 he hl0 hw hd k
theorem gf_Tp_22 {X : zX} {cc : ByteArray} {n d : Nat} {c : zY} {w : va_W} {L : List (Nat × Value)} {pc a : Nat} {st : List Value} {fs : List Value} {v : Value} (hX : Ok X zr_Tp cc n d c) (q0 : Nat) (he : w[q0]? = some (a, .inr (7, fs))) (hv : fs[3]? = some v) (hd : decode cc pc = .ok (.getfield 22, 3)) (k : Go X w L (pc + 3) (v :: st)) : Go X w L pc (.ref a :: st) := g_get hX zi_Tp 3 rfl zH_Tp_22 rfl q0 he hv hd k
theorem pf_Tp_22 {X : zX} {cc : ByteArray} {n d : Nat} {c : zY} {w w2 : va_W} {L : List (Nat × Value)} {pc a : Nat} {st : List Value} {fs : List Value} {v : Int32} (hX : Ok X zr_Tp cc n d c) (q0 : Nat) (he : w[q0]? = some (a, .inr (7, fs))) (hl0 : Nat.blt 3 fs.length = true) (hw : w.set q0 (a, .inr (7, fs.set 3 (.int v))) = w2) (hd : decode cc pc = .ok (.putfield 22, 3)) (k : Go X w2 L (pc + 3) st) : Go X w L pc (.int v :: .ref a :: st) := g_put zt_Tp zo_Tp zn_Tp hX zi_Tp 3 rfl zH_Tp_22 rfl rfl rfl rfl rfl q0 he hl0 hw hd k
theorem gf_EL_188 {X : zX} {cc : ByteArray} {n d : Nat} {c : zY} {w : va_W} {L : List (Nat × Value)} {pc a : Nat} {st : List Value} {fs : List Value} {v : Value} (hX : Ok X zr_EL cc n d c) (q0 : Nat) (he : w[q0]? = some (a, .inr (7, fs))) (hv : fs[3]? = some v) (hd : decode cc pc = .ok (.getfield 188, 3)) (k : Go X w L (pc + 3) (v :: st)) : Go X w L pc (.ref a :: st) := g_getN (host := "EncounterLedger") hX zi_Tp 3 rfl (List.mem_of_getElem? (i := 20) rfl) rfl q0 he hv hd k
theorem pf_EL_188 {X : zX} {cc : ByteArray} {n d : Nat} {c : zY} {w w2 : va_W} {L : List (Nat × Value)} {pc a : Nat} {st : List Value} {fs : List Value} {v : Int32} (hX : Ok X zr_EL cc n d c) (q0 : Nat) (he : w[q0]? = some (a, .inr (7, fs))) (hl0 : Nat.blt 3 fs.length = true) (hw : w.set q0 (a, .inr (7, fs.set 3 (.int v))) = w2) (hd : decode cc pc = .ok (.putfield 188, 3)) (k : Go X w2 L (pc + 3) st) : Go X w L pc (.int v :: .ref a :: st) := g_putN (host := "EncounterLedger") zt_Tp zo_Tp zn_Tp hX zi_Tp 3 rfl (List.mem_of_getElem? (i := 20) rfl) rfl rfl rfl rfl rfl q0 he hl0 hw hd k
theorem gf_Wa_9 {X : zX} {cc : ByteArray} {n d : Nat} {c : zY} {w : va_W} {L : List (Nat × Value)} {pc a : Nat} {st : List Value} {fs : List Value} {v : Value} (hX : Ok X zr_Wa cc n d c) (q0 : Nat) (he : w[q0]? = some (a, .inr (8, fs))) (hv : fs[0]? = some v) (hd : decode cc pc = .ok (.getfield 9, 3)) (k : Go X w L (pc + 3) (v :: st)) : Go X w L pc (.ref a :: st) := g_get hX zi_Wa 0 rfl zH_Wa_9 rfl q0 he hv hd k
theorem gf_Wa_15 {X : zX} {cc : ByteArray} {n d : Nat} {c : zY} {w : va_W} {L : List (Nat × Value)} {pc a : Nat} {st : List Value} {fs : List Value} {v : Value} (hX : Ok X zr_Wa cc n d c) (q0 : Nat) (he : w[q0]? = some (a, .inr (8, fs))) (hv : fs[1]? = some v) (hd : decode cc pc = .ok (.getfield 15, 3)) (k : Go X w L (pc + 3) (v :: st)) : Go X w L pc (.ref a :: st) := g_get hX zi_Wa 1 rfl zH_Wa_15 rfl q0 he hv hd k
theorem gf_Wa_18 {X : zX} {cc : ByteArray} {n d : Nat} {c : zY} {w : va_W} {L : List (Nat × Value)} {pc a : Nat} {st : List Value} {fs : List Value} {v : Value} (hX : Ok X zr_Wa cc n d c) (q0 : Nat) (he : w[q0]? = some (a, .inr (8, fs))) (hv : fs[2]? = some v) (hd : decode cc pc = .ok (.getfield 18, 3)) (k : Go X w L (pc + 3) (v :: st)) : Go X w L pc (.ref a :: st) := g_get hX zi_Wa 2 rfl zH_Wa_18 rfl q0 he hv hd k
theorem pf_Wa_18 {X : zX} {cc : ByteArray} {n d : Nat} {c : zY} {w w2 : va_W} {L : List (Nat × Value)} {pc a : Nat} {st : List Value} {fs : List Value} {v : Int32} (hX : Ok X zr_Wa cc n d c) (q0 : Nat) (he : w[q0]? = some (a, .inr (8, fs))) (hl0 : Nat.blt 2 fs.length = true) (hw : w.set q0 (a, .inr (8, fs.set 2 (.int v))) = w2) (hd : decode cc pc = .ok (.putfield 18, 3)) (k : Go X w2 L (pc + 3) st) : Go X w L pc (.int v :: .ref a :: st) := g_put zt_Wa zo_Wa zn_Wa hX zi_Wa 2 rfl zH_Wa_18 rfl rfl rfl rfl rfl q0 he hl0 hw hd k
theorem gf_EL_10 {X : zX} {cc : ByteArray} {n d : Nat} {c : zY} {w : va_W} {L : List (Nat × Value)} {pc a : Nat} {st : List Value} {fs : List Value} {v : Value} (hX : Ok X zr_EL cc n d c) (q0 : Nat) (he : w[q0]? = some (a, .inr (9, fs))) (hv : fs[0]? = some v) (hd : decode cc pc = .ok (.getfield 10, 3)) (k : Go X w L (pc + 3) (v :: st)) : Go X w L pc (.ref a :: st) := g_get hX zi_EL 0 rfl zH_EL_10 rfl q0 he hv hd k
theorem gf_EL_16 {X : zX} {cc : ByteArray} {n d : Nat} {c : zY} {w : va_W} {L : List (Nat × Value)} {pc a : Nat} {st : List Value} {fs : List Value} {v : Value} (hX : Ok X zr_EL cc n d c) (q0 : Nat) (he : w[q0]? = some (a, .inr (9, fs))) (hv : fs[1]? = some v) (hd : decode cc pc = .ok (.getfield 16, 3)) (k : Go X w L (pc + 3) (v :: st)) : Go X w L pc (.ref a :: st) := g_get hX zi_EL 1 rfl zH_EL_16 rfl q0 he hv hd k
theorem gf_EL_22 {X : zX} {cc : ByteArray} {n d : Nat} {c : zY} {w : va_W} {L : List (Nat × Value)} {pc a : Nat} {st : List Value} {fs : List Value} {v : Value} (hX : Ok X zr_EL cc n d c) (q0 : Nat) (he : w[q0]? = some (a, .inr (9, fs))) (hv : fs[2]? = some v) (hd : decode cc pc = .ok (.getfield 22, 3)) (k : Go X w L (pc + 3) (v :: st)) : Go X w L pc (.ref a :: st) := g_get hX zi_EL 2 rfl zH_EL_22 rfl q0 he hv hd k
theorem gf_EL_29 {X : zX} {cc : ByteArray} {n d : Nat} {c : zY} {w : va_W} {L : List (Nat × Value)} {pc a : Nat} {st : List Value} {fs : List Value} {v : Value} (hX : Ok X zr_EL cc n d c) (q0 : Nat) (he : w[q0]? = some (a, .inr (9, fs))) (hv : fs[3]? = some v) (hd : decode cc pc = .ok (.getfield 29, 3)) (k : Go X w L (pc + 3) (v :: st)) : Go X w L pc (.ref a :: st) := g_get hX zi_EL 3 rfl zH_EL_29 rfl q0 he hv hd k
theorem gf_EL_36 {X : zX} {cc : ByteArray} {n d : Nat} {c : zY} {w : va_W} {L : List (Nat × Value)} {pc a : Nat} {st : List Value} {fs : List Value} {v : Value} (hX : Ok X zr_EL cc n d c) (q0 : Nat) (he : w[q0]? = some (a, .inr (9, fs))) (hv : fs[4]? = some v) (hd : decode cc pc = .ok (.getfield 36, 3)) (k : Go X w L (pc + 3) (v :: st)) : Go X w L pc (.ref a :: st) := g_get hX zi_EL 4 rfl zH_EL_36 rfl q0 he hv hd k
theorem gf_EL_40 {X : zX} {cc : ByteArray} {n d : Nat} {c : zY} {w : va_W} {L : List (Nat × Value)} {pc a : Nat} {st : List Value} {fs : List Value} {v : Value} (hX : Ok X zr_EL cc n d c) (q0 : Nat) (he : w[q0]? = some (a, .inr (9, fs))) (hv : fs[5]? = some v) (hd : decode cc pc = .ok (.getfield 40, 3)) (k : Go X w L (pc + 3) (v :: st)) : Go X w L pc (.ref a :: st) := g_get hX zi_EL 5 rfl zH_EL_40 rfl q0 he hv hd k
theorem pf_EL_40 {X : zX} {cc : ByteArray} {n d : Nat} {c : zY} {w w2 : va_W} {L : List (Nat × Value)} {pc a : Nat} {st : List Value} {fs : List Value} {v : Int32} (hX : Ok X zr_EL cc n d c) (hb : v = 0 ∨ v = 1) (q0 : Nat) (he : w[q0]? = some (a, .inr (9, fs))) (hl0 : Nat.blt 5 fs.length = true) (hw : w.set q0 (a, .inr (9, fs.set 5 (.int v))) = w2) (hd : decode cc pc = .ok (.putfield 40, 3)) (k : Go X w2 L (pc + 3) st) : Go X w L pc (.int v :: .ref a :: st) := g_put zt_EL zo_EL zn_EL hX zi_EL 5 rfl zH_EL_40 rfl rfl rfl (zbn hb) (zbf hb) q0 he hl0 hw hd k
theorem gf_EL_44 {X : zX} {cc : ByteArray} {n d : Nat} {c : zY} {w : va_W} {L : List (Nat × Value)} {pc a : Nat} {st : List Value} {fs : List Value} {v : Value} (hX : Ok X zr_EL cc n d c) (q0 : Nat) (he : w[q0]? = some (a, .inr (9, fs))) (hv : fs[6]? = some v) (hd : decode cc pc = .ok (.getfield 44, 3)) (k : Go X w L (pc + 3) (v :: st)) : Go X w L pc (.ref a :: st) := g_get hX zi_EL 6 rfl zH_EL_44 rfl q0 he hv hd k
theorem pf_EL_44 {X : zX} {cc : ByteArray} {n d : Nat} {c : zY} {w w2 : va_W} {L : List (Nat × Value)} {pc a : Nat} {st : List Value} {fs : List Value} {v : Int32} (hX : Ok X zr_EL cc n d c) (q0 : Nat) (he : w[q0]? = some (a, .inr (9, fs))) (hl0 : Nat.blt 6 fs.length = true) (hw : w.set q0 (a, .inr (9, fs.set 6 (.int v))) = w2) (hd : decode cc pc = .ok (.putfield 44, 3)) (k : Go X w2 L (pc + 3) st) : Go X w L pc (.int v :: .ref a :: st) := g_put zt_EL zo_EL zn_EL hX zi_EL 6 rfl zH_EL_44 rfl rfl rfl rfl rfl q0 he hl0 hw hd k
theorem gf_Mo_7 {X : zX} {cc : ByteArray} {n d : Nat} {c : zY} {w : va_W} {L : List (Nat × Value)} {pc a : Nat} {st : List Value} {fs : List Value} {v : Value} (hX : Ok X zr_Mo cc n d c) (q0 : Nat) (he : w[q0]? = some (a, .inr (10, fs))) (hv : fs[0]? = some v) (hd : decode cc pc = .ok (.getfield 7, 3)) (k : Go X w L (pc + 3) (v :: st)) : Go X w L pc (.ref a :: st) := g_get hX zi_Mo 0 rfl zH_Mo_7 rfl q0 he hv hd k
theorem gf_Mo_13 {X : zX} {cc : ByteArray} {n d : Nat} {c : zY} {w : va_W} {L : List (Nat × Value)} {pc a : Nat} {st : List Value} {fs : List Value} {v : Value} (hX : Ok X zr_Mo cc n d c) (q0 : Nat) (he : w[q0]? = some (a, .inr (10, fs))) (hv : fs[1]? = some v) (hd : decode cc pc = .ok (.getfield 13, 3)) (k : Go X w L (pc + 3) (v :: st)) : Go X w L pc (.ref a :: st) := g_get hX zi_Mo 1 rfl zH_Mo_13 rfl q0 he hv hd k
theorem gf_Mo_16 {X : zX} {cc : ByteArray} {n d : Nat} {c : zY} {w : va_W} {L : List (Nat × Value)} {pc a : Nat} {st : List Value} {fs : List Value} {v : Value} (hX : Ok X zr_Mo cc n d c) (q0 : Nat) (he : w[q0]? = some (a, .inr (10, fs))) (hv : fs[2]? = some v) (hd : decode cc pc = .ok (.getfield 16, 3)) (k : Go X w L (pc + 3) (v :: st)) : Go X w L pc (.ref a :: st) := g_get hX zi_Mo 2 rfl zH_Mo_16 rfl q0 he hv hd k
theorem gf_Mo_19 {X : zX} {cc : ByteArray} {n d : Nat} {c : zY} {w : va_W} {L : List (Nat × Value)} {pc a : Nat} {st : List Value} {fs : List Value} {v : Value} (hX : Ok X zr_Mo cc n d c) (q0 : Nat) (he : w[q0]? = some (a, .inr (10, fs))) (hv : fs[3]? = some v) (hd : decode cc pc = .ok (.getfield 19, 3)) (k : Go X w L (pc + 3) (v :: st)) : Go X w L pc (.ref a :: st) := g_get hX zi_Mo 3 rfl zH_Mo_19 rfl q0 he hv hd k
theorem gf_Mo_22 {X : zX} {cc : ByteArray} {n d : Nat} {c : zY} {w : va_W} {L : List (Nat × Value)} {pc a : Nat} {st : List Value} {fs : List Value} {v : Value} (hX : Ok X zr_Mo cc n d c) (q0 : Nat) (he : w[q0]? = some (a, .inr (10, fs))) (hv : fs[4]? = some v) (hd : decode cc pc = .ok (.getfield 22, 3)) (k : Go X w L (pc + 3) (v :: st)) : Go X w L pc (.ref a :: st) := g_get hX zi_Mo 4 rfl zH_Mo_22 rfl q0 he hv hd k
theorem gf_Mo_25 {X : zX} {cc : ByteArray} {n d : Nat} {c : zY} {w : va_W} {L : List (Nat × Value)} {pc a : Nat} {st : List Value} {fs : List Value} {v : Value} (hX : Ok X zr_Mo cc n d c) (q0 : Nat) (he : w[q0]? = some (a, .inr (10, fs))) (hv : fs[5]? = some v) (hd : decode cc pc = .ok (.getfield 25, 3)) (k : Go X w L (pc + 3) (v :: st)) : Go X w L pc (.ref a :: st) := g_get hX zi_Mo 5 rfl zH_Mo_25 rfl q0 he hv hd k
theorem gf_Mo_28 {X : zX} {cc : ByteArray} {n d : Nat} {c : zY} {w : va_W} {L : List (Nat × Value)} {pc a : Nat} {st : List Value} {fs : List Value} {v : Value} (hX : Ok X zr_Mo cc n d c) (q0 : Nat) (he : w[q0]? = some (a, .inr (10, fs))) (hv : fs[6]? = some v) (hd : decode cc pc = .ok (.getfield 28, 3)) (k : Go X w L (pc + 3) (v :: st)) : Go X w L pc (.ref a :: st) := g_get hX zi_Mo 6 rfl zH_Mo_28 rfl q0 he hv hd k
theorem gf_Mo_31 {X : zX} {cc : ByteArray} {n d : Nat} {c : zY} {w : va_W} {L : List (Nat × Value)} {pc a : Nat} {st : List Value} {fs : List Value} {v : Value} (hX : Ok X zr_Mo cc n d c) (q0 : Nat) (he : w[q0]? = some (a, .inr (10, fs))) (hv : fs[7]? = some v) (hd : decode cc pc = .ok (.getfield 31, 3)) (k : Go X w L (pc + 3) (v :: st)) : Go X w L pc (.ref a :: st) := g_get hX zi_Mo 7 rfl zH_Mo_31 rfl q0 he hv hd k
theorem gf_Mo_34 {X : zX} {cc : ByteArray} {n d : Nat} {c : zY} {w : va_W} {L : List (Nat × Value)} {pc a : Nat} {st : List Value} {fs : List Value} {v : Value} (hX : Ok X zr_Mo cc n d c) (q0 : Nat) (he : w[q0]? = some (a, .inr (10, fs))) (hv : fs[8]? = some v) (hd : decode cc pc = .ok (.getfield 34, 3)) (k : Go X w L (pc + 3) (v :: st)) : Go X w L pc (.ref a :: st) := g_get hX zi_Mo 8 rfl zH_Mo_34 rfl q0 he hv hd k
theorem gf_Mo_37 {X : zX} {cc : ByteArray} {n d : Nat} {c : zY} {w : va_W} {L : List (Nat × Value)} {pc a : Nat} {st : List Value} {fs : List Value} {v : Value} (hX : Ok X zr_Mo cc n d c) (q0 : Nat) (he : w[q0]? = some (a, .inr (10, fs))) (hv : fs[9]? = some v) (hd : decode cc pc = .ok (.getfield 37, 3)) (k : Go X w L (pc + 3) (v :: st)) : Go X w L pc (.ref a :: st) := g_get hX zi_Mo 9 rfl zH_Mo_37 rfl q0 he hv hd k
theorem gf_Mo_40 {X : zX} {cc : ByteArray} {n d : Nat} {c : zY} {w : va_W} {L : List (Nat × Value)} {pc a : Nat} {st : List Value} {fs : List Value} {v : Value} (hX : Ok X zr_Mo cc n d c) (q0 : Nat) (he : w[q0]? = some (a, .inr (10, fs))) (hv : fs[10]? = some v) (hd : decode cc pc = .ok (.getfield 40, 3)) (k : Go X w L (pc + 3) (v :: st)) : Go X w L pc (.ref a :: st) := g_get hX zi_Mo 10 rfl zH_Mo_40 rfl q0 he hv hd k
theorem gf_Mo_81 {X : zX} {cc : ByteArray} {n d : Nat} {c : zY} {w : va_W} {L : List (Nat × Value)} {pc a : Nat} {st : List Value} {fs : List Value} {v : Value} (hX : Ok X zr_Mo cc n d c) (q0 : Nat) (he : w[q0]? = some (a, .inr (10, fs))) (hv : fs[11]? = some v) (hd : decode cc pc = .ok (.getfield 81, 3)) (k : Go X w L (pc + 3) (v :: st)) : Go X w L pc (.ref a :: st) := g_get hX zi_Mo 11 rfl zH_Mo_81 rfl q0 he hv hd k
theorem pf_Mo_81 {X : zX} {cc : ByteArray} {n d : Nat} {c : zY} {w w2 : va_W} {L : List (Nat × Value)} {pc a : Nat} {st : List Value} {fs : List Value} {v : Int32} (hX : Ok X zr_Mo cc n d c) (q0 : Nat) (he : w[q0]? = some (a, .inr (10, fs))) (hl0 : Nat.blt 11 fs.length = true) (hw : w.set q0 (a, .inr (10, fs.set 11 (.int v))) = w2) (hd : decode cc pc = .ok (.putfield 81, 3)) (k : Go X w2 L (pc + 3) st) : Go X w L pc (.int v :: .ref a :: st) := g_put zt_Mo zo_Mo zn_Mo hX zi_Mo 11 rfl zH_Mo_81 rfl rfl rfl rfl rfl q0 he hl0 hw hd k
theorem gf_Mo_43 {X : zX} {cc : ByteArray} {n d : Nat} {c : zY} {w : va_W} {L : List (Nat × Value)} {pc a : Nat} {st : List Value} {fs : List Value} {v : Value} (hX : Ok X zr_Mo cc n d c) (q0 : Nat) (he : w[q0]? = some (a, .inr (10, fs))) (hv : fs[12]? = some v) (hd : decode cc pc = .ok (.getfield 43, 3)) (k : Go X w L (pc + 3) (v :: st)) : Go X w L pc (.ref a :: st) := g_get hX zi_Mo 12 rfl zH_Mo_43 rfl q0 he hv hd k
theorem pf_Mo_43 {X : zX} {cc : ByteArray} {n d : Nat} {c : zY} {w w2 : va_W} {L : List (Nat × Value)} {pc a : Nat} {st : List Value} {fs : List Value} {v : Int32} (hX : Ok X zr_Mo cc n d c) (q0 : Nat) (he : w[q0]? = some (a, .inr (10, fs))) (hl0 : Nat.blt 12 fs.length = true) (hw : w.set q0 (a, .inr (10, fs.set 12 (.int v))) = w2) (hd : decode cc pc = .ok (.putfield 43, 3)) (k : Go X w2 L (pc + 3) st) : Go X w L pc (.int v :: .ref a :: st) := g_put zt_Mo zo_Mo zn_Mo hX zi_Mo 12 rfl zH_Mo_43 rfl rfl rfl rfl rfl q0 he hl0 hw hd k
theorem gf_Mo_47 {X : zX} {cc : ByteArray} {n d : Nat} {c : zY} {w : va_W} {L : List (Nat × Value)} {pc a : Nat} {st : List Value} {fs : List Value} {v : Value} (hX : Ok X zr_Mo cc n d c) (q0 : Nat) (he : w[q0]? = some (a, .inr (10, fs))) (hv : fs[13]? = some v) (hd : decode cc pc = .ok (.getfield 47, 3)) (k : Go X w L (pc + 3) (v :: st)) : Go X w L pc (.ref a :: st) := g_get hX zi_Mo 13 rfl zH_Mo_47 rfl q0 he hv hd k
theorem gf_Mo_92 {X : zX} {cc : ByteArray} {n d : Nat} {c : zY} {w : va_W} {L : List (Nat × Value)} {pc a : Nat} {st : List Value} {fs : List Value} {v : Value} (hX : Ok X zr_Mo cc n d c) (q0 : Nat) (he : w[q0]? = some (a, .inr (10, fs))) (hv : fs[14]? = some v) (hd : decode cc pc = .ok (.getfield 92, 3)) (k : Go X w L (pc + 3) (v :: st)) : Go X w L pc (.ref a :: st) := g_get hX zi_Mo 14 rfl zH_Mo_92 rfl q0 he hv hd k
theorem pf_Mo_92 {X : zX} {cc : ByteArray} {n d : Nat} {c : zY} {w w2 : va_W} {L : List (Nat × Value)} {pc a : Nat} {st : List Value} {fs : List Value} {v : Int32} (hX : Ok X zr_Mo cc n d c) (q0 : Nat) (he : w[q0]? = some (a, .inr (10, fs))) (hl0 : Nat.blt 14 fs.length = true) (hw : w.set q0 (a, .inr (10, fs.set 14 (.int v))) = w2) (hd : decode cc pc = .ok (.putfield 92, 3)) (k : Go X w2 L (pc + 3) st) : Go X w L pc (.int v :: .ref a :: st) := g_put zt_Mo zo_Mo zn_Mo hX zi_Mo 14 rfl zH_Mo_92 rfl rfl rfl rfl rfl q0 he hl0 hw hd k
theorem gf_Mo_50 {X : zX} {cc : ByteArray} {n d : Nat} {c : zY} {w : va_W} {L : List (Nat × Value)} {pc a : Nat} {st : List Value} {fs : List Value} {v : Value} (hX : Ok X zr_Mo cc n d c) (q0 : Nat) (he : w[q0]? = some (a, .inr (10, fs))) (hv : fs[15]? = some v) (hd : decode cc pc = .ok (.getfield 50, 3)) (k : Go X w L (pc + 3) (v :: st)) : Go X w L pc (.ref a :: st) := g_get hX zi_Mo 15 rfl zH_Mo_50 rfl q0 he hv hd k
theorem gf_Mo_95 {X : zX} {cc : ByteArray} {n d : Nat} {c : zY} {w : va_W} {L : List (Nat × Value)} {pc a : Nat} {st : List Value} {fs : List Value} {v : Value} (hX : Ok X zr_Mo cc n d c) (q0 : Nat) (he : w[q0]? = some (a, .inr (10, fs))) (hv : fs[16]? = some v) (hd : decode cc pc = .ok (.getfield 95, 3)) (k : Go X w L (pc + 3) (v :: st)) : Go X w L pc (.ref a :: st) := g_get hX zi_Mo 16 rfl zH_Mo_95 rfl q0 he hv hd k
theorem pf_Mo_95 {X : zX} {cc : ByteArray} {n d : Nat} {c : zY} {w w2 : va_W} {L : List (Nat × Value)} {pc a : Nat} {st : List Value} {fs : List Value} {v : Int32} (hX : Ok X zr_Mo cc n d c) (q0 : Nat) (he : w[q0]? = some (a, .inr (10, fs))) (hl0 : Nat.blt 16 fs.length = true) (hw : w.set q0 (a, .inr (10, fs.set 16 (.int v))) = w2) (hd : decode cc pc = .ok (.putfield 95, 3)) (k : Go X w2 L (pc + 3) st) : Go X w L pc (.int v :: .ref a :: st) := g_put zt_Mo zo_Mo zn_Mo hX zi_Mo 16 rfl zH_Mo_95 rfl rfl rfl rfl rfl q0 he hl0 hw hd k
theorem gf_Mo_120 {X : zX} {cc : ByteArray} {n d : Nat} {c : zY} {w : va_W} {L : List (Nat × Value)} {pc a : Nat} {st : List Value} {fs : List Value} {v : Value} (hX : Ok X zr_Mo cc n d c) (q0 : Nat) (he : w[q0]? = some (a, .inr (10, fs))) (hv : fs[17]? = some v) (hd : decode cc pc = .ok (.getfield 120, 3)) (k : Go X w L (pc + 3) (v :: st)) : Go X w L pc (.ref a :: st) := g_get hX zi_Mo 17 rfl zH_Mo_120 rfl q0 he hv hd k
theorem pf_Mo_120 {X : zX} {cc : ByteArray} {n d : Nat} {c : zY} {w w2 : va_W} {L : List (Nat × Value)} {pc a : Nat} {st : List Value} {fs : List Value} {v : Int32} (hX : Ok X zr_Mo cc n d c) (q0 : Nat) (he : w[q0]? = some (a, .inr (10, fs))) (hl0 : Nat.blt 17 fs.length = true) (hw : w.set q0 (a, .inr (10, fs.set 17 (.int v))) = w2) (hd : decode cc pc = .ok (.putfield 120, 3)) (k : Go X w2 L (pc + 3) st) : Go X w L pc (.int v :: .ref a :: st) := g_put zt_Mo zo_Mo zn_Mo hX zi_Mo 17 rfl zH_Mo_120 rfl rfl rfl rfl rfl q0 he hl0 hw hd k
theorem gf_Mo_123 {X : zX} {cc : ByteArray} {n d : Nat} {c : zY} {w : va_W} {L : List (Nat × Value)} {pc a : Nat} {st : List Value} {fs : List Value} {v : Value} (hX : Ok X zr_Mo cc n d c) (q0 : Nat) (he : w[q0]? = some (a, .inr (10, fs))) (hv : fs[18]? = some v) (hd : decode cc pc = .ok (.getfield 123, 3)) (k : Go X w L (pc + 3) (v :: st)) : Go X w L pc (.ref a :: st) := g_get hX zi_Mo 18 rfl zH_Mo_123 rfl q0 he hv hd k
theorem pf_Mo_123 {X : zX} {cc : ByteArray} {n d : Nat} {c : zY} {w w2 : va_W} {L : List (Nat × Value)} {pc a : Nat} {st : List Value} {fs : List Value} {v : Int32} (hX : Ok X zr_Mo cc n d c) (q0 : Nat) (he : w[q0]? = some (a, .inr (10, fs))) (hl0 : Nat.blt 18 fs.length = true) (hw : w.set q0 (a, .inr (10, fs.set 18 (.int v))) = w2) (hd : decode cc pc = .ok (.putfield 123, 3)) (k : Go X w2 L (pc + 3) st) : Go X w L pc (.int v :: .ref a :: st) := g_put zt_Mo zo_Mo zn_Mo hX zi_Mo 18 rfl zH_Mo_123 rfl rfl rfl rfl rfl q0 he hl0 hw hd k
theorem gf_Mo_181 {X : zX} {cc : ByteArray} {n d : Nat} {c : zY} {w : va_W} {L : List (Nat × Value)} {pc a : Nat} {st : List Value} {fs : List Value} {v : Value} (hX : Ok X zr_Mo cc n d c) (q0 : Nat) (he : w[q0]? = some (a, .inr (10, fs))) (hv : fs[19]? = some v) (hd : decode cc pc = .ok (.getfield 181, 3)) (k : Go X w L (pc + 3) (v :: st)) : Go X w L pc (.ref a :: st) := g_get hX zi_Mo 19 rfl zH_Mo_181 rfl q0 he hv hd k
theorem pf_Mo_181 {X : zX} {cc : ByteArray} {n d : Nat} {c : zY} {w w2 : va_W} {L : List (Nat × Value)} {pc a : Nat} {st : List Value} {fs : List Value} {v : Int32} (hX : Ok X zr_Mo cc n d c) (q0 : Nat) (he : w[q0]? = some (a, .inr (10, fs))) (hl0 : Nat.blt 19 fs.length = true) (hw : w.set q0 (a, .inr (10, fs.set 19 (.int v))) = w2) (hd : decode cc pc = .ok (.putfield 181, 3)) (k : Go X w2 L (pc + 3) st) : Go X w L pc (.int v :: .ref a :: st) := g_put zt_Mo zo_Mo zn_Mo hX zi_Mo 19 rfl zH_Mo_181 rfl rfl rfl rfl rfl q0 he hl0 hw hd k
theorem gf_Mo_126 {X : zX} {cc : ByteArray} {n d : Nat} {c : zY} {w : va_W} {L : List (Nat × Value)} {pc a : Nat} {st : List Value} {fs : List Value} {v : Value} (hX : Ok X zr_Mo cc n d c) (q0 : Nat) (he : w[q0]? = some (a, .inr (10, fs))) (hv : fs[20]? = some v) (hd : decode cc pc = .ok (.getfield 126, 3)) (k : Go X w L (pc + 3) (v :: st)) : Go X w L pc (.ref a :: st) := g_get hX zi_Mo 20 rfl zH_Mo_126 rfl q0 he hv hd k
theorem pf_Mo_126 {X : zX} {cc : ByteArray} {n d : Nat} {c : zY} {w w2 : va_W} {L : List (Nat × Value)} {pc a : Nat} {st : List Value} {fs : List Value} {v : Int32} (hX : Ok X zr_Mo cc n d c) (q0 : Nat) (he : w[q0]? = some (a, .inr (10, fs))) (hl0 : Nat.blt 20 fs.length = true) (hw : w.set q0 (a, .inr (10, fs.set 20 (.int v))) = w2) (hd : decode cc pc = .ok (.putfield 126, 3)) (k : Go X w2 L (pc + 3) st) : Go X w L pc (.int v :: .ref a :: st) := g_put zt_Mo zo_Mo zn_Mo hX zi_Mo 20 rfl zH_Mo_126 rfl rfl rfl rfl rfl q0 he hl0 hw hd k
theorem gf_Mo_133 {X : zX} {cc : ByteArray} {n d : Nat} {c : zY} {w : va_W} {L : List (Nat × Value)} {pc a : Nat} {st : List Value} {fs : List Value} {v : Value} (hX : Ok X zr_Mo cc n d c) (q0 : Nat) (he : w[q0]? = some (a, .inr (10, fs))) (hv : fs[21]? = some v) (hd : decode cc pc = .ok (.getfield 133, 3)) (k : Go X w L (pc + 3) (v :: st)) : Go X w L pc (.ref a :: st) := g_get hX zi_Mo 21 rfl zH_Mo_133 rfl q0 he hv hd k
theorem pf_Mo_133 {X : zX} {cc : ByteArray} {n d : Nat} {c : zY} {w w2 : va_W} {L : List (Nat × Value)} {pc a : Nat} {st : List Value} {fs : List Value} {v : Int32} (hX : Ok X zr_Mo cc n d c) (q0 : Nat) (he : w[q0]? = some (a, .inr (10, fs))) (hl0 : Nat.blt 21 fs.length = true) (hw : w.set q0 (a, .inr (10, fs.set 21 (.int v))) = w2) (hd : decode cc pc = .ok (.putfield 133, 3)) (k : Go X w2 L (pc + 3) st) : Go X w L pc (.int v :: .ref a :: st) := g_put zt_Mo zo_Mo zn_Mo hX zi_Mo 21 rfl zH_Mo_133 rfl rfl rfl rfl rfl q0 he hl0 hw hd k
theorem gf_Mo_149 {X : zX} {cc : ByteArray} {n d : Nat} {c : zY} {w : va_W} {L : List (Nat × Value)} {pc a : Nat} {st : List Value} {fs : List Value} {v : Value} (hX : Ok X zr_Mo cc n d c) (q0 : Nat) (he : w[q0]? = some (a, .inr (10, fs))) (hv : fs[22]? = some v) (hd : decode cc pc = .ok (.getfield 149, 3)) (k : Go X w L (pc + 3) (v :: st)) : Go X w L pc (.ref a :: st) := g_get hX zi_Mo 22 rfl zH_Mo_149 rfl q0 he hv hd k
theorem pf_Mo_149 {X : zX} {cc : ByteArray} {n d : Nat} {c : zY} {w w2 : va_W} {L : List (Nat × Value)} {pc a : Nat} {st : List Value} {fs : List Value} {v : Int32} (hX : Ok X zr_Mo cc n d c) (q0 : Nat) (he : w[q0]? = some (a, .inr (10, fs))) (hl0 : Nat.blt 22 fs.length = true) (hw : w.set q0 (a, .inr (10, fs.set 22 (.int v))) = w2) (hd : decode cc pc = .ok (.putfield 149, 3)) (k : Go X w2 L (pc + 3) st) : Go X w L pc (.int v :: .ref a :: st) := g_put zt_Mo zo_Mo zn_Mo hX zi_Mo 22 rfl zH_Mo_149 rfl rfl rfl rfl rfl q0 he hl0 hw hd k
theorem gf_Mo_140 {X : zX} {cc : ByteArray} {n d : Nat} {c : zY} {w : va_W} {L : List (Nat × Value)} {pc a : Nat} {st : List Value} {fs : List Value} {v : Value} (hX : Ok X zr_Mo cc n d c) (q0 : Nat) (he : w[q0]? = some (a, .inr (10, fs))) (hv : fs[23]? = some v) (hd : decode cc pc = .ok (.getfield 140, 3)) (k : Go X w L (pc + 3) (v :: st)) : Go X w L pc (.ref a :: st) := g_get hX zi_Mo 23 rfl zH_Mo_140 rfl q0 he hv hd k
theorem pf_Mo_140 {X : zX} {cc : ByteArray} {n d : Nat} {c : zY} {w w2 : va_W} {L : List (Nat × Value)} {pc a : Nat} {st : List Value} {fs : List Value} {v : Int32} (hX : Ok X zr_Mo cc n d c) (q0 : Nat) (he : w[q0]? = some (a, .inr (10, fs))) (hl0 : Nat.blt 23 fs.length = true) (hw : w.set q0 (a, .inr (10, fs.set 23 (.int v))) = w2) (hd : decode cc pc = .ok (.putfield 140, 3)) (k : Go X w2 L (pc + 3) st) : Go X w L pc (.int v :: .ref a :: st) := g_put zt_Mo zo_Mo zn_Mo hX zi_Mo 23 rfl zH_Mo_140 rfl rfl rfl rfl rfl q0 he hl0 hw hd k
theorem gf_Mo_143 {X : zX} {cc : ByteArray} {n d : Nat} {c : zY} {w : va_W} {L : List (Nat × Value)} {pc a : Nat} {st : List Value} {fs : List Value} {v : Value} (hX : Ok X zr_Mo cc n d c) (q0 : Nat) (he : w[q0]? = some (a, .inr (10, fs))) (hv : fs[24]? = some v) (hd : decode cc pc = .ok (.getfield 143, 3)) (k : Go X w L (pc + 3) (v :: st)) : Go X w L pc (.ref a :: st) := g_get hX zi_Mo 24 rfl zH_Mo_143 rfl q0 he hv hd k
theorem pf_Mo_143 {X : zX} {cc : ByteArray} {n d : Nat} {c : zY} {w w2 : va_W} {L : List (Nat × Value)} {pc a : Nat} {st : List Value} {fs : List Value} {v : Int32} (hX : Ok X zr_Mo cc n d c) (q0 : Nat) (he : w[q0]? = some (a, .inr (10, fs))) (hl0 : Nat.blt 24 fs.length = true) (hw : w.set q0 (a, .inr (10, fs.set 24 (.int v))) = w2) (hd : decode cc pc = .ok (.putfield 143, 3)) (k : Go X w2 L (pc + 3) st) : Go X w L pc (.int v :: .ref a :: st) := g_put zt_Mo zo_Mo zn_Mo hX zi_Mo 24 rfl zH_Mo_143 rfl rfl rfl rfl rfl q0 he hl0 hw hd k
theorem gf_Mo_129 {X : zX} {cc : ByteArray} {n d : Nat} {c : zY} {w : va_W} {L : List (Nat × Value)} {pc a : Nat} {st : List Value} {fs : List Value} {v : Value} (hX : Ok X zr_Mo cc n d c) (q0 : Nat) (he : w[q0]? = some (a, .inr (10, fs))) (hv : fs[25]? = some v) (hd : decode cc pc = .ok (.getfield 129, 3)) (k : Go X w L (pc + 3) (v :: st)) : Go X w L pc (.ref a :: st) := g_get hX zi_Mo 25 rfl zH_Mo_129 rfl q0 he hv hd k
theorem pf_Mo_129 {X : zX} {cc : ByteArray} {n d : Nat} {c : zY} {w w2 : va_W} {L : List (Nat × Value)} {pc a : Nat} {st : List Value} {fs : List Value} {v : Int32} (hX : Ok X zr_Mo cc n d c) (q0 : Nat) (he : w[q0]? = some (a, .inr (10, fs))) (hl0 : Nat.blt 25 fs.length = true) (hw : w.set q0 (a, .inr (10, fs.set 25 (.int v))) = w2) (hd : decode cc pc = .ok (.putfield 129, 3)) (k : Go X w2 L (pc + 3) st) : Go X w L pc (.int v :: .ref a :: st) := g_put zt_Mo zo_Mo zn_Mo hX zi_Mo 25 rfl zH_Mo_129 rfl rfl rfl rfl rfl q0 he hl0 hw hd k
theorem gf_Mo_191 {X : zX} {cc : ByteArray} {n d : Nat} {c : zY} {w : va_W} {L : List (Nat × Value)} {pc a : Nat} {st : List Value} {fs : List Value} {v : Value} (hX : Ok X zr_Mo cc n d c) (q0 : Nat) (he : w[q0]? = some (a, .inr (10, fs))) (hv : fs[26]? = some v) (hd : decode cc pc = .ok (.getfield 191, 3)) (k : Go X w L (pc + 3) (v :: st)) : Go X w L pc (.ref a :: st) := g_get hX zi_Mo 26 rfl zH_Mo_191 rfl q0 he hv hd k
theorem pf_Mo_191 {X : zX} {cc : ByteArray} {n d : Nat} {c : zY} {w w2 : va_W} {L : List (Nat × Value)} {pc a : Nat} {st : List Value} {fs : List Value} {v : Int32} (hX : Ok X zr_Mo cc n d c) (q0 : Nat) (he : w[q0]? = some (a, .inr (10, fs))) (hl0 : Nat.blt 26 fs.length = true) (hw : w.set q0 (a, .inr (10, fs.set 26 (.int v))) = w2) (hd : decode cc pc = .ok (.putfield 191, 3)) (k : Go X w2 L (pc + 3) st) : Go X w L pc (.int v :: .ref a :: st) := g_put zt_Mo zo_Mo zn_Mo hX zi_Mo 26 rfl zH_Mo_191 rfl rfl rfl rfl rfl q0 he hl0 hw hd k
theorem gf_Mo_146 {X : zX} {cc : ByteArray} {n d : Nat} {c : zY} {w : va_W} {L : List (Nat × Value)} {pc a : Nat} {st : List Value} {fs : List Value} {v : Value} (hX : Ok X zr_Mo cc n d c) (q0 : Nat) (he : w[q0]? = some (a, .inr (10, fs))) (hv : fs[27]? = some v) (hd : decode cc pc = .ok (.getfield 146, 3)) (k : Go X w L (pc + 3) (v :: st)) : Go X w L pc (.ref a :: st) := g_get hX zi_Mo 27 rfl zH_Mo_146 rfl q0 he hv hd k
theorem pf_Mo_146 {X : zX} {cc : ByteArray} {n d : Nat} {c : zY} {w w2 : va_W} {L : List (Nat × Value)} {pc a : Nat} {st : List Value} {fs : List Value} {v : Int32} (hX : Ok X zr_Mo cc n d c) (q0 : Nat) (he : w[q0]? = some (a, .inr (10, fs))) (hl0 : Nat.blt 27 fs.length = true) (hw : w.set q0 (a, .inr (10, fs.set 27 (.int v))) = w2) (hd : decode cc pc = .ok (.putfield 146, 3)) (k : Go X w2 L (pc + 3) st) : Go X w L pc (.int v :: .ref a :: st) := g_put zt_Mo zo_Mo zn_Mo hX zi_Mo 27 rfl zH_Mo_146 rfl rfl rfl rfl rfl q0 he hl0 hw hd k
theorem gf_Mo_218 {X : zX} {cc : ByteArray} {n d : Nat} {c : zY} {w : va_W} {L : List (Nat × Value)} {pc a : Nat} {st : List Value} {fs : List Value} {v : Value} (hX : Ok X zr_Mo cc n d c) (q0 : Nat) (he : w[q0]? = some (a, .inr (10, fs))) (hv : fs[28]? = some v) (hd : decode cc pc = .ok (.getfield 218, 3)) (k : Go X w L (pc + 3) (v :: st)) : Go X w L pc (.ref a :: st) := g_get hX zi_Mo 28 rfl zH_Mo_218 rfl q0 he hv hd k
theorem pf_Mo_218 {X : zX} {cc : ByteArray} {n d : Nat} {c : zY} {w w2 : va_W} {L : List (Nat × Value)} {pc a : Nat} {st : List Value} {fs : List Value} {v : Int32} (hX : Ok X zr_Mo cc n d c) (q0 : Nat) (he : w[q0]? = some (a, .inr (10, fs))) (hl0 : Nat.blt 28 fs.length = true) (hw : w.set q0 (a, .inr (10, fs.set 28 (.int v))) = w2) (hd : decode cc pc = .ok (.putfield 218, 3)) (k : Go X w2 L (pc + 3) st) : Go X w L pc (.int v :: .ref a :: st) := g_put zt_Mo zo_Mo zn_Mo hX zi_Mo 28 rfl zH_Mo_218 rfl rfl rfl rfl rfl q0 he hl0 hw hd k
theorem gf_Mo_280 {X : zX} {cc : ByteArray} {n d : Nat} {c : zY} {w : va_W} {L : List (Nat × Value)} {pc a : Nat} {st : List Value} {fs : List Value} {v : Value} (hX : Ok X zr_Mo cc n d c) (q0 : Nat) (he : w[q0]? = some (a, .inr (10, fs))) (hv : fs[29]? = some v) (hd : decode cc pc = .ok (.getfield 280, 3)) (k : Go X w L (pc + 3) (v :: st)) : Go X w L pc (.ref a :: st) := g_get hX zi_Mo 29 rfl zH_Mo_280 rfl q0 he hv hd k
theorem pf_Mo_280 {X : zX} {cc : ByteArray} {n d : Nat} {c : zY} {w w2 : va_W} {L : List (Nat × Value)} {pc a : Nat} {st : List Value} {fs : List Value} {v : Int32} (hX : Ok X zr_Mo cc n d c) (q0 : Nat) (he : w[q0]? = some (a, .inr (10, fs))) (hl0 : Nat.blt 29 fs.length = true) (hw : w.set q0 (a, .inr (10, fs.set 29 (.int v))) = w2) (hd : decode cc pc = .ok (.putfield 280, 3)) (k : Go X w2 L (pc + 3) st) : Go X w L pc (.int v :: .ref a :: st) := g_put zt_Mo zo_Mo zn_Mo hX zi_Mo 29 rfl zH_Mo_280 rfl rfl rfl rfl rfl q0 he hl0 hw hd k
theorem gf_Mo_53 {X : zX} {cc : ByteArray} {n d : Nat} {c : zY} {w : va_W} {L : List (Nat × Value)} {pc a : Nat} {st : List Value} {fs : List Value} {v : Value} (hX : Ok X zr_Mo cc n d c) (q0 : Nat) (he : w[q0]? = some (a, .inr (10, fs))) (hv : fs[30]? = some v) (hd : decode cc pc = .ok (.getfield 53, 3)) (k : Go X w L (pc + 3) (v :: st)) : Go X w L pc (.ref a :: st) := g_get hX zi_Mo 30 rfl zH_Mo_53 rfl q0 he hv hd k
theorem gf_Mo_56 {X : zX} {cc : ByteArray} {n d : Nat} {c : zY} {w : va_W} {L : List (Nat × Value)} {pc a : Nat} {st : List Value} {fs : List Value} {v : Value} (hX : Ok X zr_Mo cc n d c) (q0 : Nat) (he : w[q0]? = some (a, .inr (10, fs))) (hv : fs[31]? = some v) (hd : decode cc pc = .ok (.getfield 56, 3)) (k : Go X w L (pc + 3) (v :: st)) : Go X w L pc (.ref a :: st) := g_get hX zi_Mo 31 rfl zH_Mo_56 rfl q0 he hv hd k
theorem gf_Mo_59 {X : zX} {cc : ByteArray} {n d : Nat} {c : zY} {w : va_W} {L : List (Nat × Value)} {pc a : Nat} {st : List Value} {fs : List Value} {v : Value} (hX : Ok X zr_Mo cc n d c) (q0 : Nat) (he : w[q0]? = some (a, .inr (10, fs))) (hv : fs[32]? = some v) (hd : decode cc pc = .ok (.getfield 59, 3)) (k : Go X w L (pc + 3) (v :: st)) : Go X w L pc (.ref a :: st) := g_get hX zi_Mo 32 rfl zH_Mo_59 rfl q0 he hv hd k
theorem gf_Mo_62 {X : zX} {cc : ByteArray} {n d : Nat} {c : zY} {w : va_W} {L : List (Nat × Value)} {pc a : Nat} {st : List Value} {fs : List Value} {v : Value} (hX : Ok X zr_Mo cc n d c) (q0 : Nat) (he : w[q0]? = some (a, .inr (10, fs))) (hv : fs[33]? = some v) (hd : decode cc pc = .ok (.getfield 62, 3)) (k : Go X w L (pc + 3) (v :: st)) : Go X w L pc (.ref a :: st) := g_get hX zi_Mo 33 rfl zH_Mo_62 rfl q0 he hv hd k
theorem gf_Mo_65 {X : zX} {cc : ByteArray} {n d : Nat} {c : zY} {w : va_W} {L : List (Nat × Value)} {pc a : Nat} {st : List Value} {fs : List Value} {v : Value} (hX : Ok X zr_Mo cc n d c) (q0 : Nat) (he : w[q0]? = some (a, .inr (10, fs))) (hv : fs[34]? = some v) (hd : decode cc pc = .ok (.getfield 65, 3)) (k : Go X w L (pc + 3) (v :: st)) : Go X w L pc (.ref a :: st) := g_get hX zi_Mo 34 rfl zH_Mo_65 rfl q0 he hv hd k
theorem gf_Mo_68 {X : zX} {cc : ByteArray} {n d : Nat} {c : zY} {w : va_W} {L : List (Nat × Value)} {pc a : Nat} {st : List Value} {fs : List Value} {v : Value} (hX : Ok X zr_Mo cc n d c) (q0 : Nat) (he : w[q0]? = some (a, .inr (10, fs))) (hv : fs[35]? = some v) (hd : decode cc pc = .ok (.getfield 68, 3)) (k : Go X w L (pc + 3) (v :: st)) : Go X w L pc (.ref a :: st) := g_get hX zi_Mo 35 rfl zH_Mo_68 rfl q0 he hv hd k
theorem gf_Mo_224 {X : zX} {cc : ByteArray} {n d : Nat} {c : zY} {w : va_W} {L : List (Nat × Value)} {pc a : Nat} {st : List Value} {fs : List Value} {v : Value} (hX : Ok X zr_Mo cc n d c) (q0 : Nat) (he : w[q0]? = some (a, .inr (10, fs))) (hv : fs[36]? = some v) (hd : decode cc pc = .ok (.getfield 224, 3)) (k : Go X w L (pc + 3) (v :: st)) : Go X w L pc (.ref a :: st) := g_get hX zi_Mo 36 rfl zH_Mo_224 rfl q0 he hv hd k
theorem pf_Mo_224 {X : zX} {cc : ByteArray} {n d : Nat} {c : zY} {w w2 : va_W} {L : List (Nat × Value)} {pc a : Nat} {st : List Value} {fs : List Value} {v : Int32} (hX : Ok X zr_Mo cc n d c) (q0 : Nat) (he : w[q0]? = some (a, .inr (10, fs))) (hl0 : Nat.blt 36 fs.length = true) (hw : w.set q0 (a, .inr (10, fs.set 36 (.int v))) = w2) (hd : decode cc pc = .ok (.putfield 224, 3)) (k : Go X w2 L (pc + 3) st) : Go X w L pc (.int v :: .ref a :: st) := g_put zt_Mo zo_Mo zn_Mo hX zi_Mo 36 rfl zH_Mo_224 rfl rfl rfl rfl rfl q0 he hl0 hw hd k
theorem gf_Mo_231 {X : zX} {cc : ByteArray} {n d : Nat} {c : zY} {w : va_W} {L : List (Nat × Value)} {pc a : Nat} {st : List Value} {fs : List Value} {v : Value} (hX : Ok X zr_Mo cc n d c) (q0 : Nat) (he : w[q0]? = some (a, .inr (10, fs))) (hv : fs[37]? = some v) (hd : decode cc pc = .ok (.getfield 231, 3)) (k : Go X w L (pc + 3) (v :: st)) : Go X w L pc (.ref a :: st) := g_get hX zi_Mo 37 rfl zH_Mo_231 rfl q0 he hv hd k
theorem pf_Mo_231 {X : zX} {cc : ByteArray} {n d : Nat} {c : zY} {w w2 : va_W} {L : List (Nat × Value)} {pc a : Nat} {st : List Value} {fs : List Value} {v : Int32} (hX : Ok X zr_Mo cc n d c) (q0 : Nat) (he : w[q0]? = some (a, .inr (10, fs))) (hl0 : Nat.blt 37 fs.length = true) (hw : w.set q0 (a, .inr (10, fs.set 37 (.int v))) = w2) (hd : decode cc pc = .ok (.putfield 231, 3)) (k : Go X w2 L (pc + 3) st) : Go X w L pc (.int v :: .ref a :: st) := g_put zt_Mo zo_Mo zn_Mo hX zi_Mo 37 rfl zH_Mo_231 rfl rfl rfl rfl rfl q0 he hl0 hw hd k
theorem gf_Mo_253 {X : zX} {cc : ByteArray} {n d : Nat} {c : zY} {w : va_W} {L : List (Nat × Value)} {pc a : Nat} {st : List Value} {fs : List Value} {v : Value} (hX : Ok X zr_Mo cc n d c) (q0 : Nat) (he : w[q0]? = some (a, .inr (10, fs))) (hv : fs[38]? = some v) (hd : decode cc pc = .ok (.getfield 253, 3)) (k : Go X w L (pc + 3) (v :: st)) : Go X w L pc (.ref a :: st) := g_get hX zi_Mo 38 rfl zH_Mo_253 rfl q0 he hv hd k
theorem pf_Mo_253 {X : zX} {cc : ByteArray} {n d : Nat} {c : zY} {w w2 : va_W} {L : List (Nat × Value)} {pc a : Nat} {st : List Value} {fs : List Value} {v : Int32} (hX : Ok X zr_Mo cc n d c) (q0 : Nat) (he : w[q0]? = some (a, .inr (10, fs))) (hl0 : Nat.blt 38 fs.length = true) (hw : w.set q0 (a, .inr (10, fs.set 38 (.int v))) = w2) (hd : decode cc pc = .ok (.putfield 253, 3)) (k : Go X w2 L (pc + 3) st) : Go X w L pc (.int v :: .ref a :: st) := g_put zt_Mo zo_Mo zn_Mo hX zi_Mo 38 rfl zH_Mo_253 rfl rfl rfl rfl rfl q0 he hl0 hw hd k
theorem gf_Mo_71 {X : zX} {cc : ByteArray} {n d : Nat} {c : zY} {w : va_W} {L : List (Nat × Value)} {pc a : Nat} {st : List Value} {fs : List Value} {v : Value} (hX : Ok X zr_Mo cc n d c) (q0 : Nat) (he : w[q0]? = some (a, .inr (10, fs))) (hv : fs[39]? = some v) (hd : decode cc pc = .ok (.getfield 71, 3)) (k : Go X w L (pc + 3) (v :: st)) : Go X w L pc (.ref a :: st) := g_get hX zi_Mo 39 rfl zH_Mo_71 rfl q0 he hv hd k
theorem gf_Mo_75 {X : zX} {cc : ByteArray} {n d : Nat} {c : zY} {w : va_W} {L : List (Nat × Value)} {pc a : Nat} {st : List Value} {fs : List Value} {v : Value} (hX : Ok X zr_Mo cc n d c) (q0 : Nat) (he : w[q0]? = some (a, .inr (10, fs))) (hv : fs[40]? = some v) (hd : decode cc pc = .ok (.getfield 75, 3)) (k : Go X w L (pc + 3) (v :: st)) : Go X w L pc (.ref a :: st) := g_get hX zi_Mo 40 rfl zH_Mo_75 rfl q0 he hv hd k
theorem gf_Mo_78 {X : zX} {cc : ByteArray} {n d : Nat} {c : zY} {w : va_W} {L : List (Nat × Value)} {pc a : Nat} {st : List Value} {fs : List Value} {v : Value} (hX : Ok X zr_Mo cc n d c) (q0 : Nat) (he : w[q0]? = some (a, .inr (10, fs))) (hv : fs[41]? = some v) (hd : decode cc pc = .ok (.getfield 78, 3)) (k : Go X w L (pc + 3) (v :: st)) : Go X w L pc (.ref a :: st) := g_get hX zi_Mo 41 rfl zH_Mo_78 rfl q0 he hv hd k
theorem gf_Mo_317 {X : zX} {cc : ByteArray} {n d : Nat} {c : zY} {w : va_W} {L : List (Nat × Value)} {pc a : Nat} {st : List Value} {fs : List Value} {v : Value} (hX : Ok X zr_Mo cc n d c) (q0 : Nat) (he : w[q0]? = some (a, .inr (10, fs))) (hv : fs[42]? = some v) (hd : decode cc pc = .ok (.getfield 317, 3)) (k : Go X w L (pc + 3) (v :: st)) : Go X w L pc (.ref a :: st) := g_get hX zi_Mo 42 rfl zH_Mo_317 rfl q0 he hv hd k
theorem pf_Mo_317 {X : zX} {cc : ByteArray} {n d : Nat} {c : zY} {w w2 : va_W} {L : List (Nat × Value)} {pc a : Nat} {st : List Value} {fs : List Value} {v : Int32} (hX : Ok X zr_Mo cc n d c) (q0 : Nat) (he : w[q0]? = some (a, .inr (10, fs))) (hl0 : Nat.blt 42 fs.length = true) (hw : w.set q0 (a, .inr (10, fs.set 42 (.int v))) = w2) (hd : decode cc pc = .ok (.putfield 317, 3)) (k : Go X w2 L (pc + 3) st) : Go X w L pc (.int v :: .ref a :: st) := g_put zt_Mo zo_Mo zn_Mo hX zi_Mo 42 rfl zH_Mo_317 rfl rfl rfl rfl rfl q0 he hl0 hw hd k
theorem gf_Mo_302 {X : zX} {cc : ByteArray} {n d : Nat} {c : zY} {w : va_W} {L : List (Nat × Value)} {pc a : Nat} {st : List Value} {fs : List Value} {v : Value} (hX : Ok X zr_Mo cc n d c) (q0 : Nat) (he : w[q0]? = some (a, .inr (10, fs))) (hv : fs[43]? = some v) (hd : decode cc pc = .ok (.getfield 302, 3)) (k : Go X w L (pc + 3) (v :: st)) : Go X w L pc (.ref a :: st) := g_get hX zi_Mo 43 rfl zH_Mo_302 rfl q0 he hv hd k
theorem pf_Mo_302 {X : zX} {cc : ByteArray} {n d : Nat} {c : zY} {w w2 : va_W} {L : List (Nat × Value)} {pc a : Nat} {st : List Value} {fs : List Value} {v : Int32} (hX : Ok X zr_Mo cc n d c) (q0 : Nat) (he : w[q0]? = some (a, .inr (10, fs))) (hl0 : Nat.blt 43 fs.length = true) (hw : w.set q0 (a, .inr (10, fs.set 43 (.int v))) = w2) (hd : decode cc pc = .ok (.putfield 302, 3)) (k : Go X w2 L (pc + 3) st) : Go X w L pc (.int v :: .ref a :: st) := g_put zt_Mo zo_Mo zn_Mo hX zi_Mo 43 rfl zH_Mo_302 rfl rfl rfl rfl rfl q0 he hl0 hw hd k
theorem gf_Mo_324 {X : zX} {cc : ByteArray} {n d : Nat} {c : zY} {w : va_W} {L : List (Nat × Value)} {pc a : Nat} {st : List Value} {fs : List Value} {v : Value} (hX : Ok X zr_Mo cc n d c) (q0 : Nat) (he : w[q0]? = some (a, .inr (10, fs))) (hv : fs[44]? = some v) (hd : decode cc pc = .ok (.getfield 324, 3)) (k : Go X w L (pc + 3) (v :: st)) : Go X w L pc (.ref a :: st) := g_get hX zi_Mo 44 rfl zH_Mo_324 rfl q0 he hv hd k
theorem pf_Mo_324 {X : zX} {cc : ByteArray} {n d : Nat} {c : zY} {w w2 : va_W} {L : List (Nat × Value)} {pc a : Nat} {st : List Value} {fs : List Value} {v : Int32} (hX : Ok X zr_Mo cc n d c) (hb : v = 0 ∨ v = 1) (q0 : Nat) (he : w[q0]? = some (a, .inr (10, fs))) (hl0 : Nat.blt 44 fs.length = true) (hw : w.set q0 (a, .inr (10, fs.set 44 (.int v))) = w2) (hd : decode cc pc = .ok (.putfield 324, 3)) (k : Go X w2 L (pc + 3) st) : Go X w L pc (.int v :: .ref a :: st) := g_put zt_Mo zo_Mo zn_Mo hX zi_Mo 44 rfl zH_Mo_324 rfl rfl rfl (zbn hb) (zbf hb) q0 he hl0 hw hd k
theorem gf_Mo_298 {X : zX} {cc : ByteArray} {n d : Nat} {c : zY} {w : va_W} {L : List (Nat × Value)} {pc a : Nat} {st : List Value} {fs : List Value} {v : Value} (hX : Ok X zr_Mo cc n d c) (q0 : Nat) (he : w[q0]? = some (a, .inr (10, fs))) (hv : fs[45]? = some v) (hd : decode cc pc = .ok (.getfield 298, 3)) (k : Go X w L (pc + 3) (v :: st)) : Go X w L pc (.ref a :: st) := g_get hX zi_Mo 45 rfl zH_Mo_298 rfl q0 he hv hd k
theorem pf_Mo_298 {X : zX} {cc : ByteArray} {n d : Nat} {c : zY} {w w2 : va_W} {L : List (Nat × Value)} {pc a : Nat} {st : List Value} {fs : List Value} {v : Int32} (hX : Ok X zr_Mo cc n d c) (hb : v = 0 ∨ v = 1) (q0 : Nat) (he : w[q0]? = some (a, .inr (10, fs))) (hl0 : Nat.blt 45 fs.length = true) (hw : w.set q0 (a, .inr (10, fs.set 45 (.int v))) = w2) (hd : decode cc pc = .ok (.putfield 298, 3)) (k : Go X w2 L (pc + 3) st) : Go X w L pc (.int v :: .ref a :: st) := g_put zt_Mo zo_Mo zn_Mo hX zi_Mo 45 rfl zH_Mo_298 rfl rfl rfl (zbn hb) (zbf hb) q0 he hl0 hw hd k
theorem zp_Ch : plainName zr_Ch = true := by decide +kernel
theorem zp_Co : plainName zr_Co = true := by decide +kernel
theorem zp_En : plainName zr_En = true := by decide +kernel
theorem zp_Fi : plainName zr_Fi = true := by decide +kernel
theorem zp_Jo : plainName zr_Jo = true := by decide +kernel
theorem zp_St : plainName zr_St = true := by decide +kernel
theorem zp_Ta : plainName zr_Ta = true := by decide +kernel
theorem zp_Tp : plainName zr_Tp = true := by decide +kernel
theorem zp_Wa : plainName zr_Wa = true := by decide +kernel
theorem zp_EL : plainName zr_EL = true := by decide +kernel
theorem zp_Mo : plainName zr_Mo = true := by decide +kernel
theorem zp_Ar : plainName zr_Ar = true := by decide +kernel
theorem zc_m1 : Int32.ofInt (-1) = -1 := by decide
theorem zc_0 : Int32.ofInt (0) = 0 := by decide
theorem zc_1 : Int32.ofInt (1) = 1 := by decide
theorem zc_2 : Int32.ofInt (2) = 2 := by decide
theorem zc_3 : Int32.ofInt (3) = 3 := by decide
theorem zc_4 : Int32.ofInt (4) = 4 := by decide
theorem zc_5 : Int32.ofInt (5) = 5 := by decide
theorem ze_m100 : (Int8.ofInt (-100)).toInt32 = -100 := by decide
theorem ze_m5 : (Int8.ofInt (-5)).toInt32 = -5 := by decide
theorem ze_m4 : (Int8.ofInt (-4)).toInt32 = -4 := by decide
theorem ze_m3 : (Int8.ofInt (-3)).toInt32 = -3 := by decide
theorem ze_m2 : (Int8.ofInt (-2)).toInt32 = -2 := by decide
theorem ze_6 : (Int8.ofInt (6)).toInt32 = 6 := by decide
theorem ze_7 : (Int8.ofInt (7)).toInt32 = 7 := by decide
theorem ze_8 : (Int8.ofInt (8)).toInt32 = 8 := by decide
theorem ze_9 : (Int8.ofInt (9)).toInt32 = 9 := by decide
theorem ze_10 : (Int8.ofInt (10)).toInt32 = 10 := by decide
theorem ze_11 : (Int8.ofInt (11)).toInt32 = 11 := by decide
theorem ze_12 : (Int8.ofInt (12)).toInt32 = 12 := by decide
theorem ze_13 : (Int8.ofInt (13)).toInt32 = 13 := by decide
theorem ze_16 : (Int8.ofInt (16)).toInt32 = 16 := by decide
theorem ze_20 : (Int8.ofInt (20)).toInt32 = 20 := by decide
theorem ze_22 : (Int8.ofInt (22)).toInt32 = 22 := by decide
theorem ze_23 : (Int8.ofInt (23)).toInt32 = 23 := by decide
theorem ze_24 : (Int8.ofInt (24)).toInt32 = 24 := by decide
theorem ze_25 : (Int8.ofInt (25)).toInt32 = 25 := by decide
theorem ze_30 : (Int8.ofInt (30)).toInt32 = 30 := by decide
theorem ze_31 : (Int8.ofInt (31)).toInt32 = 31 := by decide
theorem ze_35 : (Int8.ofInt (35)).toInt32 = 35 := by decide
theorem ze_36 : (Int8.ofInt (36)).toInt32 = 36 := by decide
theorem ze_40 : (Int8.ofInt (40)).toInt32 = 40 := by decide
theorem ze_44 : (Int8.ofInt (44)).toInt32 = 44 := by decide
theorem ze_48 : (Int8.ofInt (48)).toInt32 = 48 := by decide
theorem ze_58 : (Int8.ofInt (58)).toInt32 = 58 := by decide
theorem ze_99 : (Int8.ofInt (99)).toInt32 = 99 := by decide
theorem ze_100 : (Int8.ofInt (100)).toInt32 = 100 := by decide
theorem ze_104 : (Int8.ofInt (104)).toInt32 = 104 := by decide
theorem ze_107 : (Int8.ofInt (107)).toInt32 = 107 := by decide
theorem ze_108 : (Int8.ofInt (108)).toInt32 = 108 := by decide
theorem ze_109 : (Int8.ofInt (109)).toInt32 = 109 := by decide
theorem ze_115 : (Int8.ofInt (115)).toInt32 = 115 := by decide
theorem ze_127 : (Int8.ofInt (127)).toInt32 = 127 := by decide
theorem zh_300 : (Int16.ofInt (300)).toInt32 = 300 := by decide
theorem zh_384 : (Int16.ofInt (384)).toInt32 = 384 := by decide
theorem zh_400 : (Int16.ofInt (400)).toInt32 = 400 := by decide
theorem zh_900 : (Int16.ofInt (900)).toInt32 = 900 := by decide
theorem zh_1000 : (Int16.ofInt (1000)).toInt32 = 1000 := by decide
theorem zh_1013 : (Int16.ofInt (1013)).toInt32 = 1013 := by decide
theorem zh_3200 : (Int16.ofInt (3200)).toInt32 = 3200 := by decide
theorem zh_5065 : (Int16.ofInt (5065)).toInt32 = 5065 := by decide
theorem zh_6078 : (Int16.ofInt (6078)).toInt32 = 6078 := by decide
theorem zh_12345 : (Int16.ofInt (12345)).toInt32 = 12345 := by decide
theorem zh_25600 : (Int16.ofInt (25600)).toInt32 = 25600 := by decide
theorem zc_7 : Int32.ofInt (7) = 7 := by decide
theorem zifb {α : Type} {v : Int32} {K : Option α} {o : α} (h : (if v = 0 ∨ v = 1 then K else none) = some o) : (v = 0 ∨ v = 1) ∧ K = some o := by
  by_cases q : v = 0 ∨ v = 1
  · rw [if_pos q] at h; exact ⟨q, h⟩
  · rw [if_neg q] at h; cases h
def zFu : Nat := 7000
theorem zFu_gt : 6900 < zFu := by unfold zFu; decide
end
section
theorem d_Ta_used_0 : decode zb_Ta_used 0 = .ok (.aload_n 0, 1) := by decide +kernel
theorem d_Ta_used_1 : decode zb_Ta_used 1 = .ok (.getfield 23, 3) := by decide +kernel
theorem d_Ta_used_4 : decode zb_Ta_used 4 = .ok (.ireturn, 1) := by decide +kernel
def k_Ta_used (w : Int32) (n : Nat) (x : zsT) : Option (Int32) := some x.2
theorem c_Ta_used (c : zY) (a0 a1 : Nat) (w : Int32) (n : Nat) (x : zsT) {out : Int32} (h : k_Ta_used w n x = some out) : KM zy_Ta_used zb_Ta_used 1 (some .int) 0 c [.ref a0] (zwT c a0 a1 w n x) (zwT c a0 a1 w n x) (some (.int out)) := zK_of zp_Ta rfl (Nat.le_of_ble_eq_true rfl) (zq_Ta c a0 a1 w n _ _) (fun X hX hR => by
  show Go X (zwT c a0 a1 w n x) [(0, .ref a0)] 0 []
  rw [k_Ta_used] at h
  refine g_aload_n (pc := 0) hX d_Ta_used_0 rfl 0 rfl ?_
  refine gf_Ta_23 (pc := 1) (v := .int x.2) hX 0 rfl rfl d_Ta_used_1 ?_
  cases h
  exact g_iret (pc := 4) hX hR d_Ta_used_4)
theorem d_Ta_holds_0 : decode zb_Ta_holds 0 = .ok (.iload_n 1, 1) := by decide +kernel
theorem d_Ta_holds_1 : decode zb_Ta_holds 1 = .ok (.ifCond .lt 15, 3) := by decide +kernel
theorem d_Ta_holds_4 : decode zb_Ta_holds 4 = .ok (.iload_n 1, 1) := by decide +kernel
theorem d_Ta_holds_5 : decode zb_Ta_holds 5 = .ok (.aload_n 0, 1) := by decide +kernel
theorem d_Ta_holds_6 : decode zb_Ta_holds 6 = .ok (.getfield 23, 3) := by decide +kernel
theorem d_Ta_holds_9 : decode zb_Ta_holds 9 = .ok (.if_icmp .ge 7, 3) := by decide +kernel
theorem d_Ta_holds_12 : decode zb_Ta_holds 12 = .ok (.iconst 1, 1) := by decide +kernel
theorem d_Ta_holds_13 : decode zb_Ta_holds 13 = .ok (.goto 4, 3) := by decide +kernel
theorem d_Ta_holds_16 : decode zb_Ta_holds 16 = .ok (.iconst 0, 1) := by decide +kernel
theorem d_Ta_holds_17 : decode zb_Ta_holds 17 = .ok (.ireturn, 1) := by decide +kernel
def k_Ta_holds (w : Int32) (n : Nat) (x : zsT) (l1 : Int32) : Option (Int32) := (if l1 < 0 then some ((0 : Int32)) else (if l1 < x.2 then some ((1 : Int32)) else some ((0 : Int32))))
theorem c_Ta_holds (c : zY) (a0 a1 : Nat) (w : Int32) (n : Nat) (x : zsT) (l1 : Int32) {out : Int32} (h : k_Ta_holds w n x l1 = some out) : KM zy_Ta_holds zb_Ta_holds 2 (some .boolean) 0 c [.ref a0, .int l1] (zwT c a0 a1 w n x) (zwT c a0 a1 w n x) (some (.int out)) := zK_of zp_Ta rfl (Nat.le_of_ble_eq_true rfl) (zq_Ta c a0 a1 w n _ _) (fun X hX hR => by
  show Go X (zwT c a0 a1 w n x) [(0, .ref a0), (1, .int l1)] 0 []
  rw [k_Ta_holds] at h
  refine g_iload_n (pc := 0) hX d_Ta_holds_0 rfl 1 rfl ?_
  refine g_if_lt (pc := 1) (tgt := 16) hX d_Ta_holds_1 (by decide) h (fun c1 h => ?_) (fun c1 h => ?_)
  · refine g_iconst (pc := 16) hX d_Ta_holds_16 zc_0 ?_
    cases h
    exact g_zret (pc := 17) hX hR (Or.inl rfl) d_Ta_holds_17
  · refine g_iload_n (pc := 4) hX d_Ta_holds_4 rfl 1 rfl ?_
    refine g_aload_n (pc := 5) hX d_Ta_holds_5 rfl 0 rfl ?_
    refine gf_Ta_23 (pc := 6) (v := .int x.2) hX 0 rfl rfl d_Ta_holds_6 ?_
    refine g_icmp_ge (pc := 9) (tgt := 16) hX d_Ta_holds_9 (by decide) h (fun c2 h => ?_) (fun c2 h => ?_)
    · refine g_iconst (pc := 16) hX d_Ta_holds_16 zc_0 ?_
      cases h
      exact g_zret (pc := 17) hX hR (Or.inl rfl) d_Ta_holds_17
    · refine g_iconst (pc := 12) hX d_Ta_holds_12 zc_1 ?_
      refine g_goto (pc := 13) (tgt := 17) hX d_Ta_holds_13 (by decide) ?_
      cases h
      exact g_zret (pc := 17) hX hR (Or.inr rfl) d_Ta_holds_17)
theorem d_Ta_get_0 : decode zb_Ta_get 0 = .ok (.iload_n 1, 1) := by decide +kernel
theorem d_Ta_get_1 : decode zb_Ta_get 1 = .ok (.ifCond .lt 23, 3) := by decide +kernel
theorem d_Ta_get_4 : decode zb_Ta_get 4 = .ok (.iload_n 1, 1) := by decide +kernel
theorem d_Ta_get_5 : decode zb_Ta_get 5 = .ok (.aload_n 0, 1) := by decide +kernel
theorem d_Ta_get_6 : decode zb_Ta_get 6 = .ok (.getfield 23, 3) := by decide +kernel
theorem d_Ta_get_9 : decode zb_Ta_get 9 = .ok (.if_icmp .ge 15, 3) := by decide +kernel
theorem d_Ta_get_12 : decode zb_Ta_get 12 = .ok (.iload_n 2, 1) := by decide +kernel
theorem d_Ta_get_13 : decode zb_Ta_get 13 = .ok (.ifCond .lt 11, 3) := by decide +kernel
theorem d_Ta_get_16 : decode zb_Ta_get 16 = .ok (.iload_n 2, 1) := by decide +kernel
theorem d_Ta_get_17 : decode zb_Ta_get 17 = .ok (.aload_n 0, 1) := by decide +kernel
theorem d_Ta_get_18 : decode zb_Ta_get 18 = .ok (.getfield 7, 3) := by decide +kernel
theorem d_Ta_get_21 : decode zb_Ta_get 21 = .ok (.if_icmp .lt 5, 3) := by decide +kernel
theorem d_Ta_get_24 : decode zb_Ta_get 24 = .ok (.iconst 0, 1) := by decide +kernel
theorem d_Ta_get_25 : decode zb_Ta_get 25 = .ok (.ireturn, 1) := by decide +kernel
theorem d_Ta_get_26 : decode zb_Ta_get 26 = .ok (.iload_n 1, 1) := by decide +kernel
theorem d_Ta_get_27 : decode zb_Ta_get 27 = .ok (.aload_n 0, 1) := by decide +kernel
theorem d_Ta_get_28 : decode zb_Ta_get 28 = .ok (.getfield 7, 3) := by decide +kernel
theorem d_Ta_get_31 : decode zb_Ta_get 31 = .ok (.imul, 1) := by decide +kernel
theorem d_Ta_get_32 : decode zb_Ta_get 32 = .ok (.iload_n 2, 1) := by decide +kernel
theorem d_Ta_get_33 : decode zb_Ta_get 33 = .ok (.iadd, 1) := by decide +kernel
theorem d_Ta_get_34 : decode zb_Ta_get 34 = .ok (.istore_n 3, 1) := by decide +kernel
theorem d_Ta_get_35 : decode zb_Ta_get 35 = .ok (.iload_n 3, 1) := by decide +kernel
theorem d_Ta_get_36 : decode zb_Ta_get 36 = .ok (.ifCond .lt 21, 3) := by decide +kernel
theorem d_Ta_get_39 : decode zb_Ta_get 39 = .ok (.iload_n 3, 1) := by decide +kernel
theorem d_Ta_get_40 : decode zb_Ta_get 40 = .ok (.aload_n 0, 1) := by decide +kernel
theorem d_Ta_get_41 : decode zb_Ta_get 41 = .ok (.getfield 19, 3) := by decide +kernel
theorem d_Ta_get_44 : decode zb_Ta_get 44 = .ok (.arraylength, 1) := by decide +kernel
theorem d_Ta_get_45 : decode zb_Ta_get 45 = .ok (.if_icmp .ge 12, 3) := by decide +kernel
theorem d_Ta_get_48 : decode zb_Ta_get 48 = .ok (.aload_n 0, 1) := by decide +kernel
theorem d_Ta_get_49 : decode zb_Ta_get 49 = .ok (.getfield 19, 3) := by decide +kernel
theorem d_Ta_get_52 : decode zb_Ta_get 52 = .ok (.iload_n 3, 1) := by decide +kernel
theorem d_Ta_get_53 : decode zb_Ta_get 53 = .ok (.iaload, 1) := by decide +kernel
theorem d_Ta_get_54 : decode zb_Ta_get 54 = .ok (.goto 4, 3) := by decide +kernel
theorem d_Ta_get_57 : decode zb_Ta_get 57 = .ok (.iconst 0, 1) := by decide +kernel
theorem d_Ta_get_58 : decode zb_Ta_get 58 = .ok (.ireturn, 1) := by decide +kernel
def k_Ta_get (w : Int32) (n : Nat) (x : zsT) (l1 : Int32) (l2 : Int32) : Option (Int32) := (if l1 < 0 then some ((0 : Int32)) else (if l1 < x.2 then (if l2 < 0 then some ((0 : Int32)) else (if l2 < w then (if ((l1 * w) + l2) < 0 then some ((0 : Int32)) else (if ((l1 * w) + l2) < (Int32.ofNat n) then (if zOut (((l1 * w) + l2)) n then none else some ((x.1 (((l1 * w) + l2)).toNatClampNeg))) else some ((0 : Int32)))) else some ((0 : Int32)))) else some ((0 : Int32))))
theorem c_Ta_get (c : zY) (a0 a1 : Nat) (w : Int32) (n : Nat) (x : zsT) (l1 : Int32) (l2 : Int32) {out : Int32} (h : k_Ta_get w n x l1 l2 = some out) : KM zy_Ta_get zb_Ta_get 4 (some .int) 0 c [.ref a0, .int l1, .int l2] (zwT c a0 a1 w n x) (zwT c a0 a1 w n x) (some (.int out)) := zK_of zp_Ta rfl (Nat.le_of_ble_eq_true rfl) (zq_Ta c a0 a1 w n _ _) (fun X hX hR => by
  show Go X (zwT c a0 a1 w n x) [(0, .ref a0), (1, .int l1), (2, .int l2)] 0 []
  rw [k_Ta_get] at h
  refine g_iload_n (pc := 0) hX d_Ta_get_0 rfl 1 rfl ?_
  refine g_if_lt (pc := 1) (tgt := 24) hX d_Ta_get_1 (by decide) h (fun c1 h => ?_) (fun c1 h => ?_)
  · refine g_iconst (pc := 24) hX d_Ta_get_24 zc_0 ?_
    cases h
    exact g_iret (pc := 25) hX hR d_Ta_get_25
  · refine g_iload_n (pc := 4) hX d_Ta_get_4 rfl 1 rfl ?_
    refine g_aload_n (pc := 5) hX d_Ta_get_5 rfl 0 rfl ?_
    refine gf_Ta_23 (pc := 6) (v := .int x.2) hX 0 rfl rfl d_Ta_get_6 ?_
    refine g_icmp_ge (pc := 9) (tgt := 24) hX d_Ta_get_9 (by decide) h (fun c2 h => ?_) (fun c2 h => ?_)
    · refine g_iconst (pc := 24) hX d_Ta_get_24 zc_0 ?_
      cases h
      exact g_iret (pc := 25) hX hR d_Ta_get_25
    · refine g_iload_n (pc := 12) hX d_Ta_get_12 rfl 2 rfl ?_
      refine g_if_lt (pc := 13) (tgt := 24) hX d_Ta_get_13 (by decide) h (fun c3 h => ?_) (fun c3 h => ?_)
      · refine g_iconst (pc := 24) hX d_Ta_get_24 zc_0 ?_
        cases h
        exact g_iret (pc := 25) hX hR d_Ta_get_25
      · refine g_iload_n (pc := 16) hX d_Ta_get_16 rfl 2 rfl ?_
        refine g_aload_n (pc := 17) hX d_Ta_get_17 rfl 0 rfl ?_
        refine gf_Ta_7 (pc := 18) (v := .int w) hX 0 rfl rfl d_Ta_get_18 ?_
        refine g_icmp_lt (pc := 21) (tgt := 26) hX d_Ta_get_21 (by decide) h (fun c4 h => ?_) (fun c4 h => ?_)
        · refine g_iload_n (pc := 26) hX d_Ta_get_26 rfl 1 rfl ?_
          refine g_aload_n (pc := 27) hX d_Ta_get_27 rfl 0 rfl ?_
          refine gf_Ta_7 (pc := 28) (v := .int w) hX 0 rfl rfl d_Ta_get_28 ?_
          refine g_imul (pc := 31) hX d_Ta_get_31 ?_
          refine g_iload_n (pc := 32) hX d_Ta_get_32 rfl 2 rfl ?_
          refine g_iadd (pc := 33) hX d_Ta_get_33 ?_
          refine g_istore_n (pc := 34) (L' := [(3, .int (((l1 * w) + l2))), (0, .ref a0), (1, .int l1), (2, .int l2)]) hX d_Ta_get_34 rfl rfl rfl ?_
          refine g_iload_n (pc := 35) hX d_Ta_get_35 rfl 0 rfl ?_
          refine g_if_lt (pc := 36) (tgt := 57) hX d_Ta_get_36 (by decide) h (fun c5 h => ?_) (fun c5 h => ?_)
          · refine g_iconst (pc := 57) hX d_Ta_get_57 zc_0 ?_
            cases h
            exact g_iret (pc := 58) hX hR d_Ta_get_58
          · refine g_iload_n (pc := 39) hX d_Ta_get_39 rfl 0 rfl ?_
            refine g_aload_n (pc := 40) hX d_Ta_get_40 rfl 1 rfl ?_
            refine gf_Ta_19 (pc := 41) (v := .ref a1) hX 0 rfl rfl d_Ta_get_41 ?_
            refine g_alen (pc := 44) (v := (Int32.ofNat n)) hX 1 rfl rfl d_Ta_get_44 ?_
            refine g_icmp_ge (pc := 45) (tgt := 57) hX d_Ta_get_45 (by decide) h (fun c6 h => ?_) (fun c6 h => ?_)
            · refine g_iconst (pc := 57) hX d_Ta_get_57 zc_0 ?_
              cases h
              exact g_iret (pc := 58) hX hR d_Ta_get_58
            · refine g_aload_n (pc := 48) hX d_Ta_get_48 rfl 1 rfl ?_
              refine gf_Ta_19 (pc := 49) (v := .ref a1) hX 0 rfl rfl d_Ta_get_49 ?_
              refine g_iload_n (pc := 52) hX d_Ta_get_52 rfl 0 rfl ?_
              refine g_iald (pc := 53) (f := x.1) hX 1 rfl h d_Ta_get_53 (fun h => ?_)
              refine g_goto (pc := 54) (tgt := 58) hX d_Ta_get_54 (by decide) ?_
              cases h
              exact g_iret (pc := 58) hX hR d_Ta_get_58
        · refine g_iconst (pc := 24) hX d_Ta_get_24 zc_0 ?_
          cases h
          exact g_iret (pc := 25) hX hR d_Ta_get_25)
theorem d_Ta_set_0 : decode zb_Ta_set 0 = .ok (.iload_n 1, 1) := by decide +kernel
theorem d_Ta_set_1 : decode zb_Ta_set 1 = .ok (.ifCond .lt 23, 3) := by decide +kernel
theorem d_Ta_set_4 : decode zb_Ta_set 4 = .ok (.iload_n 1, 1) := by decide +kernel
theorem d_Ta_set_5 : decode zb_Ta_set 5 = .ok (.aload_n 0, 1) := by decide +kernel
theorem d_Ta_set_6 : decode zb_Ta_set 6 = .ok (.getfield 23, 3) := by decide +kernel
theorem d_Ta_set_9 : decode zb_Ta_set 9 = .ok (.if_icmp .ge 15, 3) := by decide +kernel
theorem d_Ta_set_12 : decode zb_Ta_set 12 = .ok (.iload_n 2, 1) := by decide +kernel
theorem d_Ta_set_13 : decode zb_Ta_set 13 = .ok (.ifCond .lt 11, 3) := by decide +kernel
theorem d_Ta_set_16 : decode zb_Ta_set 16 = .ok (.iload_n 2, 1) := by decide +kernel
theorem d_Ta_set_17 : decode zb_Ta_set 17 = .ok (.aload_n 0, 1) := by decide +kernel
theorem d_Ta_set_18 : decode zb_Ta_set 18 = .ok (.getfield 7, 3) := by decide +kernel
theorem d_Ta_set_21 : decode zb_Ta_set 21 = .ok (.if_icmp .lt 4, 3) := by decide +kernel
theorem d_Ta_set_24 : decode zb_Ta_set 24 = .ok (.return_, 1) := by decide +kernel
theorem d_Ta_set_25 : decode zb_Ta_set 25 = .ok (.iload_n 1, 1) := by decide +kernel
theorem d_Ta_set_26 : decode zb_Ta_set 26 = .ok (.aload_n 0, 1) := by decide +kernel
theorem d_Ta_set_27 : decode zb_Ta_set 27 = .ok (.getfield 7, 3) := by decide +kernel
theorem d_Ta_set_30 : decode zb_Ta_set 30 = .ok (.imul, 1) := by decide +kernel
theorem d_Ta_set_31 : decode zb_Ta_set 31 = .ok (.iload_n 2, 1) := by decide +kernel
theorem d_Ta_set_32 : decode zb_Ta_set 32 = .ok (.iadd, 1) := by decide +kernel
theorem d_Ta_set_33 : decode zb_Ta_set 33 = .ok (.istore 4, 2) := by decide +kernel
theorem d_Ta_set_35 : decode zb_Ta_set 35 = .ok (.iload 4, 2) := by decide +kernel
theorem d_Ta_set_37 : decode zb_Ta_set 37 = .ok (.ifCond .lt 21, 3) := by decide +kernel
theorem d_Ta_set_40 : decode zb_Ta_set 40 = .ok (.iload 4, 2) := by decide +kernel
theorem d_Ta_set_42 : decode zb_Ta_set 42 = .ok (.aload_n 0, 1) := by decide +kernel
theorem d_Ta_set_43 : decode zb_Ta_set 43 = .ok (.getfield 19, 3) := by decide +kernel
theorem d_Ta_set_46 : decode zb_Ta_set 46 = .ok (.arraylength, 1) := by decide +kernel
theorem d_Ta_set_47 : decode zb_Ta_set 47 = .ok (.if_icmp .ge 11, 3) := by decide +kernel
theorem d_Ta_set_50 : decode zb_Ta_set 50 = .ok (.aload_n 0, 1) := by decide +kernel
theorem d_Ta_set_51 : decode zb_Ta_set 51 = .ok (.getfield 19, 3) := by decide +kernel
theorem d_Ta_set_54 : decode zb_Ta_set 54 = .ok (.iload 4, 2) := by decide +kernel
theorem d_Ta_set_56 : decode zb_Ta_set 56 = .ok (.iload_n 3, 1) := by decide +kernel
theorem d_Ta_set_57 : decode zb_Ta_set 57 = .ok (.iastore, 1) := by decide +kernel
theorem d_Ta_set_58 : decode zb_Ta_set 58 = .ok (.return_, 1) := by decide +kernel
def k_Ta_set (w : Int32) (n : Nat) (x : zsT) (l1 : Int32) (l2 : Int32) (l3 : Int32) : Option (zsT) := (if l1 < 0 then some x else (if l1 < x.2 then (if l2 < 0 then some x else (if l2 < w then (if ((l1 * w) + l2) < 0 then some x else (if ((l1 * w) + l2) < (Int32.ofNat n) then (if zOut (((l1 * w) + l2)) n then none else some (((upd x.1 (((l1 * w) + l2)).toNatClampNeg l3), x.2))) else some x)) else some x)) else some x))
theorem c_Ta_set (c : zY) (a0 a1 : Nat) (w : Int32) (n : Nat) (x : zsT) (l1 : Int32) (l2 : Int32) (l3 : Int32) {out : zsT} (h : k_Ta_set w n x l1 l2 l3 = some out) : KM zy_Ta_set zb_Ta_set 5 none 0 c [.ref a0, .int l1, .int l2, .int l3] (zwT c a0 a1 w n x) (zwT c a0 a1 w n out) none := zK_of zp_Ta rfl (Nat.le_of_ble_eq_true rfl) (zq_Ta c a0 a1 w n _ _) (fun X hX hR => by
  show Go X (zwT c a0 a1 w n x) [(0, .ref a0), (1, .int l1), (2, .int l2), (3, .int l3)] 0 []
  rw [k_Ta_set] at h
  refine g_iload_n (pc := 0) hX d_Ta_set_0 rfl 1 rfl ?_
  refine g_if_lt (pc := 1) (tgt := 24) hX d_Ta_set_1 (by decide) h (fun c1 h => ?_) (fun c1 h => ?_)
  · cases h
    exact g_vret (pc := 24) hX hR d_Ta_set_24
  · refine g_iload_n (pc := 4) hX d_Ta_set_4 rfl 1 rfl ?_
    refine g_aload_n (pc := 5) hX d_Ta_set_5 rfl 0 rfl ?_
    refine gf_Ta_23 (pc := 6) (v := .int x.2) hX 0 rfl rfl d_Ta_set_6 ?_
    refine g_icmp_ge (pc := 9) (tgt := 24) hX d_Ta_set_9 (by decide) h (fun c2 h => ?_) (fun c2 h => ?_)
    · cases h
      exact g_vret (pc := 24) hX hR d_Ta_set_24
    · refine g_iload_n (pc := 12) hX d_Ta_set_12 rfl 2 rfl ?_
      refine g_if_lt (pc := 13) (tgt := 24) hX d_Ta_set_13 (by decide) h (fun c3 h => ?_) (fun c3 h => ?_)
      · cases h
        exact g_vret (pc := 24) hX hR d_Ta_set_24
      · refine g_iload_n (pc := 16) hX d_Ta_set_16 rfl 2 rfl ?_
        refine g_aload_n (pc := 17) hX d_Ta_set_17 rfl 0 rfl ?_
        refine gf_Ta_7 (pc := 18) (v := .int w) hX 0 rfl rfl d_Ta_set_18 ?_
        refine g_icmp_lt (pc := 21) (tgt := 25) hX d_Ta_set_21 (by decide) h (fun c4 h => ?_) (fun c4 h => ?_)
        · refine g_iload_n (pc := 25) hX d_Ta_set_25 rfl 1 rfl ?_
          refine g_aload_n (pc := 26) hX d_Ta_set_26 rfl 0 rfl ?_
          refine gf_Ta_7 (pc := 27) (v := .int w) hX 0 rfl rfl d_Ta_set_27 ?_
          refine g_imul (pc := 30) hX d_Ta_set_30 ?_
          refine g_iload_n (pc := 31) hX d_Ta_set_31 rfl 2 rfl ?_
          refine g_iadd (pc := 32) hX d_Ta_set_32 ?_
          refine g_istore (pc := 33) (L' := [(4, .int (((l1 * w) + l2))), (0, .ref a0), (1, .int l1), (2, .int l2), (3, .int l3)]) hX d_Ta_set_33 rfl rfl ?_
          refine g_iload (pc := 35) hX d_Ta_set_35 0 rfl ?_
          refine g_if_lt (pc := 37) (tgt := 58) hX d_Ta_set_37 (by decide) h (fun c5 h => ?_) (fun c5 h => ?_)
          · cases h
            exact g_vret (pc := 58) hX hR d_Ta_set_58
          · refine g_iload (pc := 40) hX d_Ta_set_40 0 rfl ?_
            refine g_aload_n (pc := 42) hX d_Ta_set_42 rfl 1 rfl ?_
            refine gf_Ta_19 (pc := 43) (v := .ref a1) hX 0 rfl rfl d_Ta_set_43 ?_
            refine g_alen (pc := 46) (v := (Int32.ofNat n)) hX 1 rfl rfl d_Ta_set_46 ?_
            refine g_icmp_ge (pc := 47) (tgt := 58) hX d_Ta_set_47 (by decide) h (fun c6 h => ?_) (fun c6 h => ?_)
            · cases h
              exact g_vret (pc := 58) hX hR d_Ta_set_58
            · refine g_aload_n (pc := 50) hX d_Ta_set_50 rfl 1 rfl ?_
              refine gf_Ta_19 (pc := 51) (v := .ref a1) hX 0 rfl rfl d_Ta_set_51 ?_
              refine g_iload (pc := 54) hX d_Ta_set_54 0 rfl ?_
              refine g_iload_n (pc := 56) hX d_Ta_set_56 rfl 4 rfl ?_
              refine g_iast (pc := 57) (f := x.1) (w' := (zwT c a0 a1 w n (((upd x.1 (((l1 * w) + l2)).toNatClampNeg l3), x.2)))) hX 1 rfl h (sa_Ta_1 c a0 a1 w n x (upd x.1 (((l1 * w) + l2)).toNatClampNeg l3)) d_Ta_set_57 (fun h => ?_)
              cases h
              exact g_vret (pc := 58) hX hR d_Ta_set_58
        · cases h
          exact g_vret (pc := 24) hX hR d_Ta_set_24)
theorem d_Ta_append_0 : decode zb_Ta_append 0 = .ok (.aload_n 0, 1) := by decide +kernel
theorem d_Ta_append_1 : decode zb_Ta_append 1 = .ok (.getfield 23, 3) := by decide +kernel
theorem d_Ta_append_4 : decode zb_Ta_append 4 = .ok (.aload_n 0, 1) := by decide +kernel
theorem d_Ta_append_5 : decode zb_Ta_append 5 = .ok (.getfield 7, 3) := by decide +kernel
theorem d_Ta_append_8 : decode zb_Ta_append 8 = .ok (.imul, 1) := by decide +kernel
theorem d_Ta_append_9 : decode zb_Ta_append 9 = .ok (.istore_n 1, 1) := by decide +kernel
theorem d_Ta_append_10 : decode zb_Ta_append 10 = .ok (.iload_n 1, 1) := by decide +kernel
theorem d_Ta_append_11 : decode zb_Ta_append 11 = .ok (.ifCond .lt 17, 3) := by decide +kernel
theorem d_Ta_append_14 : decode zb_Ta_append 14 = .ok (.iload_n 1, 1) := by decide +kernel
theorem d_Ta_append_15 : decode zb_Ta_append 15 = .ok (.aload_n 0, 1) := by decide +kernel
theorem d_Ta_append_16 : decode zb_Ta_append 16 = .ok (.getfield 7, 3) := by decide +kernel
theorem d_Ta_append_19 : decode zb_Ta_append 19 = .ok (.iadd, 1) := by decide +kernel
theorem d_Ta_append_20 : decode zb_Ta_append 20 = .ok (.aload_n 0, 1) := by decide +kernel
theorem d_Ta_append_21 : decode zb_Ta_append 21 = .ok (.getfield 19, 3) := by decide +kernel
theorem d_Ta_append_24 : decode zb_Ta_append 24 = .ok (.arraylength, 1) := by decide +kernel
theorem d_Ta_append_25 : decode zb_Ta_append 25 = .ok (.if_icmp .le 5, 3) := by decide +kernel
theorem d_Ta_append_28 : decode zb_Ta_append 28 = .ok (.iconst (-1), 1) := by decide +kernel
theorem d_Ta_append_29 : decode zb_Ta_append 29 = .ok (.ireturn, 1) := by decide +kernel
theorem d_Ta_append_30 : decode zb_Ta_append 30 = .ok (.iload_n 1, 1) := by decide +kernel
theorem d_Ta_append_31 : decode zb_Ta_append 31 = .ok (.istore_n 2, 1) := by decide +kernel
theorem d_Ta_append_32 : decode zb_Ta_append 32 = .ok (.iload_n 2, 1) := by decide +kernel
theorem d_Ta_append_33 : decode zb_Ta_append 33 = .ok (.iload_n 1, 1) := by decide +kernel
theorem d_Ta_append_34 : decode zb_Ta_append 34 = .ok (.aload_n 0, 1) := by decide +kernel
theorem d_Ta_append_35 : decode zb_Ta_append 35 = .ok (.getfield 7, 3) := by decide +kernel
theorem d_Ta_append_38 : decode zb_Ta_append 38 = .ok (.iadd, 1) := by decide +kernel
theorem d_Ta_append_39 : decode zb_Ta_append 39 = .ok (.if_icmp .ge 25, 3) := by decide +kernel
theorem d_Ta_append_42 : decode zb_Ta_append 42 = .ok (.iload_n 2, 1) := by decide +kernel
theorem d_Ta_append_43 : decode zb_Ta_append 43 = .ok (.aload_n 0, 1) := by decide +kernel
theorem d_Ta_append_44 : decode zb_Ta_append 44 = .ok (.getfield 19, 3) := by decide +kernel
theorem d_Ta_append_47 : decode zb_Ta_append 47 = .ok (.arraylength, 1) := by decide +kernel
theorem d_Ta_append_48 : decode zb_Ta_append 48 = .ok (.if_icmp .ge 16, 3) := by decide +kernel
theorem d_Ta_append_51 : decode zb_Ta_append 51 = .ok (.aload_n 0, 1) := by decide +kernel
theorem d_Ta_append_52 : decode zb_Ta_append 52 = .ok (.getfield 19, 3) := by decide +kernel
theorem d_Ta_append_55 : decode zb_Ta_append 55 = .ok (.iload_n 2, 1) := by decide +kernel
theorem d_Ta_append_56 : decode zb_Ta_append 56 = .ok (.iconst 0, 1) := by decide +kernel
theorem d_Ta_append_57 : decode zb_Ta_append 57 = .ok (.iastore, 1) := by decide +kernel
theorem d_Ta_append_58 : decode zb_Ta_append 58 = .ok (.iinc 2 1, 3) := by decide +kernel
theorem d_Ta_append_61 : decode zb_Ta_append 61 = .ok (.goto (-29), 3) := by decide +kernel
theorem d_Ta_append_64 : decode zb_Ta_append 64 = .ok (.aload_n 0, 1) := by decide +kernel
theorem d_Ta_append_65 : decode zb_Ta_append 65 = .ok (.dup, 1) := by decide +kernel
theorem d_Ta_append_66 : decode zb_Ta_append 66 = .ok (.getfield 23, 3) := by decide +kernel
theorem d_Ta_append_69 : decode zb_Ta_append 69 = .ok (.iconst 1, 1) := by decide +kernel
theorem d_Ta_append_70 : decode zb_Ta_append 70 = .ok (.iadd, 1) := by decide +kernel
theorem d_Ta_append_71 : decode zb_Ta_append 71 = .ok (.putfield 23, 3) := by decide +kernel
theorem d_Ta_append_74 : decode zb_Ta_append 74 = .ok (.aload_n 0, 1) := by decide +kernel
theorem d_Ta_append_75 : decode zb_Ta_append 75 = .ok (.getfield 23, 3) := by decide +kernel
theorem d_Ta_append_78 : decode zb_Ta_append 78 = .ok (.iconst 1, 1) := by decide +kernel
theorem d_Ta_append_79 : decode zb_Ta_append 79 = .ok (.isub, 1) := by decide +kernel
theorem d_Ta_append_80 : decode zb_Ta_append 80 = .ok (.ireturn, 1) := by decide +kernel
def k_Ta_append_64 (w : Int32) (n : Nat) (x : zsT) : Option (Int32 × zsT) := some (((x.2 + (1 : Int32)) - (1 : Int32)), (x.1, (x.2 + (1 : Int32))))
theorem w_Ta_append_64 {X : zX} {c : zY} {a0 a1 : Nat} {w : Int32} {n : Nat} {out : Int32 × zsT} (hX : Ok X zr_Ta zb_Ta_append 3 0 c) (hR : Rt X (some .int) (some (.int out.1)) (zwT c a0 a1 w n out.2)) : ∀ (x : zsT), k_Ta_append_64 w n x = some out → Go X (zwT c a0 a1 w n x) [(0, .ref a0)] 64 [] := by
  intro x h
  rw [k_Ta_append_64] at h
  refine g_aload_n (pc := 64) hX d_Ta_append_64 rfl 0 rfl ?_
  refine g_dup (pc := 65) hX d_Ta_append_65 rfl ?_
  refine gf_Ta_23 (pc := 66) (v := .int x.2) hX 0 rfl rfl d_Ta_append_66 ?_
  refine g_iconst (pc := 69) hX d_Ta_append_69 zc_1 ?_
  refine g_iadd (pc := 70) hX d_Ta_append_70 ?_
  refine pf_Ta_23 (pc := 71) (w2 := (zwT c a0 a1 w n ((x.1, (x.2 + (1 : Int32)))))) hX 0 rfl rfl (su_Ta_0_2 c a0 a1 w n x ((x.2 + (1 : Int32)))) d_Ta_append_71 ?_
  refine g_aload_n (pc := 74) hX d_Ta_append_74 rfl 0 rfl ?_
  refine gf_Ta_23 (pc := 75) (v := .int ((x.2 + (1 : Int32)))) hX 0 rfl rfl d_Ta_append_75 ?_
  refine g_iconst (pc := 78) hX d_Ta_append_78 zc_1 ?_
  refine g_isub (pc := 79) hX d_Ta_append_79 ?_
  cases h
  exact g_iret (pc := 80) hX hR d_Ta_append_80
def k_Ta_append_32 (w : Int32) (n : Nat) : Nat → Int32 → Int32 → zsT → Option (Int32 × zsT)
  | 0, _, _, _ => none
  | fu + 1, l1, l2, x => (if l2 < (l1 + w) then (if l2 < (Int32.ofNat n) then (if zOut l2 n then none else k_Ta_append_32 w n fu l1 ((l2 + (1 : Int32))) (((upd x.1 l2.toNatClampNeg ((0 : Int32))), x.2))) else k_Ta_append_64 w n x) else k_Ta_append_64 w n x)
theorem w_Ta_append_32 {X : zX} {c : zY} {a0 a1 : Nat} {w : Int32} {n : Nat} {out : Int32 × zsT} (hX : Ok X zr_Ta zb_Ta_append 3 0 c) (hR : Rt X (some .int) (some (.int out.1)) (zwT c a0 a1 w n out.2)) : ∀ (fu : Nat) (l1 : Int32) (l2 : Int32) (x : zsT), k_Ta_append_32 w n fu l1 l2 x = some out → Go X (zwT c a0 a1 w n x) [(0, .ref a0), (1, .int l1), (2, .int l2)] 32 [] := by
  intro fu
  induction fu with
  | zero => intro l1 l2 x h; rw [k_Ta_append_32] at h; cases h
  | succ fu ih =>
    intro l1 l2 x h
    rw [k_Ta_append_32] at h
    refine g_iload_n (pc := 32) hX d_Ta_append_32 rfl 2 rfl ?_
    refine g_iload_n (pc := 33) hX d_Ta_append_33 rfl 1 rfl ?_
    refine g_aload_n (pc := 34) hX d_Ta_append_34 rfl 0 rfl ?_
    refine gf_Ta_7 (pc := 35) (v := .int w) hX 0 rfl rfl d_Ta_append_35 ?_
    refine g_iadd (pc := 38) hX d_Ta_append_38 ?_
    refine g_icmp_ge (pc := 39) (tgt := 64) hX d_Ta_append_39 (by decide) h (fun c3 h => ?_) (fun c3 h => ?_)
    · refine g_ls (L' := [(0, .ref a0)]) [0] rfl ?_
      exact w_Ta_append_64 hX hR _ h
    · refine g_iload_n (pc := 42) hX d_Ta_append_42 rfl 2 rfl ?_
      refine g_aload_n (pc := 43) hX d_Ta_append_43 rfl 0 rfl ?_
      refine gf_Ta_19 (pc := 44) (v := .ref a1) hX 0 rfl rfl d_Ta_append_44 ?_
      refine g_alen (pc := 47) (v := (Int32.ofNat n)) hX 1 rfl rfl d_Ta_append_47 ?_
      refine g_icmp_ge (pc := 48) (tgt := 64) hX d_Ta_append_48 (by decide) h (fun c4 h => ?_) (fun c4 h => ?_)
      · refine g_ls (L' := [(0, .ref a0)]) [0] rfl ?_
        exact w_Ta_append_64 hX hR _ h
      · refine g_aload_n (pc := 51) hX d_Ta_append_51 rfl 0 rfl ?_
        refine gf_Ta_19 (pc := 52) (v := .ref a1) hX 0 rfl rfl d_Ta_append_52 ?_
        refine g_iload_n (pc := 55) hX d_Ta_append_55 rfl 2 rfl ?_
        refine g_iconst (pc := 56) hX d_Ta_append_56 zc_0 ?_
        refine g_iast (pc := 57) (f := x.1) (w' := (zwT c a0 a1 w n (((upd x.1 l2.toNatClampNeg ((0 : Int32))), x.2)))) hX 1 rfl h (sa_Ta_1 c a0 a1 w n x (upd x.1 l2.toNatClampNeg ((0 : Int32)))) d_Ta_append_57 (fun h => ?_)
        refine g_iinc (pc := 58) (q := 2) (L' := [(2, .int ((l2 + (1 : Int32)))), (0, .ref a0), (1, .int l1)]) hX d_Ta_append_58 rfl zc_1 rfl rfl ?_
        refine g_goto (pc := 61) (tgt := 32) hX d_Ta_append_61 (by decide) ?_
        refine g_ls (L' := [(0, .ref a0), (1, .int l1), (2, .int ((l2 + (1 : Int32))))]) [1, 2, 0] rfl ?_
        exact ih _ _ _ h
def k_Ta_append (w : Int32) (n : Nat) (x : zsT) : Option (Int32 × zsT) := (if (x.2 * w) < 0 then some ((-1 : Int32), x) else (if (Int32.ofNat n) < ((x.2 * w) + w) then some ((-1 : Int32), x) else k_Ta_append_32 w n zFu ((x.2 * w)) ((x.2 * w)) x))
theorem c_Ta_append (c : zY) (a0 a1 : Nat) (w : Int32) (n : Nat) (x : zsT) {out : Int32 × zsT} (h : k_Ta_append w n x = some out) : KM zy_Ta_append zb_Ta_append 3 (some .int) 0 c [.ref a0] (zwT c a0 a1 w n x) (zwT c a0 a1 w n out.2) (some (.int out.1)) := zK_of zp_Ta rfl (Nat.le_of_ble_eq_true rfl) (zq_Ta c a0 a1 w n _ _) (fun X hX hR => by
  show Go X (zwT c a0 a1 w n x) [(0, .ref a0)] 0 []
  rw [k_Ta_append] at h
  refine g_aload_n (pc := 0) hX d_Ta_append_0 rfl 0 rfl ?_
  refine gf_Ta_23 (pc := 1) (v := .int x.2) hX 0 rfl rfl d_Ta_append_1 ?_
  refine g_aload_n (pc := 4) hX d_Ta_append_4 rfl 0 rfl ?_
  refine gf_Ta_7 (pc := 5) (v := .int w) hX 0 rfl rfl d_Ta_append_5 ?_
  refine g_imul (pc := 8) hX d_Ta_append_8 ?_
  refine g_istore_n (pc := 9) (L' := [(1, .int ((x.2 * w))), (0, .ref a0)]) hX d_Ta_append_9 rfl rfl rfl ?_
  refine g_iload_n (pc := 10) hX d_Ta_append_10 rfl 0 rfl ?_
  refine g_if_lt (pc := 11) (tgt := 28) hX d_Ta_append_11 (by decide) h (fun c1 h => ?_) (fun c1 h => ?_)
  · refine g_iconst (pc := 28) hX d_Ta_append_28 zc_m1 ?_
    cases h
    exact g_iret (pc := 29) hX hR d_Ta_append_29
  · refine g_iload_n (pc := 14) hX d_Ta_append_14 rfl 0 rfl ?_
    refine g_aload_n (pc := 15) hX d_Ta_append_15 rfl 1 rfl ?_
    refine gf_Ta_7 (pc := 16) (v := .int w) hX 0 rfl rfl d_Ta_append_16 ?_
    refine g_iadd (pc := 19) hX d_Ta_append_19 ?_
    refine g_aload_n (pc := 20) hX d_Ta_append_20 rfl 1 rfl ?_
    refine gf_Ta_19 (pc := 21) (v := .ref a1) hX 0 rfl rfl d_Ta_append_21 ?_
    refine g_alen (pc := 24) (v := (Int32.ofNat n)) hX 1 rfl rfl d_Ta_append_24 ?_
    refine g_icmp_le (pc := 25) (tgt := 30) hX d_Ta_append_25 (by decide) h (fun c2 h => ?_) (fun c2 h => ?_)
    · refine g_iload_n (pc := 30) hX d_Ta_append_30 rfl 0 rfl ?_
      refine g_istore_n (pc := 31) (L' := [(2, .int ((x.2 * w))), (1, .int ((x.2 * w))), (0, .ref a0)]) hX d_Ta_append_31 rfl rfl rfl ?_
      refine g_ls (L' := [(0, .ref a0), (1, .int ((x.2 * w))), (2, .int ((x.2 * w)))]) [2, 1, 0] rfl ?_
      exact w_Ta_append_32 hX hR _ _ _ _ h
    · refine g_iconst (pc := 28) hX d_Ta_append_28 zc_m1 ?_
      cases h
      exact g_iret (pc := 29) hX hR d_Ta_append_29)
theorem d_Ta_copyRow_0 : decode zb_Ta_copyRow 0 = .ok (.iload_n 1, 1) := by decide +kernel
theorem d_Ta_copyRow_1 : decode zb_Ta_copyRow 1 = .ok (.aload_n 0, 1) := by decide +kernel
theorem d_Ta_copyRow_2 : decode zb_Ta_copyRow 2 = .ok (.getfield 7, 3) := by decide +kernel
theorem d_Ta_copyRow_5 : decode zb_Ta_copyRow 5 = .ok (.imul, 1) := by decide +kernel
theorem d_Ta_copyRow_6 : decode zb_Ta_copyRow 6 = .ok (.istore_n 3, 1) := by decide +kernel
theorem d_Ta_copyRow_7 : decode zb_Ta_copyRow 7 = .ok (.iload_n 2, 1) := by decide +kernel
theorem d_Ta_copyRow_8 : decode zb_Ta_copyRow 8 = .ok (.aload_n 0, 1) := by decide +kernel
theorem d_Ta_copyRow_9 : decode zb_Ta_copyRow 9 = .ok (.getfield 7, 3) := by decide +kernel
theorem d_Ta_copyRow_12 : decode zb_Ta_copyRow 12 = .ok (.imul, 1) := by decide +kernel
theorem d_Ta_copyRow_13 : decode zb_Ta_copyRow 13 = .ok (.istore 4, 2) := by decide +kernel
theorem d_Ta_copyRow_15 : decode zb_Ta_copyRow 15 = .ok (.iload_n 1, 1) := by decide +kernel
theorem d_Ta_copyRow_16 : decode zb_Ta_copyRow 16 = .ok (.ifCond .lt 65, 3) := by decide +kernel
theorem d_Ta_copyRow_19 : decode zb_Ta_copyRow 19 = .ok (.iload_n 1, 1) := by decide +kernel
theorem d_Ta_copyRow_20 : decode zb_Ta_copyRow 20 = .ok (.aload_n 0, 1) := by decide +kernel
theorem d_Ta_copyRow_21 : decode zb_Ta_copyRow 21 = .ok (.getfield 23, 3) := by decide +kernel
theorem d_Ta_copyRow_24 : decode zb_Ta_copyRow 24 = .ok (.if_icmp .ge 57, 3) := by decide +kernel
theorem d_Ta_copyRow_27 : decode zb_Ta_copyRow 27 = .ok (.iload_n 3, 1) := by decide +kernel
theorem d_Ta_copyRow_28 : decode zb_Ta_copyRow 28 = .ok (.ifCond .lt 53, 3) := by decide +kernel
theorem d_Ta_copyRow_31 : decode zb_Ta_copyRow 31 = .ok (.iload_n 3, 1) := by decide +kernel
theorem d_Ta_copyRow_32 : decode zb_Ta_copyRow 32 = .ok (.aload_n 0, 1) := by decide +kernel
theorem d_Ta_copyRow_33 : decode zb_Ta_copyRow 33 = .ok (.getfield 7, 3) := by decide +kernel
theorem d_Ta_copyRow_36 : decode zb_Ta_copyRow 36 = .ok (.iadd, 1) := by decide +kernel
theorem d_Ta_copyRow_37 : decode zb_Ta_copyRow 37 = .ok (.aload_n 0, 1) := by decide +kernel
theorem d_Ta_copyRow_38 : decode zb_Ta_copyRow 38 = .ok (.getfield 19, 3) := by decide +kernel
theorem d_Ta_copyRow_41 : decode zb_Ta_copyRow 41 = .ok (.arraylength, 1) := by decide +kernel
theorem d_Ta_copyRow_42 : decode zb_Ta_copyRow 42 = .ok (.if_icmp .gt 39, 3) := by decide +kernel
theorem d_Ta_copyRow_45 : decode zb_Ta_copyRow 45 = .ok (.iload_n 2, 1) := by decide +kernel
theorem d_Ta_copyRow_46 : decode zb_Ta_copyRow 46 = .ok (.ifCond .lt 35, 3) := by decide +kernel
theorem d_Ta_copyRow_49 : decode zb_Ta_copyRow 49 = .ok (.iload_n 2, 1) := by decide +kernel
theorem d_Ta_copyRow_50 : decode zb_Ta_copyRow 50 = .ok (.aload_n 0, 1) := by decide +kernel
theorem d_Ta_copyRow_51 : decode zb_Ta_copyRow 51 = .ok (.getfield 23, 3) := by decide +kernel
theorem d_Ta_copyRow_54 : decode zb_Ta_copyRow 54 = .ok (.if_icmp .ge 27, 3) := by decide +kernel
theorem d_Ta_copyRow_57 : decode zb_Ta_copyRow 57 = .ok (.iload 4, 2) := by decide +kernel
theorem d_Ta_copyRow_59 : decode zb_Ta_copyRow 59 = .ok (.ifCond .lt 22, 3) := by decide +kernel
theorem d_Ta_copyRow_62 : decode zb_Ta_copyRow 62 = .ok (.iload 4, 2) := by decide +kernel
theorem d_Ta_copyRow_64 : decode zb_Ta_copyRow 64 = .ok (.aload_n 0, 1) := by decide +kernel
theorem d_Ta_copyRow_65 : decode zb_Ta_copyRow 65 = .ok (.getfield 7, 3) := by decide +kernel
theorem d_Ta_copyRow_68 : decode zb_Ta_copyRow 68 = .ok (.iadd, 1) := by decide +kernel
theorem d_Ta_copyRow_69 : decode zb_Ta_copyRow 69 = .ok (.aload_n 0, 1) := by decide +kernel
theorem d_Ta_copyRow_70 : decode zb_Ta_copyRow 70 = .ok (.getfield 19, 3) := by decide +kernel
theorem d_Ta_copyRow_73 : decode zb_Ta_copyRow 73 = .ok (.arraylength, 1) := by decide +kernel
theorem d_Ta_copyRow_74 : decode zb_Ta_copyRow 74 = .ok (.if_icmp .gt 7, 3) := by decide +kernel
theorem d_Ta_copyRow_77 : decode zb_Ta_copyRow 77 = .ok (.iconst 1, 1) := by decide +kernel
theorem d_Ta_copyRow_78 : decode zb_Ta_copyRow 78 = .ok (.goto 4, 3) := by decide +kernel
theorem d_Ta_copyRow_81 : decode zb_Ta_copyRow 81 = .ok (.iconst 0, 1) := by decide +kernel
theorem d_Ta_copyRow_82 : decode zb_Ta_copyRow 82 = .ok (.istore 5, 2) := by decide +kernel
theorem d_Ta_copyRow_84 : decode zb_Ta_copyRow 84 = .ok (.iload 5, 2) := by decide +kernel
theorem d_Ta_copyRow_86 : decode zb_Ta_copyRow 86 = .ok (.ifCond .eq 26, 3) := by decide +kernel
theorem d_Ta_copyRow_89 : decode zb_Ta_copyRow 89 = .ok (.iload_n 1, 1) := by decide +kernel
theorem d_Ta_copyRow_90 : decode zb_Ta_copyRow 90 = .ok (.iload_n 2, 1) := by decide +kernel
theorem d_Ta_copyRow_91 : decode zb_Ta_copyRow 91 = .ok (.if_icmp .eq 21, 3) := by decide +kernel
theorem d_Ta_copyRow_94 : decode zb_Ta_copyRow 94 = .ok (.aload_n 0, 1) := by decide +kernel
theorem d_Ta_copyRow_95 : decode zb_Ta_copyRow 95 = .ok (.getfield 19, 3) := by decide +kernel
theorem d_Ta_copyRow_98 : decode zb_Ta_copyRow 98 = .ok (.iload_n 3, 1) := by decide +kernel
theorem d_Ta_copyRow_99 : decode zb_Ta_copyRow 99 = .ok (.aload_n 0, 1) := by decide +kernel
theorem d_Ta_copyRow_100 : decode zb_Ta_copyRow 100 = .ok (.getfield 19, 3) := by decide +kernel
theorem d_Ta_copyRow_103 : decode zb_Ta_copyRow 103 = .ok (.iload 4, 2) := by decide +kernel
theorem d_Ta_copyRow_105 : decode zb_Ta_copyRow 105 = .ok (.aload_n 0, 1) := by decide +kernel
theorem d_Ta_copyRow_106 : decode zb_Ta_copyRow 106 = .ok (.getfield 7, 3) := by decide +kernel
theorem d_Ta_copyRow_109 : decode zb_Ta_copyRow 109 = .ok (.invokestatic 26, 3) := by decide +kernel
theorem d_Ta_copyRow_112 : decode zb_Ta_copyRow 112 = .ok (.return_, 1) := by decide +kernel
def k_Ta_copyRow_82 (w : Int32) (n : Nat) (l1 : Int32) (l2 : Int32) (l3 : Int32) (l4 : Int32) (s0 : Int32) (x : zsT) : Option (zsT) := (if s0 = 0 then some x else (if l1 = l2 then some x else (if zOutC l3 l4 w n n then none else some (((va_cpy x.1 x.1 l3.toNatClampNeg l4.toNatClampNeg w.toNatClampNeg), x.2)))))
theorem w_Ta_copyRow_82 {X : zX} {c : zY} {a0 a1 : Nat} {w : Int32} {n : Nat} {l1 : Int32} {l2 : Int32} {out : zsT} (hX : Ok X zr_Ta zb_Ta_copyRow 6 1 c) (hR : Rt X none none (zwT c a0 a1 w n out)) : ∀ (l3 : Int32) (l4 : Int32) (s0 : Int32) (x : zsT), k_Ta_copyRow_82 w n l1 l2 l3 l4 s0 x = some out → Go X (zwT c a0 a1 w n x) [(0, .ref a0), (1, .int l1), (2, .int l2), (3, .int l3), (4, .int l4)] 82 [.int s0] := by
  intro l3 l4 s0 x h
  rw [k_Ta_copyRow_82] at h
  refine g_istore (pc := 82) (L' := [(5, .int s0), (0, .ref a0), (1, .int l1), (2, .int l2), (3, .int l3), (4, .int l4)]) hX d_Ta_copyRow_82 rfl rfl ?_
  refine g_iload (pc := 84) hX d_Ta_copyRow_84 0 rfl ?_
  refine g_if_eq (pc := 86) (tgt := 112) hX d_Ta_copyRow_86 (by decide) h (fun c2 h => ?_) (fun c2 h => ?_)
  · cases h
    exact g_vret (pc := 112) hX hR d_Ta_copyRow_112
  · refine g_iload_n (pc := 89) hX d_Ta_copyRow_89 rfl 2 rfl ?_
    refine g_iload_n (pc := 90) hX d_Ta_copyRow_90 rfl 3 rfl ?_
    refine g_icmp_eq (pc := 91) (tgt := 112) hX d_Ta_copyRow_91 (by decide) h (fun c3 h => ?_) (fun c3 h => ?_)
    · cases h
      exact g_vret (pc := 112) hX hR d_Ta_copyRow_112
    · refine g_aload_n (pc := 94) hX d_Ta_copyRow_94 rfl 1 rfl ?_
      refine gf_Ta_19 (pc := 95) (v := .ref a1) hX 0 rfl rfl d_Ta_copyRow_95 ?_
      refine g_iload_n (pc := 98) hX d_Ta_copyRow_98 rfl 4 rfl ?_
      refine g_aload_n (pc := 99) hX d_Ta_copyRow_99 rfl 1 rfl ?_
      refine gf_Ta_19 (pc := 100) (v := .ref a1) hX 0 rfl rfl d_Ta_copyRow_100 ?_
      refine g_iload (pc := 103) hX d_Ta_copyRow_103 5 rfl ?_
      refine g_aload_n (pc := 105) hX d_Ta_copyRow_105 rfl 1 rfl ?_
      refine gf_Ta_7 (pc := 106) (v := .int w) hX 0 rfl rfl d_Ta_copyRow_106 ?_
      refine g_copy (pc := 109) (f := x.1) (g := x.1) (w' := (zwT c a0 a1 w n (((va_cpy x.1 x.1 l3.toNatClampNeg l4.toNatClampNeg w.toNatClampNeg), x.2)))) hX zL_Ta_26 rfl rfl 1 1 rfl rfl h (sa_Ta_1 c a0 a1 w n x (va_cpy x.1 x.1 l3.toNatClampNeg l4.toNatClampNeg w.toNatClampNeg)) d_Ta_copyRow_109 (fun h => ?_)
      cases h
      exact g_vret (pc := 112) hX hR d_Ta_copyRow_112
def k_Ta_copyRow_81 (w : Int32) (n : Nat) (l1 : Int32) (l2 : Int32) (l3 : Int32) (l4 : Int32) (x : zsT) : Option (zsT) := k_Ta_copyRow_82 w n l1 l2 l3 l4 ((0 : Int32)) x
theorem w_Ta_copyRow_81 {X : zX} {c : zY} {a0 a1 : Nat} {w : Int32} {n : Nat} {l1 : Int32} {l2 : Int32} {out : zsT} (hX : Ok X zr_Ta zb_Ta_copyRow 6 1 c) (hR : Rt X none none (zwT c a0 a1 w n out)) : ∀ (l3 : Int32) (l4 : Int32) (x : zsT), k_Ta_copyRow_81 w n l1 l2 l3 l4 x = some out → Go X (zwT c a0 a1 w n x) [(0, .ref a0), (1, .int l1), (2, .int l2), (3, .int l3), (4, .int l4)] 81 [] := by
  intro l3 l4 x h
  rw [k_Ta_copyRow_81] at h
  refine g_iconst (pc := 81) hX d_Ta_copyRow_81 zc_0 ?_
  exact w_Ta_copyRow_82 hX hR _ _ _ _ h
def k_Ta_copyRow (w : Int32) (n : Nat) (x : zsT) (l1 : Int32) (l2 : Int32) : Option (zsT) := (if l1 < 0 then k_Ta_copyRow_81 w n l1 l2 ((l1 * w)) ((l2 * w)) x else (if l1 < x.2 then (if (l1 * w) < 0 then k_Ta_copyRow_81 w n l1 l2 ((l1 * w)) ((l2 * w)) x else (if (Int32.ofNat n) < ((l1 * w) + w) then k_Ta_copyRow_81 w n l1 l2 ((l1 * w)) ((l2 * w)) x else (if l2 < 0 then k_Ta_copyRow_81 w n l1 l2 ((l1 * w)) ((l2 * w)) x else (if l2 < x.2 then (if (l2 * w) < 0 then k_Ta_copyRow_81 w n l1 l2 ((l1 * w)) ((l2 * w)) x else (if (Int32.ofNat n) < ((l2 * w) + w) then k_Ta_copyRow_81 w n l1 l2 ((l1 * w)) ((l2 * w)) x else k_Ta_copyRow_82 w n l1 l2 ((l1 * w)) ((l2 * w)) ((1 : Int32)) x)) else k_Ta_copyRow_81 w n l1 l2 ((l1 * w)) ((l2 * w)) x)))) else k_Ta_copyRow_81 w n l1 l2 ((l1 * w)) ((l2 * w)) x))
theorem c_Ta_copyRow (c : zY) (a0 a1 : Nat) (w : Int32) (n : Nat) (x : zsT) (l1 : Int32) (l2 : Int32) {out : zsT} (h : k_Ta_copyRow w n x l1 l2 = some out) : KM zy_Ta_copyRow zb_Ta_copyRow 6 none 1 c [.ref a0, .int l1, .int l2] (zwT c a0 a1 w n x) (zwT c a0 a1 w n out) none := zK_of zp_Ta rfl (Nat.le_of_ble_eq_true rfl) (zq_Ta c a0 a1 w n _ _) (fun X hX hR => by
  show Go X (zwT c a0 a1 w n x) [(0, .ref a0), (1, .int l1), (2, .int l2)] 0 []
  rw [k_Ta_copyRow] at h
  refine g_iload_n (pc := 0) hX d_Ta_copyRow_0 rfl 1 rfl ?_
  refine g_aload_n (pc := 1) hX d_Ta_copyRow_1 rfl 0 rfl ?_
  refine gf_Ta_7 (pc := 2) (v := .int w) hX 0 rfl rfl d_Ta_copyRow_2 ?_
  refine g_imul (pc := 5) hX d_Ta_copyRow_5 ?_
  refine g_istore_n (pc := 6) (L' := [(3, .int ((l1 * w))), (0, .ref a0), (1, .int l1), (2, .int l2)]) hX d_Ta_copyRow_6 rfl rfl rfl ?_
  refine g_iload_n (pc := 7) hX d_Ta_copyRow_7 rfl 3 rfl ?_
  refine g_aload_n (pc := 8) hX d_Ta_copyRow_8 rfl 1 rfl ?_
  refine gf_Ta_7 (pc := 9) (v := .int w) hX 0 rfl rfl d_Ta_copyRow_9 ?_
  refine g_imul (pc := 12) hX d_Ta_copyRow_12 ?_
  refine g_istore (pc := 13) (L' := [(4, .int ((l2 * w))), (3, .int ((l1 * w))), (0, .ref a0), (1, .int l1), (2, .int l2)]) hX d_Ta_copyRow_13 rfl rfl ?_
  refine g_iload_n (pc := 15) hX d_Ta_copyRow_15 rfl 3 rfl ?_
  refine g_if_lt (pc := 16) (tgt := 81) hX d_Ta_copyRow_16 (by decide) h (fun c1 h => ?_) (fun c1 h => ?_)
  · refine g_ls (L' := [(0, .ref a0), (1, .int l1), (2, .int l2), (3, .int ((l1 * w))), (4, .int ((l2 * w)))]) [2, 3, 4, 1, 0] rfl ?_
    exact w_Ta_copyRow_81 hX hR _ _ _ h
  · refine g_iload_n (pc := 19) hX d_Ta_copyRow_19 rfl 3 rfl ?_
    refine g_aload_n (pc := 20) hX d_Ta_copyRow_20 rfl 2 rfl ?_
    refine gf_Ta_23 (pc := 21) (v := .int x.2) hX 0 rfl rfl d_Ta_copyRow_21 ?_
    refine g_icmp_ge (pc := 24) (tgt := 81) hX d_Ta_copyRow_24 (by decide) h (fun c4 h => ?_) (fun c4 h => ?_)
    · refine g_ls (L' := [(0, .ref a0), (1, .int l1), (2, .int l2), (3, .int ((l1 * w))), (4, .int ((l2 * w)))]) [2, 3, 4, 1, 0] rfl ?_
      exact w_Ta_copyRow_81 hX hR _ _ _ h
    · refine g_iload_n (pc := 27) hX d_Ta_copyRow_27 rfl 1 rfl ?_
      refine g_if_lt (pc := 28) (tgt := 81) hX d_Ta_copyRow_28 (by decide) h (fun c5 h => ?_) (fun c5 h => ?_)
      · refine g_ls (L' := [(0, .ref a0), (1, .int l1), (2, .int l2), (3, .int ((l1 * w))), (4, .int ((l2 * w)))]) [2, 3, 4, 1, 0] rfl ?_
        exact w_Ta_copyRow_81 hX hR _ _ _ h
      · refine g_iload_n (pc := 31) hX d_Ta_copyRow_31 rfl 1 rfl ?_
        refine g_aload_n (pc := 32) hX d_Ta_copyRow_32 rfl 2 rfl ?_
        refine gf_Ta_7 (pc := 33) (v := .int w) hX 0 rfl rfl d_Ta_copyRow_33 ?_
        refine g_iadd (pc := 36) hX d_Ta_copyRow_36 ?_
        refine g_aload_n (pc := 37) hX d_Ta_copyRow_37 rfl 2 rfl ?_
        refine gf_Ta_19 (pc := 38) (v := .ref a1) hX 0 rfl rfl d_Ta_copyRow_38 ?_
        refine g_alen (pc := 41) (v := (Int32.ofNat n)) hX 1 rfl rfl d_Ta_copyRow_41 ?_
        refine g_icmp_gt (pc := 42) (tgt := 81) hX d_Ta_copyRow_42 (by decide) h (fun c6 h => ?_) (fun c6 h => ?_)
        · refine g_ls (L' := [(0, .ref a0), (1, .int l1), (2, .int l2), (3, .int ((l1 * w))), (4, .int ((l2 * w)))]) [2, 3, 4, 1, 0] rfl ?_
          exact w_Ta_copyRow_81 hX hR _ _ _ h
        · refine g_iload_n (pc := 45) hX d_Ta_copyRow_45 rfl 4 rfl ?_
          refine g_if_lt (pc := 46) (tgt := 81) hX d_Ta_copyRow_46 (by decide) h (fun c7 h => ?_) (fun c7 h => ?_)
          · refine g_ls (L' := [(0, .ref a0), (1, .int l1), (2, .int l2), (3, .int ((l1 * w))), (4, .int ((l2 * w)))]) [2, 3, 4, 1, 0] rfl ?_
            exact w_Ta_copyRow_81 hX hR _ _ _ h
          · refine g_iload_n (pc := 49) hX d_Ta_copyRow_49 rfl 4 rfl ?_
            refine g_aload_n (pc := 50) hX d_Ta_copyRow_50 rfl 2 rfl ?_
            refine gf_Ta_23 (pc := 51) (v := .int x.2) hX 0 rfl rfl d_Ta_copyRow_51 ?_
            refine g_icmp_ge (pc := 54) (tgt := 81) hX d_Ta_copyRow_54 (by decide) h (fun c8 h => ?_) (fun c8 h => ?_)
            · refine g_ls (L' := [(0, .ref a0), (1, .int l1), (2, .int l2), (3, .int ((l1 * w))), (4, .int ((l2 * w)))]) [2, 3, 4, 1, 0] rfl ?_
              exact w_Ta_copyRow_81 hX hR _ _ _ h
            · refine g_iload (pc := 57) hX d_Ta_copyRow_57 0 rfl ?_
              refine g_if_lt (pc := 59) (tgt := 81) hX d_Ta_copyRow_59 (by decide) h (fun c9 h => ?_) (fun c9 h => ?_)
              · refine g_ls (L' := [(0, .ref a0), (1, .int l1), (2, .int l2), (3, .int ((l1 * w))), (4, .int ((l2 * w)))]) [2, 3, 4, 1, 0] rfl ?_
                exact w_Ta_copyRow_81 hX hR _ _ _ h
              · refine g_iload (pc := 62) hX d_Ta_copyRow_62 0 rfl ?_
                refine g_aload_n (pc := 64) hX d_Ta_copyRow_64 rfl 2 rfl ?_
                refine gf_Ta_7 (pc := 65) (v := .int w) hX 0 rfl rfl d_Ta_copyRow_65 ?_
                refine g_iadd (pc := 68) hX d_Ta_copyRow_68 ?_
                refine g_aload_n (pc := 69) hX d_Ta_copyRow_69 rfl 2 rfl ?_
                refine gf_Ta_19 (pc := 70) (v := .ref a1) hX 0 rfl rfl d_Ta_copyRow_70 ?_
                refine g_alen (pc := 73) (v := (Int32.ofNat n)) hX 1 rfl rfl d_Ta_copyRow_73 ?_
                refine g_icmp_gt (pc := 74) (tgt := 81) hX d_Ta_copyRow_74 (by decide) h (fun c10 h => ?_) (fun c10 h => ?_)
                · refine g_ls (L' := [(0, .ref a0), (1, .int l1), (2, .int l2), (3, .int ((l1 * w))), (4, .int ((l2 * w)))]) [2, 3, 4, 1, 0] rfl ?_
                  exact w_Ta_copyRow_81 hX hR _ _ _ h
                · refine g_iconst (pc := 77) hX d_Ta_copyRow_77 zc_1 ?_
                  refine g_goto (pc := 78) (tgt := 82) hX d_Ta_copyRow_78 (by decide) ?_
                  refine g_ls (L' := [(0, .ref a0), (1, .int l1), (2, .int l2), (3, .int ((l1 * w))), (4, .int ((l2 * w)))]) [2, 3, 4, 1, 0] rfl ?_
                  exact w_Ta_copyRow_82 hX hR _ _ _ _ h)
theorem d_Ta_cut_0 : decode zb_Ta_cut 0 = .ok (.iload_n 1, 1) := by decide +kernel
theorem d_Ta_cut_1 : decode zb_Ta_cut 1 = .ok (.ifCond .lt 16, 3) := by decide +kernel
theorem d_Ta_cut_4 : decode zb_Ta_cut 4 = .ok (.iload_n 1, 1) := by decide +kernel
theorem d_Ta_cut_5 : decode zb_Ta_cut 5 = .ok (.aload_n 0, 1) := by decide +kernel
theorem d_Ta_cut_6 : decode zb_Ta_cut 6 = .ok (.getfield 23, 3) := by decide +kernel
theorem d_Ta_cut_9 : decode zb_Ta_cut 9 = .ok (.if_icmp .ge 8, 3) := by decide +kernel
theorem d_Ta_cut_12 : decode zb_Ta_cut 12 = .ok (.aload_n 0, 1) := by decide +kernel
theorem d_Ta_cut_13 : decode zb_Ta_cut 13 = .ok (.iload_n 1, 1) := by decide +kernel
theorem d_Ta_cut_14 : decode zb_Ta_cut 14 = .ok (.putfield 23, 3) := by decide +kernel
theorem d_Ta_cut_17 : decode zb_Ta_cut 17 = .ok (.return_, 1) := by decide +kernel
def k_Ta_cut (w : Int32) (n : Nat) (x : zsT) (l1 : Int32) : Option (zsT) := (if l1 < 0 then some x else (if l1 < x.2 then some ((x.1, l1)) else some x))
theorem c_Ta_cut (c : zY) (a0 a1 : Nat) (w : Int32) (n : Nat) (x : zsT) (l1 : Int32) {out : zsT} (h : k_Ta_cut w n x l1 = some out) : KM zy_Ta_cut zb_Ta_cut 2 none 0 c [.ref a0, .int l1] (zwT c a0 a1 w n x) (zwT c a0 a1 w n out) none := zK_of zp_Ta rfl (Nat.le_of_ble_eq_true rfl) (zq_Ta c a0 a1 w n _ _) (fun X hX hR => by
  show Go X (zwT c a0 a1 w n x) [(0, .ref a0), (1, .int l1)] 0 []
  rw [k_Ta_cut] at h
  refine g_iload_n (pc := 0) hX d_Ta_cut_0 rfl 1 rfl ?_
  refine g_if_lt (pc := 1) (tgt := 17) hX d_Ta_cut_1 (by decide) h (fun c1 h => ?_) (fun c1 h => ?_)
  · cases h
    exact g_vret (pc := 17) hX hR d_Ta_cut_17
  · refine g_iload_n (pc := 4) hX d_Ta_cut_4 rfl 1 rfl ?_
    refine g_aload_n (pc := 5) hX d_Ta_cut_5 rfl 0 rfl ?_
    refine gf_Ta_23 (pc := 6) (v := .int x.2) hX 0 rfl rfl d_Ta_cut_6 ?_
    refine g_icmp_ge (pc := 9) (tgt := 17) hX d_Ta_cut_9 (by decide) h (fun c2 h => ?_) (fun c2 h => ?_)
    · cases h
      exact g_vret (pc := 17) hX hR d_Ta_cut_17
    · refine g_aload_n (pc := 12) hX d_Ta_cut_12 rfl 0 rfl ?_
      refine g_iload_n (pc := 13) hX d_Ta_cut_13 rfl 1 rfl ?_
      refine pf_Ta_23 (pc := 14) (w2 := (zwT c a0 a1 w n ((x.1, l1)))) hX 0 rfl rfl (su_Ta_0_2 c a0 a1 w n x l1) d_Ta_cut_14 ?_
      cases h
      exact g_vret (pc := 17) hX hR d_Ta_cut_17)
theorem d_Jo_write_0 : decode zb_Jo_write 0 = .ok (.aload_n 0, 1) := by decide +kernel
theorem d_Jo_write_1 : decode zb_Jo_write 1 = .ok (.getfield 15, 3) := by decide +kernel
theorem d_Jo_write_4 : decode zb_Jo_write 4 = .ok (.iconst 3, 1) := by decide +kernel
theorem d_Jo_write_5 : decode zb_Jo_write 5 = .ok (.imul, 1) := by decide +kernel
theorem d_Jo_write_6 : decode zb_Jo_write 6 = .ok (.istore 4, 2) := by decide +kernel
theorem d_Jo_write_8 : decode zb_Jo_write 8 = .ok (.aload_n 0, 1) := by decide +kernel
theorem d_Jo_write_9 : decode zb_Jo_write 9 = .ok (.getfield 15, 3) := by decide +kernel
theorem d_Jo_write_12 : decode zb_Jo_write 12 = .ok (.sipush 300, 3) := by decide +kernel
theorem d_Jo_write_15 : decode zb_Jo_write 15 = .ok (.if_icmp .ge 50, 3) := by decide +kernel
theorem d_Jo_write_18 : decode zb_Jo_write 18 = .ok (.iload 4, 2) := by decide +kernel
theorem d_Jo_write_20 : decode zb_Jo_write 20 = .ok (.ifCond .lt 45, 3) := by decide +kernel
theorem d_Jo_write_23 : decode zb_Jo_write 23 = .ok (.iload 4, 2) := by decide +kernel
theorem d_Jo_write_25 : decode zb_Jo_write 25 = .ok (.iconst 2, 1) := by decide +kernel
theorem d_Jo_write_26 : decode zb_Jo_write 26 = .ok (.iadd, 1) := by decide +kernel
theorem d_Jo_write_27 : decode zb_Jo_write 27 = .ok (.aload_n 0, 1) := by decide +kernel
theorem d_Jo_write_28 : decode zb_Jo_write 28 = .ok (.getfield 11, 3) := by decide +kernel
theorem d_Jo_write_31 : decode zb_Jo_write 31 = .ok (.arraylength, 1) := by decide +kernel
theorem d_Jo_write_32 : decode zb_Jo_write 32 = .ok (.if_icmp .ge 33, 3) := by decide +kernel
theorem d_Jo_write_35 : decode zb_Jo_write 35 = .ok (.aload_n 0, 1) := by decide +kernel
theorem d_Jo_write_36 : decode zb_Jo_write 36 = .ok (.getfield 11, 3) := by decide +kernel
theorem d_Jo_write_39 : decode zb_Jo_write 39 = .ok (.iload 4, 2) := by decide +kernel
theorem d_Jo_write_41 : decode zb_Jo_write 41 = .ok (.iconst 0, 1) := by decide +kernel
theorem d_Jo_write_42 : decode zb_Jo_write 42 = .ok (.iadd, 1) := by decide +kernel
theorem d_Jo_write_43 : decode zb_Jo_write 43 = .ok (.iload_n 1, 1) := by decide +kernel
theorem d_Jo_write_44 : decode zb_Jo_write 44 = .ok (.iastore, 1) := by decide +kernel
theorem d_Jo_write_45 : decode zb_Jo_write 45 = .ok (.aload_n 0, 1) := by decide +kernel
theorem d_Jo_write_46 : decode zb_Jo_write 46 = .ok (.getfield 11, 3) := by decide +kernel
theorem d_Jo_write_49 : decode zb_Jo_write 49 = .ok (.iload 4, 2) := by decide +kernel
theorem d_Jo_write_51 : decode zb_Jo_write 51 = .ok (.iconst 1, 1) := by decide +kernel
theorem d_Jo_write_52 : decode zb_Jo_write 52 = .ok (.iadd, 1) := by decide +kernel
theorem d_Jo_write_53 : decode zb_Jo_write 53 = .ok (.iload_n 2, 1) := by decide +kernel
theorem d_Jo_write_54 : decode zb_Jo_write 54 = .ok (.iastore, 1) := by decide +kernel
theorem d_Jo_write_55 : decode zb_Jo_write 55 = .ok (.aload_n 0, 1) := by decide +kernel
theorem d_Jo_write_56 : decode zb_Jo_write 56 = .ok (.getfield 11, 3) := by decide +kernel
theorem d_Jo_write_59 : decode zb_Jo_write 59 = .ok (.iload 4, 2) := by decide +kernel
theorem d_Jo_write_61 : decode zb_Jo_write 61 = .ok (.iconst 2, 1) := by decide +kernel
theorem d_Jo_write_62 : decode zb_Jo_write 62 = .ok (.iadd, 1) := by decide +kernel
theorem d_Jo_write_63 : decode zb_Jo_write 63 = .ok (.iload_n 3, 1) := by decide +kernel
theorem d_Jo_write_64 : decode zb_Jo_write 64 = .ok (.iastore, 1) := by decide +kernel
theorem d_Jo_write_65 : decode zb_Jo_write 65 = .ok (.aload_n 0, 1) := by decide +kernel
theorem d_Jo_write_66 : decode zb_Jo_write 66 = .ok (.dup, 1) := by decide +kernel
theorem d_Jo_write_67 : decode zb_Jo_write 67 = .ok (.getfield 15, 3) := by decide +kernel
theorem d_Jo_write_70 : decode zb_Jo_write 70 = .ok (.iconst 1, 1) := by decide +kernel
theorem d_Jo_write_71 : decode zb_Jo_write 71 = .ok (.iadd, 1) := by decide +kernel
theorem d_Jo_write_72 : decode zb_Jo_write 72 = .ok (.putfield 15, 3) := by decide +kernel
theorem d_Jo_write_75 : decode zb_Jo_write 75 = .ok (.return_, 1) := by decide +kernel
def k_Jo_write (x : zsT) (l1 : Int32) (l2 : Int32) (l3 : Int32) : Option (zsT) := (if x.2 < (300 : Int32) then (if (x.2 * (3 : Int32)) < 0 then some ((x.1, (x.2 + (1 : Int32)))) else (if ((x.2 * (3 : Int32)) + (2 : Int32)) < (900 : Int32) then (if zOut (((x.2 * (3 : Int32)) + (0 : Int32))) 900 then none else (if zOut (((x.2 * (3 : Int32)) + (1 : Int32))) 900 then none else (if zOut (((x.2 * (3 : Int32)) + (2 : Int32))) 900 then none else some (((upd ((upd ((upd x.1 (((x.2 * (3 : Int32)) + (0 : Int32))).toNatClampNeg l1)) (((x.2 * (3 : Int32)) + (1 : Int32))).toNatClampNeg l2)) (((x.2 * (3 : Int32)) + (2 : Int32))).toNatClampNeg l3), (x.2 + (1 : Int32))))))) else some ((x.1, (x.2 + (1 : Int32)))))) else some ((x.1, (x.2 + (1 : Int32)))))
theorem c_Jo_write (c : zY) (q : Nat → Nat) (x : zsT) (l1 : Int32) (l2 : Int32) (l3 : Int32) {out : zsT} (h : k_Jo_write x l1 l2 l3 = some out) : KM zy_Jo_write zb_Jo_write 5 none 0 c [.ref ((q 0)), .int l1, .int l2, .int l3] (zwJ c q x) (zwJ c q out) none := zK_of zp_Jo rfl (Nat.le_of_ble_eq_true rfl) (zq_Jo c q _ _) (fun X hX hR => by
  show Go X (zwJ c q x) [(0, .ref ((q 0))), (1, .int l1), (2, .int l2), (3, .int l3)] 0 []
  rw [k_Jo_write] at h
  refine g_aload_n (pc := 0) hX d_Jo_write_0 rfl 0 rfl ?_
  refine gf_Jo_15 (pc := 1) (v := .int x.2) hX 0 rfl rfl d_Jo_write_1 ?_
  refine g_iconst (pc := 4) hX d_Jo_write_4 zc_3 ?_
  refine g_imul (pc := 5) hX d_Jo_write_5 ?_
  refine g_istore (pc := 6) (L' := [(4, .int ((x.2 * (3 : Int32)))), (0, .ref ((q 0))), (1, .int l1), (2, .int l2), (3, .int l3)]) hX d_Jo_write_6 rfl rfl ?_
  refine g_aload_n (pc := 8) hX d_Jo_write_8 rfl 1 rfl ?_
  refine gf_Jo_15 (pc := 9) (v := .int x.2) hX 0 rfl rfl d_Jo_write_9 ?_
  refine g_sipush (pc := 12) hX d_Jo_write_12 zh_300 ?_
  refine g_icmp_ge (pc := 15) (tgt := 65) hX d_Jo_write_15 (by decide) h (fun c1 h => ?_) (fun c1 h => ?_)
  · refine g_aload_n (pc := 65) hX d_Jo_write_65 rfl 1 rfl ?_
    refine g_dup (pc := 66) hX d_Jo_write_66 rfl ?_
    refine gf_Jo_15 (pc := 67) (v := .int x.2) hX 0 rfl rfl d_Jo_write_67 ?_
    refine g_iconst (pc := 70) hX d_Jo_write_70 zc_1 ?_
    refine g_iadd (pc := 71) hX d_Jo_write_71 ?_
    refine pf_Jo_15 (pc := 72) (w2 := (zwJ c q ((x.1, (x.2 + (1 : Int32)))))) hX 0 rfl rfl (su_Jo_0_1 c q x ((x.2 + (1 : Int32)))) d_Jo_write_72 ?_
    cases h
    exact g_vret (pc := 75) hX hR d_Jo_write_75
  · refine g_iload (pc := 18) hX d_Jo_write_18 0 rfl ?_
    refine g_if_lt (pc := 20) (tgt := 65) hX d_Jo_write_20 (by decide) h (fun c2 h => ?_) (fun c2 h => ?_)
    · refine g_aload_n (pc := 65) hX d_Jo_write_65 rfl 1 rfl ?_
      refine g_dup (pc := 66) hX d_Jo_write_66 rfl ?_
      refine gf_Jo_15 (pc := 67) (v := .int x.2) hX 0 rfl rfl d_Jo_write_67 ?_
      refine g_iconst (pc := 70) hX d_Jo_write_70 zc_1 ?_
      refine g_iadd (pc := 71) hX d_Jo_write_71 ?_
      refine pf_Jo_15 (pc := 72) (w2 := (zwJ c q ((x.1, (x.2 + (1 : Int32)))))) hX 0 rfl rfl (su_Jo_0_1 c q x ((x.2 + (1 : Int32)))) d_Jo_write_72 ?_
      cases h
      exact g_vret (pc := 75) hX hR d_Jo_write_75
    · refine g_iload (pc := 23) hX d_Jo_write_23 0 rfl ?_
      refine g_iconst (pc := 25) hX d_Jo_write_25 zc_2 ?_
      refine g_iadd (pc := 26) hX d_Jo_write_26 ?_
      refine g_aload_n (pc := 27) hX d_Jo_write_27 rfl 1 rfl ?_
      refine gf_Jo_11 (pc := 28) (v := .ref ((q 1))) hX 0 rfl rfl d_Jo_write_28 ?_
      refine g_alen (pc := 31) (v := (900 : Int32)) hX 1 rfl rfl d_Jo_write_31 ?_
      refine g_icmp_ge (pc := 32) (tgt := 65) hX d_Jo_write_32 (by decide) h (fun c3 h => ?_) (fun c3 h => ?_)
      · refine g_aload_n (pc := 65) hX d_Jo_write_65 rfl 1 rfl ?_
        refine g_dup (pc := 66) hX d_Jo_write_66 rfl ?_
        refine gf_Jo_15 (pc := 67) (v := .int x.2) hX 0 rfl rfl d_Jo_write_67 ?_
        refine g_iconst (pc := 70) hX d_Jo_write_70 zc_1 ?_
        refine g_iadd (pc := 71) hX d_Jo_write_71 ?_
        refine pf_Jo_15 (pc := 72) (w2 := (zwJ c q ((x.1, (x.2 + (1 : Int32)))))) hX 0 rfl rfl (su_Jo_0_1 c q x ((x.2 + (1 : Int32)))) d_Jo_write_72 ?_
        cases h
        exact g_vret (pc := 75) hX hR d_Jo_write_75
      · refine g_aload_n (pc := 35) hX d_Jo_write_35 rfl 1 rfl ?_
        refine gf_Jo_11 (pc := 36) (v := .ref ((q 1))) hX 0 rfl rfl d_Jo_write_36 ?_
        refine g_iload (pc := 39) hX d_Jo_write_39 0 rfl ?_
        refine g_iconst (pc := 41) hX d_Jo_write_41 zc_0 ?_
        refine g_iadd (pc := 42) hX d_Jo_write_42 ?_
        refine g_iload_n (pc := 43) hX d_Jo_write_43 rfl 2 rfl ?_
        refine g_iast (pc := 44) (f := x.1) (w' := (zwJ c q (((upd x.1 (((x.2 * (3 : Int32)) + (0 : Int32))).toNatClampNeg l1), x.2)))) hX 1 rfl h (sa_Jo_1 c q x (upd x.1 (((x.2 * (3 : Int32)) + (0 : Int32))).toNatClampNeg l1)) d_Jo_write_44 (fun h => ?_)
        refine g_aload_n (pc := 45) hX d_Jo_write_45 rfl 1 rfl ?_
        refine gf_Jo_11 (pc := 46) (v := .ref ((q 1))) hX 0 rfl rfl d_Jo_write_46 ?_
        refine g_iload (pc := 49) hX d_Jo_write_49 0 rfl ?_
        refine g_iconst (pc := 51) hX d_Jo_write_51 zc_1 ?_
        refine g_iadd (pc := 52) hX d_Jo_write_52 ?_
        refine g_iload_n (pc := 53) hX d_Jo_write_53 rfl 3 rfl ?_
        refine g_iast (pc := 54) (f := (upd x.1 (((x.2 * (3 : Int32)) + (0 : Int32))).toNatClampNeg l1)) (w' := (zwJ c q (((upd ((upd x.1 (((x.2 * (3 : Int32)) + (0 : Int32))).toNatClampNeg l1)) (((x.2 * (3 : Int32)) + (1 : Int32))).toNatClampNeg l2), x.2)))) hX 1 rfl h (sa_Jo_1 c q (((upd x.1 (((x.2 * (3 : Int32)) + (0 : Int32))).toNatClampNeg l1), x.2)) (upd ((upd x.1 (((x.2 * (3 : Int32)) + (0 : Int32))).toNatClampNeg l1)) (((x.2 * (3 : Int32)) + (1 : Int32))).toNatClampNeg l2)) d_Jo_write_54 (fun h => ?_)
        refine g_aload_n (pc := 55) hX d_Jo_write_55 rfl 1 rfl ?_
        refine gf_Jo_11 (pc := 56) (v := .ref ((q 1))) hX 0 rfl rfl d_Jo_write_56 ?_
        refine g_iload (pc := 59) hX d_Jo_write_59 0 rfl ?_
        refine g_iconst (pc := 61) hX d_Jo_write_61 zc_2 ?_
        refine g_iadd (pc := 62) hX d_Jo_write_62 ?_
        refine g_iload_n (pc := 63) hX d_Jo_write_63 rfl 4 rfl ?_
        refine g_iast (pc := 64) (f := (upd ((upd x.1 (((x.2 * (3 : Int32)) + (0 : Int32))).toNatClampNeg l1)) (((x.2 * (3 : Int32)) + (1 : Int32))).toNatClampNeg l2)) (w' := (zwJ c q (((upd ((upd ((upd x.1 (((x.2 * (3 : Int32)) + (0 : Int32))).toNatClampNeg l1)) (((x.2 * (3 : Int32)) + (1 : Int32))).toNatClampNeg l2)) (((x.2 * (3 : Int32)) + (2 : Int32))).toNatClampNeg l3), x.2)))) hX 1 rfl h (sa_Jo_1 c q (((upd ((upd x.1 (((x.2 * (3 : Int32)) + (0 : Int32))).toNatClampNeg l1)) (((x.2 * (3 : Int32)) + (1 : Int32))).toNatClampNeg l2), x.2)) (upd ((upd ((upd x.1 (((x.2 * (3 : Int32)) + (0 : Int32))).toNatClampNeg l1)) (((x.2 * (3 : Int32)) + (1 : Int32))).toNatClampNeg l2)) (((x.2 * (3 : Int32)) + (2 : Int32))).toNatClampNeg l3)) d_Jo_write_64 (fun h => ?_)
        refine g_aload_n (pc := 65) hX d_Jo_write_65 rfl 1 rfl ?_
        refine g_dup (pc := 66) hX d_Jo_write_66 rfl ?_
        refine gf_Jo_15 (pc := 67) (v := .int x.2) hX 0 rfl rfl d_Jo_write_67 ?_
        refine g_iconst (pc := 70) hX d_Jo_write_70 zc_1 ?_
        refine g_iadd (pc := 71) hX d_Jo_write_71 ?_
        refine pf_Jo_15 (pc := 72) (w2 := (zwJ c q (((upd ((upd ((upd x.1 (((x.2 * (3 : Int32)) + (0 : Int32))).toNatClampNeg l1)) (((x.2 * (3 : Int32)) + (1 : Int32))).toNatClampNeg l2)) (((x.2 * (3 : Int32)) + (2 : Int32))).toNatClampNeg l3), (x.2 + (1 : Int32)))))) hX 0 rfl rfl (su_Jo_0_1 c q (((upd ((upd ((upd x.1 (((x.2 * (3 : Int32)) + (0 : Int32))).toNatClampNeg l1)) (((x.2 * (3 : Int32)) + (1 : Int32))).toNatClampNeg l2)) (((x.2 * (3 : Int32)) + (2 : Int32))).toNatClampNeg l3), x.2)) ((x.2 + (1 : Int32)))) d_Jo_write_72 ?_
        cases h
        exact g_vret (pc := 75) hX hR d_Jo_write_75)
theorem d_Jo_keeps_0 : decode zb_Jo_keeps 0 = .ok (.iload_n 1, 1) := by decide +kernel
theorem d_Jo_keeps_1 : decode zb_Jo_keeps 1 = .ok (.ifCond .lt 22, 3) := by decide +kernel
theorem d_Jo_keeps_4 : decode zb_Jo_keeps 4 = .ok (.iload_n 1, 1) := by decide +kernel
theorem d_Jo_keeps_5 : decode zb_Jo_keeps 5 = .ok (.aload_n 0, 1) := by decide +kernel
theorem d_Jo_keeps_6 : decode zb_Jo_keeps 6 = .ok (.getfield 15, 3) := by decide +kernel
theorem d_Jo_keeps_9 : decode zb_Jo_keeps 9 = .ok (.if_icmp .ge 14, 3) := by decide +kernel
theorem d_Jo_keeps_12 : decode zb_Jo_keeps 12 = .ok (.iload_n 1, 1) := by decide +kernel
theorem d_Jo_keeps_13 : decode zb_Jo_keeps 13 = .ok (.sipush 300, 3) := by decide +kernel
theorem d_Jo_keeps_16 : decode zb_Jo_keeps 16 = .ok (.if_icmp .ge 7, 3) := by decide +kernel
theorem d_Jo_keeps_19 : decode zb_Jo_keeps 19 = .ok (.iconst 1, 1) := by decide +kernel
theorem d_Jo_keeps_20 : decode zb_Jo_keeps 20 = .ok (.goto 4, 3) := by decide +kernel
theorem d_Jo_keeps_23 : decode zb_Jo_keeps 23 = .ok (.iconst 0, 1) := by decide +kernel
theorem d_Jo_keeps_24 : decode zb_Jo_keeps 24 = .ok (.ireturn, 1) := by decide +kernel
def k_Jo_keeps (x : zsT) (l1 : Int32) : Option (Int32) := (if l1 < 0 then some ((0 : Int32)) else (if l1 < x.2 then (if l1 < (300 : Int32) then some ((1 : Int32)) else some ((0 : Int32))) else some ((0 : Int32))))
theorem c_Jo_keeps (c : zY) (q : Nat → Nat) (x : zsT) (l1 : Int32) {out : Int32} (h : k_Jo_keeps x l1 = some out) : KM zy_Jo_keeps zb_Jo_keeps 2 (some .boolean) 0 c [.ref ((q 0)), .int l1] (zwJ c q x) (zwJ c q x) (some (.int out)) := zK_of zp_Jo rfl (Nat.le_of_ble_eq_true rfl) (zq_Jo c q _ _) (fun X hX hR => by
  show Go X (zwJ c q x) [(0, .ref ((q 0))), (1, .int l1)] 0 []
  rw [k_Jo_keeps] at h
  refine g_iload_n (pc := 0) hX d_Jo_keeps_0 rfl 1 rfl ?_
  refine g_if_lt (pc := 1) (tgt := 23) hX d_Jo_keeps_1 (by decide) h (fun c1 h => ?_) (fun c1 h => ?_)
  · refine g_iconst (pc := 23) hX d_Jo_keeps_23 zc_0 ?_
    cases h
    exact g_zret (pc := 24) hX hR (Or.inl rfl) d_Jo_keeps_24
  · refine g_iload_n (pc := 4) hX d_Jo_keeps_4 rfl 1 rfl ?_
    refine g_aload_n (pc := 5) hX d_Jo_keeps_5 rfl 0 rfl ?_
    refine gf_Jo_15 (pc := 6) (v := .int x.2) hX 0 rfl rfl d_Jo_keeps_6 ?_
    refine g_icmp_ge (pc := 9) (tgt := 23) hX d_Jo_keeps_9 (by decide) h (fun c2 h => ?_) (fun c2 h => ?_)
    · refine g_iconst (pc := 23) hX d_Jo_keeps_23 zc_0 ?_
      cases h
      exact g_zret (pc := 24) hX hR (Or.inl rfl) d_Jo_keeps_24
    · refine g_iload_n (pc := 12) hX d_Jo_keeps_12 rfl 1 rfl ?_
      refine g_sipush (pc := 13) hX d_Jo_keeps_13 zh_300 ?_
      refine g_icmp_ge (pc := 16) (tgt := 23) hX d_Jo_keeps_16 (by decide) h (fun c3 h => ?_) (fun c3 h => ?_)
      · refine g_iconst (pc := 23) hX d_Jo_keeps_23 zc_0 ?_
        cases h
        exact g_zret (pc := 24) hX hR (Or.inl rfl) d_Jo_keeps_24
      · refine g_iconst (pc := 19) hX d_Jo_keeps_19 zc_1 ?_
        refine g_goto (pc := 20) (tgt := 24) hX d_Jo_keeps_20 (by decide) ?_
        cases h
        exact g_zret (pc := 24) hX hR (Or.inr rfl) d_Jo_keeps_24)
theorem d_Jo_keepsAll_0 : decode zb_Jo_keepsAll 0 = .ok (.aload_n 0, 1) := by decide +kernel
theorem d_Jo_keepsAll_1 : decode zb_Jo_keepsAll 1 = .ok (.getfield 15, 3) := by decide +kernel
theorem d_Jo_keepsAll_4 : decode zb_Jo_keepsAll 4 = .ok (.sipush 300, 3) := by decide +kernel
theorem d_Jo_keepsAll_7 : decode zb_Jo_keepsAll 7 = .ok (.if_icmp .gt 7, 3) := by decide +kernel
theorem d_Jo_keepsAll_10 : decode zb_Jo_keepsAll 10 = .ok (.iconst 1, 1) := by decide +kernel
theorem d_Jo_keepsAll_11 : decode zb_Jo_keepsAll 11 = .ok (.goto 4, 3) := by decide +kernel
theorem d_Jo_keepsAll_14 : decode zb_Jo_keepsAll 14 = .ok (.iconst 0, 1) := by decide +kernel
theorem d_Jo_keepsAll_15 : decode zb_Jo_keepsAll 15 = .ok (.ireturn, 1) := by decide +kernel
def k_Jo_keepsAll (x : zsT) : Option (Int32) := (if (300 : Int32) < x.2 then some ((0 : Int32)) else some ((1 : Int32)))
theorem c_Jo_keepsAll (c : zY) (q : Nat → Nat) (x : zsT) {out : Int32} (h : k_Jo_keepsAll x = some out) : KM zy_Jo_keepsAll zb_Jo_keepsAll 1 (some .boolean) 0 c [.ref ((q 0))] (zwJ c q x) (zwJ c q x) (some (.int out)) := zK_of zp_Jo rfl (Nat.le_of_ble_eq_true rfl) (zq_Jo c q _ _) (fun X hX hR => by
  show Go X (zwJ c q x) [(0, .ref ((q 0)))] 0 []
  rw [k_Jo_keepsAll] at h
  refine g_aload_n (pc := 0) hX d_Jo_keepsAll_0 rfl 0 rfl ?_
  refine gf_Jo_15 (pc := 1) (v := .int x.2) hX 0 rfl rfl d_Jo_keepsAll_1 ?_
  refine g_sipush (pc := 4) hX d_Jo_keepsAll_4 zh_300 ?_
  refine g_icmp_gt (pc := 7) (tgt := 14) hX d_Jo_keepsAll_7 (by decide) h (fun c1 h => ?_) (fun c1 h => ?_)
  · refine g_iconst (pc := 14) hX d_Jo_keepsAll_14 zc_0 ?_
    cases h
    exact g_zret (pc := 15) hX hR (Or.inl rfl) d_Jo_keepsAll_15
  · refine g_iconst (pc := 10) hX d_Jo_keepsAll_10 zc_1 ?_
    refine g_goto (pc := 11) (tgt := 15) hX d_Jo_keepsAll_11 (by decide) ?_
    cases h
    exact g_zret (pc := 15) hX hR (Or.inr rfl) d_Jo_keepsAll_15)
theorem d_Jo_at_0 : decode zb_Jo_at 0 = .ok (.iload_n 1, 1) := by decide +kernel
theorem d_Jo_at_1 : decode zb_Jo_at 1 = .ok (.ifCond .lt 27, 3) := by decide +kernel
theorem d_Jo_at_4 : decode zb_Jo_at 4 = .ok (.iload_n 1, 1) := by decide +kernel
theorem d_Jo_at_5 : decode zb_Jo_at 5 = .ok (.aload_n 0, 1) := by decide +kernel
theorem d_Jo_at_6 : decode zb_Jo_at 6 = .ok (.getfield 15, 3) := by decide +kernel
theorem d_Jo_at_9 : decode zb_Jo_at 9 = .ok (.if_icmp .ge 19, 3) := by decide +kernel
theorem d_Jo_at_12 : decode zb_Jo_at 12 = .ok (.iload_n 1, 1) := by decide +kernel
theorem d_Jo_at_13 : decode zb_Jo_at 13 = .ok (.sipush 300, 3) := by decide +kernel
theorem d_Jo_at_16 : decode zb_Jo_at 16 = .ok (.if_icmp .ge 12, 3) := by decide +kernel
theorem d_Jo_at_19 : decode zb_Jo_at 19 = .ok (.iload_n 2, 1) := by decide +kernel
theorem d_Jo_at_20 : decode zb_Jo_at 20 = .ok (.ifCond .lt 8, 3) := by decide +kernel
theorem d_Jo_at_23 : decode zb_Jo_at 23 = .ok (.iload_n 2, 1) := by decide +kernel
theorem d_Jo_at_24 : decode zb_Jo_at 24 = .ok (.iconst 3, 1) := by decide +kernel
theorem d_Jo_at_25 : decode zb_Jo_at 25 = .ok (.if_icmp .lt 5, 3) := by decide +kernel
theorem d_Jo_at_28 : decode zb_Jo_at 28 = .ok (.iconst 0, 1) := by decide +kernel
theorem d_Jo_at_29 : decode zb_Jo_at 29 = .ok (.ireturn, 1) := by decide +kernel
theorem d_Jo_at_30 : decode zb_Jo_at 30 = .ok (.iload_n 1, 1) := by decide +kernel
theorem d_Jo_at_31 : decode zb_Jo_at 31 = .ok (.iconst 3, 1) := by decide +kernel
theorem d_Jo_at_32 : decode zb_Jo_at 32 = .ok (.imul, 1) := by decide +kernel
theorem d_Jo_at_33 : decode zb_Jo_at 33 = .ok (.iload_n 2, 1) := by decide +kernel
theorem d_Jo_at_34 : decode zb_Jo_at 34 = .ok (.iadd, 1) := by decide +kernel
theorem d_Jo_at_35 : decode zb_Jo_at 35 = .ok (.istore_n 3, 1) := by decide +kernel
theorem d_Jo_at_36 : decode zb_Jo_at 36 = .ok (.iload_n 3, 1) := by decide +kernel
theorem d_Jo_at_37 : decode zb_Jo_at 37 = .ok (.aload_n 0, 1) := by decide +kernel
theorem d_Jo_at_38 : decode zb_Jo_at 38 = .ok (.getfield 11, 3) := by decide +kernel
theorem d_Jo_at_41 : decode zb_Jo_at 41 = .ok (.arraylength, 1) := by decide +kernel
theorem d_Jo_at_42 : decode zb_Jo_at 42 = .ok (.if_icmp .ge 12, 3) := by decide +kernel
theorem d_Jo_at_45 : decode zb_Jo_at 45 = .ok (.aload_n 0, 1) := by decide +kernel
theorem d_Jo_at_46 : decode zb_Jo_at 46 = .ok (.getfield 11, 3) := by decide +kernel
theorem d_Jo_at_49 : decode zb_Jo_at 49 = .ok (.iload_n 3, 1) := by decide +kernel
theorem d_Jo_at_50 : decode zb_Jo_at 50 = .ok (.iaload, 1) := by decide +kernel
theorem d_Jo_at_51 : decode zb_Jo_at 51 = .ok (.goto 4, 3) := by decide +kernel
theorem d_Jo_at_54 : decode zb_Jo_at 54 = .ok (.iconst 0, 1) := by decide +kernel
theorem d_Jo_at_55 : decode zb_Jo_at 55 = .ok (.ireturn, 1) := by decide +kernel
def k_Jo_at (x : zsT) (l1 : Int32) (l2 : Int32) : Option (Int32) := (if l1 < 0 then some ((0 : Int32)) else (if l1 < x.2 then (if l1 < (300 : Int32) then (if l2 < 0 then some ((0 : Int32)) else (if l2 < (3 : Int32) then (if ((l1 * (3 : Int32)) + l2) < (900 : Int32) then (if zOut (((l1 * (3 : Int32)) + l2)) 900 then none else some ((x.1 (((l1 * (3 : Int32)) + l2)).toNatClampNeg))) else some ((0 : Int32))) else some ((0 : Int32)))) else some ((0 : Int32))) else some ((0 : Int32))))
theorem c_Jo_at (c : zY) (q : Nat → Nat) (x : zsT) (l1 : Int32) (l2 : Int32) {out : Int32} (h : k_Jo_at x l1 l2 = some out) : KM zy_Jo_at zb_Jo_at 4 (some .int) 0 c [.ref ((q 0)), .int l1, .int l2] (zwJ c q x) (zwJ c q x) (some (.int out)) := zK_of zp_Jo rfl (Nat.le_of_ble_eq_true rfl) (zq_Jo c q _ _) (fun X hX hR => by
  show Go X (zwJ c q x) [(0, .ref ((q 0))), (1, .int l1), (2, .int l2)] 0 []
  rw [k_Jo_at] at h
  refine g_iload_n (pc := 0) hX d_Jo_at_0 rfl 1 rfl ?_
  refine g_if_lt (pc := 1) (tgt := 28) hX d_Jo_at_1 (by decide) h (fun c1 h => ?_) (fun c1 h => ?_)
  · refine g_iconst (pc := 28) hX d_Jo_at_28 zc_0 ?_
    cases h
    exact g_iret (pc := 29) hX hR d_Jo_at_29
  · refine g_iload_n (pc := 4) hX d_Jo_at_4 rfl 1 rfl ?_
    refine g_aload_n (pc := 5) hX d_Jo_at_5 rfl 0 rfl ?_
    refine gf_Jo_15 (pc := 6) (v := .int x.2) hX 0 rfl rfl d_Jo_at_6 ?_
    refine g_icmp_ge (pc := 9) (tgt := 28) hX d_Jo_at_9 (by decide) h (fun c2 h => ?_) (fun c2 h => ?_)
    · refine g_iconst (pc := 28) hX d_Jo_at_28 zc_0 ?_
      cases h
      exact g_iret (pc := 29) hX hR d_Jo_at_29
    · refine g_iload_n (pc := 12) hX d_Jo_at_12 rfl 1 rfl ?_
      refine g_sipush (pc := 13) hX d_Jo_at_13 zh_300 ?_
      refine g_icmp_ge (pc := 16) (tgt := 28) hX d_Jo_at_16 (by decide) h (fun c3 h => ?_) (fun c3 h => ?_)
      · refine g_iconst (pc := 28) hX d_Jo_at_28 zc_0 ?_
        cases h
        exact g_iret (pc := 29) hX hR d_Jo_at_29
      · refine g_iload_n (pc := 19) hX d_Jo_at_19 rfl 2 rfl ?_
        refine g_if_lt (pc := 20) (tgt := 28) hX d_Jo_at_20 (by decide) h (fun c4 h => ?_) (fun c4 h => ?_)
        · refine g_iconst (pc := 28) hX d_Jo_at_28 zc_0 ?_
          cases h
          exact g_iret (pc := 29) hX hR d_Jo_at_29
        · refine g_iload_n (pc := 23) hX d_Jo_at_23 rfl 2 rfl ?_
          refine g_iconst (pc := 24) hX d_Jo_at_24 zc_3 ?_
          refine g_icmp_lt (pc := 25) (tgt := 30) hX d_Jo_at_25 (by decide) h (fun c5 h => ?_) (fun c5 h => ?_)
          · refine g_iload_n (pc := 30) hX d_Jo_at_30 rfl 1 rfl ?_
            refine g_iconst (pc := 31) hX d_Jo_at_31 zc_3 ?_
            refine g_imul (pc := 32) hX d_Jo_at_32 ?_
            refine g_iload_n (pc := 33) hX d_Jo_at_33 rfl 2 rfl ?_
            refine g_iadd (pc := 34) hX d_Jo_at_34 ?_
            refine g_istore_n (pc := 35) (L' := [(3, .int (((l1 * (3 : Int32)) + l2))), (0, .ref ((q 0))), (1, .int l1), (2, .int l2)]) hX d_Jo_at_35 rfl rfl rfl ?_
            refine g_iload_n (pc := 36) hX d_Jo_at_36 rfl 0 rfl ?_
            refine g_aload_n (pc := 37) hX d_Jo_at_37 rfl 1 rfl ?_
            refine gf_Jo_11 (pc := 38) (v := .ref ((q 1))) hX 0 rfl rfl d_Jo_at_38 ?_
            refine g_alen (pc := 41) (v := (900 : Int32)) hX 1 rfl rfl d_Jo_at_41 ?_
            refine g_icmp_ge (pc := 42) (tgt := 54) hX d_Jo_at_42 (by decide) h (fun c6 h => ?_) (fun c6 h => ?_)
            · refine g_iconst (pc := 54) hX d_Jo_at_54 zc_0 ?_
              cases h
              exact g_iret (pc := 55) hX hR d_Jo_at_55
            · refine g_aload_n (pc := 45) hX d_Jo_at_45 rfl 1 rfl ?_
              refine gf_Jo_11 (pc := 46) (v := .ref ((q 1))) hX 0 rfl rfl d_Jo_at_46 ?_
              refine g_iload_n (pc := 49) hX d_Jo_at_49 rfl 0 rfl ?_
              refine g_iald (pc := 50) (f := x.1) hX 1 rfl h d_Jo_at_50 (fun h => ?_)
              refine g_goto (pc := 51) (tgt := 55) hX d_Jo_at_51 (by decide) ?_
              cases h
              exact g_iret (pc := 55) hX hR d_Jo_at_55
          · refine g_iconst (pc := 28) hX d_Jo_at_28 zc_0 ?_
            cases h
            exact g_iret (pc := 29) hX hR d_Jo_at_29)
theorem d_Jo_tells_0 : decode zb_Jo_tells 0 = .ok (.aload_n 0, 1) := by decide +kernel
theorem d_Jo_tells_1 : decode zb_Jo_tells 1 = .ok (.iload_n 1, 1) := by decide +kernel
theorem d_Jo_tells_2 : decode zb_Jo_tells 2 = .ok (.iconst 0, 1) := by decide +kernel
theorem d_Jo_tells_3 : decode zb_Jo_tells 3 = .ok (.invokevirtual 19, 3) := by decide +kernel
theorem d_Jo_tells_6 : decode zb_Jo_tells 6 = .ok (.iload_n 2, 1) := by decide +kernel
theorem d_Jo_tells_7 : decode zb_Jo_tells 7 = .ok (.if_icmp .ne 17, 3) := by decide +kernel
theorem d_Jo_tells_10 : decode zb_Jo_tells 10 = .ok (.aload_n 0, 1) := by decide +kernel
theorem d_Jo_tells_11 : decode zb_Jo_tells 11 = .ok (.iload_n 1, 1) := by decide +kernel
theorem d_Jo_tells_12 : decode zb_Jo_tells 12 = .ok (.iconst 1, 1) := by decide +kernel
theorem d_Jo_tells_13 : decode zb_Jo_tells 13 = .ok (.invokevirtual 19, 3) := by decide +kernel
theorem d_Jo_tells_16 : decode zb_Jo_tells 16 = .ok (.iload_n 3, 1) := by decide +kernel
theorem d_Jo_tells_17 : decode zb_Jo_tells 17 = .ok (.if_icmp .ne 7, 3) := by decide +kernel
theorem d_Jo_tells_20 : decode zb_Jo_tells 20 = .ok (.iconst 1, 1) := by decide +kernel
theorem d_Jo_tells_21 : decode zb_Jo_tells 21 = .ok (.goto 4, 3) := by decide +kernel
theorem d_Jo_tells_24 : decode zb_Jo_tells 24 = .ok (.iconst 0, 1) := by decide +kernel
theorem d_Jo_tells_25 : decode zb_Jo_tells 25 = .ok (.ireturn, 1) := by decide +kernel
def k_Jo_tells (x : zsT) (l1 : Int32) (l2 : Int32) (l3 : Int32) : Option (Int32) := (k_Jo_at x l1 ((0 : Int32))).bind fun o1 => (if o1 = l2 then (k_Jo_at x l1 ((1 : Int32))).bind fun o3 => (if o3 = l3 then some ((1 : Int32)) else some ((0 : Int32))) else some ((0 : Int32)))
theorem c_Jo_tells (c : zY) (q : Nat → Nat) (x : zsT) (l1 : Int32) (l2 : Int32) (l3 : Int32) {out : Int32} (h : k_Jo_tells x l1 l2 l3 = some out) : KM zy_Jo_tells zb_Jo_tells 4 (some .boolean) 1 c [.ref ((q 0)), .int l1, .int l2, .int l3] (zwJ c q x) (zwJ c q x) (some (.int out)) := zK_of zp_Jo rfl (Nat.le_of_ble_eq_true rfl) (zq_Jo c q _ _) (fun X hX hR => by
  show Go X (zwJ c q x) [(0, .ref ((q 0))), (1, .int l1), (2, .int l2), (3, .int l3)] 0 []
  rw [k_Jo_tells] at h
  refine g_aload_n (pc := 0) hX d_Jo_tells_0 rfl 0 rfl ?_
  refine g_iload_n (pc := 1) hX d_Jo_tells_1 rfl 1 rfl ?_
  refine g_iconst (pc := 2) hX d_Jo_tells_2 zc_0 ?_
  obtain ⟨o1, e1, h⟩ := zbind h
  refine g_cvI (pc := 3) (w1 := []) (w2 := []) (st := []) (w' := (zwJ c q x)) hX zk_Jo_at zs_Jo_at zL_Jo_19 (c_Jo_at c q x l1 ((0 : Int32)) e1) rfl rfl rfl rfl (zself _) (zself _).symm 0 4 rfl rfl rfl d_Jo_tells_3 ?_
  refine g_iload_n (pc := 6) hX d_Jo_tells_6 rfl 2 rfl ?_
  refine g_icmp_ne (pc := 7) (tgt := 24) hX d_Jo_tells_7 (by decide) h (fun c2 h => ?_) (fun c2 h => ?_)
  · refine g_iconst (pc := 24) hX d_Jo_tells_24 zc_0 ?_
    cases h
    exact g_zret (pc := 25) hX hR (Or.inl rfl) d_Jo_tells_25
  · refine g_aload_n (pc := 10) hX d_Jo_tells_10 rfl 0 rfl ?_
    refine g_iload_n (pc := 11) hX d_Jo_tells_11 rfl 1 rfl ?_
    refine g_iconst (pc := 12) hX d_Jo_tells_12 zc_1 ?_
    obtain ⟨o3, e3, h⟩ := zbind h
    refine g_cvI (pc := 13) (w1 := []) (w2 := []) (st := []) (w' := (zwJ c q x)) hX zk_Jo_at zs_Jo_at zL_Jo_19 (c_Jo_at c q x l1 ((1 : Int32)) e3) rfl rfl rfl rfl (zself _) (zself _).symm 0 4 rfl rfl rfl d_Jo_tells_13 ?_
    refine g_iload_n (pc := 16) hX d_Jo_tells_16 rfl 3 rfl ?_
    refine g_icmp_ne (pc := 17) (tgt := 24) hX d_Jo_tells_17 (by decide) h (fun c4 h => ?_) (fun c4 h => ?_)
    · refine g_iconst (pc := 24) hX d_Jo_tells_24 zc_0 ?_
      cases h
      exact g_zret (pc := 25) hX hR (Or.inl rfl) d_Jo_tells_25
    · refine g_iconst (pc := 20) hX d_Jo_tells_20 zc_1 ?_
      refine g_goto (pc := 21) (tgt := 25) hX d_Jo_tells_21 (by decide) ?_
      cases h
      exact g_zret (pc := 25) hX hR (Or.inr rfl) d_Jo_tells_25)
theorem d_Jo_numberOf_0 : decode zb_Jo_numberOf 0 = .ok (.iconst 0, 1) := by decide +kernel
theorem d_Jo_numberOf_1 : decode zb_Jo_numberOf 1 = .ok (.istore_n 3, 1) := by decide +kernel
theorem d_Jo_numberOf_2 : decode zb_Jo_numberOf 2 = .ok (.iconst 0, 1) := by decide +kernel
theorem d_Jo_numberOf_3 : decode zb_Jo_numberOf 3 = .ok (.istore 4, 2) := by decide +kernel
theorem d_Jo_numberOf_5 : decode zb_Jo_numberOf 5 = .ok (.iload 4, 2) := by decide +kernel
theorem d_Jo_numberOf_7 : decode zb_Jo_numberOf 7 = .ok (.aload_n 0, 1) := by decide +kernel
theorem d_Jo_numberOf_8 : decode zb_Jo_numberOf 8 = .ok (.getfield 15, 3) := by decide +kernel
theorem d_Jo_numberOf_11 : decode zb_Jo_numberOf 11 = .ok (.if_icmp .ge 31, 3) := by decide +kernel
theorem d_Jo_numberOf_14 : decode zb_Jo_numberOf 14 = .ok (.iload 4, 2) := by decide +kernel
theorem d_Jo_numberOf_16 : decode zb_Jo_numberOf 16 = .ok (.sipush 300, 3) := by decide +kernel
theorem d_Jo_numberOf_19 : decode zb_Jo_numberOf 19 = .ok (.if_icmp .ge 23, 3) := by decide +kernel
theorem d_Jo_numberOf_22 : decode zb_Jo_numberOf 22 = .ok (.aload_n 0, 1) := by decide +kernel
theorem d_Jo_numberOf_23 : decode zb_Jo_numberOf 23 = .ok (.iload 4, 2) := by decide +kernel
theorem d_Jo_numberOf_25 : decode zb_Jo_numberOf 25 = .ok (.iload_n 1, 1) := by decide +kernel
theorem d_Jo_numberOf_26 : decode zb_Jo_numberOf 26 = .ok (.iload_n 2, 1) := by decide +kernel
theorem d_Jo_numberOf_27 : decode zb_Jo_numberOf 27 = .ok (.invokevirtual 23, 3) := by decide +kernel
theorem d_Jo_numberOf_30 : decode zb_Jo_numberOf 30 = .ok (.ifCond .eq 6, 3) := by decide +kernel
theorem d_Jo_numberOf_33 : decode zb_Jo_numberOf 33 = .ok (.iinc 3 1, 3) := by decide +kernel
theorem d_Jo_numberOf_36 : decode zb_Jo_numberOf 36 = .ok (.iinc 4 1, 3) := by decide +kernel
theorem d_Jo_numberOf_39 : decode zb_Jo_numberOf 39 = .ok (.goto (-34), 3) := by decide +kernel
theorem d_Jo_numberOf_42 : decode zb_Jo_numberOf 42 = .ok (.iload_n 3, 1) := by decide +kernel
theorem d_Jo_numberOf_43 : decode zb_Jo_numberOf 43 = .ok (.ireturn, 1) := by decide +kernel
def k_Jo_numberOf_5 (x : zsT) (l1 : Int32) (l2 : Int32) : Nat → Int32 → Int32 → Option (Int32)
  | 0, _, _ => none
  | fu + 1, l3, l4 => (if l4 < x.2 then (if l4 < (300 : Int32) then (k_Jo_tells x l4 l1 l2).bind fun o3 => (if o3 = 0 then k_Jo_numberOf_5 x l1 l2 fu l3 ((l4 + (1 : Int32))) else k_Jo_numberOf_5 x l1 l2 fu ((l3 + (1 : Int32))) ((l4 + (1 : Int32)))) else some l3) else some l3)
theorem w_Jo_numberOf_5 {X : zX} {c : zY} {q : Nat → Nat} {x : zsT} {l1 : Int32} {l2 : Int32} {out : Int32} (hX : Ok X zr_Jo zb_Jo_numberOf 5 2 c) (hR : Rt X (some .int) (some (.int out)) (zwJ c q x)) : ∀ (fu : Nat) (l3 : Int32) (l4 : Int32), k_Jo_numberOf_5 x l1 l2 fu l3 l4 = some out → Go X (zwJ c q x) [(0, .ref ((q 0))), (1, .int l1), (2, .int l2), (3, .int l3), (4, .int l4)] 5 [] := by
  intro fu
  induction fu with
  | zero => intro l3 l4 h; rw [k_Jo_numberOf_5] at h; cases h
  | succ fu ih =>
    intro l3 l4 h
    rw [k_Jo_numberOf_5] at h
    refine g_iload (pc := 5) hX d_Jo_numberOf_5 4 rfl ?_
    refine g_aload_n (pc := 7) hX d_Jo_numberOf_7 rfl 0 rfl ?_
    refine gf_Jo_15 (pc := 8) (v := .int x.2) hX 0 rfl rfl d_Jo_numberOf_8 ?_
    refine g_icmp_ge (pc := 11) (tgt := 42) hX d_Jo_numberOf_11 (by decide) h (fun c1 h => ?_) (fun c1 h => ?_)
    · refine g_iload_n (pc := 42) hX d_Jo_numberOf_42 rfl 3 rfl ?_
      cases h
      exact g_iret (pc := 43) hX hR d_Jo_numberOf_43
    · refine g_iload (pc := 14) hX d_Jo_numberOf_14 4 rfl ?_
      refine g_sipush (pc := 16) hX d_Jo_numberOf_16 zh_300 ?_
      refine g_icmp_ge (pc := 19) (tgt := 42) hX d_Jo_numberOf_19 (by decide) h (fun c2 h => ?_) (fun c2 h => ?_)
      · refine g_iload_n (pc := 42) hX d_Jo_numberOf_42 rfl 3 rfl ?_
        cases h
        exact g_iret (pc := 43) hX hR d_Jo_numberOf_43
      · refine g_aload_n (pc := 22) hX d_Jo_numberOf_22 rfl 0 rfl ?_
        refine g_iload (pc := 23) hX d_Jo_numberOf_23 4 rfl ?_
        refine g_iload_n (pc := 25) hX d_Jo_numberOf_25 rfl 1 rfl ?_
        refine g_iload_n (pc := 26) hX d_Jo_numberOf_26 rfl 2 rfl ?_
        obtain ⟨o3, e3, h⟩ := zbind h
        refine g_cvI (pc := 27) (w1 := []) (w2 := []) (st := []) (w' := (zwJ c q x)) hX zk_Jo_tells zs_Jo_tells zL_Jo_23 (c_Jo_tells c q x l4 l1 l2 e3) rfl rfl rfl rfl (zself _) (zself _).symm 0 4 rfl rfl rfl d_Jo_numberOf_27 ?_
        refine g_if_eq (pc := 30) (tgt := 36) hX d_Jo_numberOf_30 (by decide) h (fun c4 h => ?_) (fun c4 h => ?_)
        · refine g_iinc (pc := 36) (q := 4) (L' := [(4, .int ((l4 + (1 : Int32)))), (0, .ref ((q 0))), (1, .int l1), (2, .int l2), (3, .int l3)]) hX d_Jo_numberOf_36 rfl zc_1 rfl rfl ?_
          refine g_goto (pc := 39) (tgt := 5) hX d_Jo_numberOf_39 (by decide) ?_
          refine g_ls (L' := [(0, .ref ((q 0))), (1, .int l1), (2, .int l2), (3, .int l3), (4, .int ((l4 + (1 : Int32))))]) [1, 2, 3, 4, 0] rfl ?_
          exact ih _ _ h
        · refine g_iinc (pc := 33) (q := 3) (L' := [(3, .int ((l3 + (1 : Int32)))), (0, .ref ((q 0))), (1, .int l1), (2, .int l2), (4, .int l4)]) hX d_Jo_numberOf_33 rfl zc_1 rfl rfl ?_
          refine g_iinc (pc := 36) (q := 4) (L' := [(4, .int ((l4 + (1 : Int32)))), (3, .int ((l3 + (1 : Int32)))), (0, .ref ((q 0))), (1, .int l1), (2, .int l2)]) hX d_Jo_numberOf_36 rfl zc_1 rfl rfl ?_
          refine g_goto (pc := 39) (tgt := 5) hX d_Jo_numberOf_39 (by decide) ?_
          refine g_ls (L' := [(0, .ref ((q 0))), (1, .int l1), (2, .int l2), (3, .int ((l3 + (1 : Int32)))), (4, .int ((l4 + (1 : Int32))))]) [2, 3, 4, 1, 0] rfl ?_
          exact ih _ _ h
def k_Jo_numberOf (x : zsT) (l1 : Int32) (l2 : Int32) : Option (Int32) := k_Jo_numberOf_5 x l1 l2 zFu ((0 : Int32)) ((0 : Int32))
theorem c_Jo_numberOf (c : zY) (q : Nat → Nat) (x : zsT) (l1 : Int32) (l2 : Int32) {out : Int32} (h : k_Jo_numberOf x l1 l2 = some out) : KM zy_Jo_numberOf zb_Jo_numberOf 5 (some .int) 2 c [.ref ((q 0)), .int l1, .int l2] (zwJ c q x) (zwJ c q x) (some (.int out)) := zK_of zp_Jo rfl (Nat.le_of_ble_eq_true rfl) (zq_Jo c q _ _) (fun X hX hR => by
  show Go X (zwJ c q x) [(0, .ref ((q 0))), (1, .int l1), (2, .int l2)] 0 []
  rw [k_Jo_numberOf] at h
  refine g_iconst (pc := 0) hX d_Jo_numberOf_0 zc_0 ?_
  refine g_istore_n (pc := 1) (L' := [(3, .int ((0 : Int32))), (0, .ref ((q 0))), (1, .int l1), (2, .int l2)]) hX d_Jo_numberOf_1 rfl rfl rfl ?_
  refine g_iconst (pc := 2) hX d_Jo_numberOf_2 zc_0 ?_
  refine g_istore (pc := 3) (L' := [(4, .int ((0 : Int32))), (3, .int ((0 : Int32))), (0, .ref ((q 0))), (1, .int l1), (2, .int l2)]) hX d_Jo_numberOf_3 rfl rfl ?_
  refine g_ls (L' := [(0, .ref ((q 0))), (1, .int l1), (2, .int l2), (3, .int ((0 : Int32))), (4, .int ((0 : Int32)))]) [2, 3, 4, 1, 0] rfl ?_
  exact w_Jo_numberOf_5 hX hR _ _ _ h)
theorem d_Jo_sumOf_0 : decode zb_Jo_sumOf 0 = .ok (.iconst 0, 1) := by decide +kernel
theorem d_Jo_sumOf_1 : decode zb_Jo_sumOf 1 = .ok (.istore_n 3, 1) := by decide +kernel
theorem d_Jo_sumOf_2 : decode zb_Jo_sumOf 2 = .ok (.iconst 0, 1) := by decide +kernel
theorem d_Jo_sumOf_3 : decode zb_Jo_sumOf 3 = .ok (.istore 4, 2) := by decide +kernel
theorem d_Jo_sumOf_5 : decode zb_Jo_sumOf 5 = .ok (.iload 4, 2) := by decide +kernel
theorem d_Jo_sumOf_7 : decode zb_Jo_sumOf 7 = .ok (.aload_n 0, 1) := by decide +kernel
theorem d_Jo_sumOf_8 : decode zb_Jo_sumOf 8 = .ok (.getfield 15, 3) := by decide +kernel
theorem d_Jo_sumOf_11 : decode zb_Jo_sumOf 11 = .ok (.if_icmp .ge 38, 3) := by decide +kernel
theorem d_Jo_sumOf_14 : decode zb_Jo_sumOf 14 = .ok (.iload 4, 2) := by decide +kernel
theorem d_Jo_sumOf_16 : decode zb_Jo_sumOf 16 = .ok (.sipush 300, 3) := by decide +kernel
theorem d_Jo_sumOf_19 : decode zb_Jo_sumOf 19 = .ok (.if_icmp .ge 30, 3) := by decide +kernel
theorem d_Jo_sumOf_22 : decode zb_Jo_sumOf 22 = .ok (.aload_n 0, 1) := by decide +kernel
theorem d_Jo_sumOf_23 : decode zb_Jo_sumOf 23 = .ok (.iload 4, 2) := by decide +kernel
theorem d_Jo_sumOf_25 : decode zb_Jo_sumOf 25 = .ok (.iload_n 1, 1) := by decide +kernel
theorem d_Jo_sumOf_26 : decode zb_Jo_sumOf 26 = .ok (.iload_n 2, 1) := by decide +kernel
theorem d_Jo_sumOf_27 : decode zb_Jo_sumOf 27 = .ok (.invokevirtual 23, 3) := by decide +kernel
theorem d_Jo_sumOf_30 : decode zb_Jo_sumOf 30 = .ok (.ifCond .eq 13, 3) := by decide +kernel
theorem d_Jo_sumOf_33 : decode zb_Jo_sumOf 33 = .ok (.iload_n 3, 1) := by decide +kernel
theorem d_Jo_sumOf_34 : decode zb_Jo_sumOf 34 = .ok (.aload_n 0, 1) := by decide +kernel
theorem d_Jo_sumOf_35 : decode zb_Jo_sumOf 35 = .ok (.iload 4, 2) := by decide +kernel
theorem d_Jo_sumOf_37 : decode zb_Jo_sumOf 37 = .ok (.iconst 2, 1) := by decide +kernel
theorem d_Jo_sumOf_38 : decode zb_Jo_sumOf 38 = .ok (.invokevirtual 19, 3) := by decide +kernel
theorem d_Jo_sumOf_41 : decode zb_Jo_sumOf 41 = .ok (.iadd, 1) := by decide +kernel
theorem d_Jo_sumOf_42 : decode zb_Jo_sumOf 42 = .ok (.istore_n 3, 1) := by decide +kernel
theorem d_Jo_sumOf_43 : decode zb_Jo_sumOf 43 = .ok (.iinc 4 1, 3) := by decide +kernel
theorem d_Jo_sumOf_46 : decode zb_Jo_sumOf 46 = .ok (.goto (-41), 3) := by decide +kernel
theorem d_Jo_sumOf_49 : decode zb_Jo_sumOf 49 = .ok (.iload_n 3, 1) := by decide +kernel
theorem d_Jo_sumOf_50 : decode zb_Jo_sumOf 50 = .ok (.ireturn, 1) := by decide +kernel
def k_Jo_sumOf_5 (x : zsT) (l1 : Int32) (l2 : Int32) : Nat → Int32 → Int32 → Option (Int32)
  | 0, _, _ => none
  | fu + 1, l3, l4 => (if l4 < x.2 then (if l4 < (300 : Int32) then (k_Jo_tells x l4 l1 l2).bind fun o3 => (if o3 = 0 then k_Jo_sumOf_5 x l1 l2 fu l3 ((l4 + (1 : Int32))) else (k_Jo_at x l4 ((2 : Int32))).bind fun o5 => k_Jo_sumOf_5 x l1 l2 fu ((l3 + o5)) ((l4 + (1 : Int32)))) else some l3) else some l3)
theorem w_Jo_sumOf_5 {X : zX} {c : zY} {q : Nat → Nat} {x : zsT} {l1 : Int32} {l2 : Int32} {out : Int32} (hX : Ok X zr_Jo zb_Jo_sumOf 5 2 c) (hR : Rt X (some .int) (some (.int out)) (zwJ c q x)) : ∀ (fu : Nat) (l3 : Int32) (l4 : Int32), k_Jo_sumOf_5 x l1 l2 fu l3 l4 = some out → Go X (zwJ c q x) [(0, .ref ((q 0))), (1, .int l1), (2, .int l2), (3, .int l3), (4, .int l4)] 5 [] := by
  intro fu
  induction fu with
  | zero => intro l3 l4 h; rw [k_Jo_sumOf_5] at h; cases h
  | succ fu ih =>
    intro l3 l4 h
    rw [k_Jo_sumOf_5] at h
    refine g_iload (pc := 5) hX d_Jo_sumOf_5 4 rfl ?_
    refine g_aload_n (pc := 7) hX d_Jo_sumOf_7 rfl 0 rfl ?_
    refine gf_Jo_15 (pc := 8) (v := .int x.2) hX 0 rfl rfl d_Jo_sumOf_8 ?_
    refine g_icmp_ge (pc := 11) (tgt := 49) hX d_Jo_sumOf_11 (by decide) h (fun c1 h => ?_) (fun c1 h => ?_)
    · refine g_iload_n (pc := 49) hX d_Jo_sumOf_49 rfl 3 rfl ?_
      cases h
      exact g_iret (pc := 50) hX hR d_Jo_sumOf_50
    · refine g_iload (pc := 14) hX d_Jo_sumOf_14 4 rfl ?_
      refine g_sipush (pc := 16) hX d_Jo_sumOf_16 zh_300 ?_
      refine g_icmp_ge (pc := 19) (tgt := 49) hX d_Jo_sumOf_19 (by decide) h (fun c2 h => ?_) (fun c2 h => ?_)
      · refine g_iload_n (pc := 49) hX d_Jo_sumOf_49 rfl 3 rfl ?_
        cases h
        exact g_iret (pc := 50) hX hR d_Jo_sumOf_50
      · refine g_aload_n (pc := 22) hX d_Jo_sumOf_22 rfl 0 rfl ?_
        refine g_iload (pc := 23) hX d_Jo_sumOf_23 4 rfl ?_
        refine g_iload_n (pc := 25) hX d_Jo_sumOf_25 rfl 1 rfl ?_
        refine g_iload_n (pc := 26) hX d_Jo_sumOf_26 rfl 2 rfl ?_
        obtain ⟨o3, e3, h⟩ := zbind h
        refine g_cvI (pc := 27) (w1 := []) (w2 := []) (st := []) (w' := (zwJ c q x)) hX zk_Jo_tells zs_Jo_tells zL_Jo_23 (c_Jo_tells c q x l4 l1 l2 e3) rfl rfl rfl rfl (zself _) (zself _).symm 0 4 rfl rfl rfl d_Jo_sumOf_27 ?_
        refine g_if_eq (pc := 30) (tgt := 43) hX d_Jo_sumOf_30 (by decide) h (fun c4 h => ?_) (fun c4 h => ?_)
        · refine g_iinc (pc := 43) (q := 4) (L' := [(4, .int ((l4 + (1 : Int32)))), (0, .ref ((q 0))), (1, .int l1), (2, .int l2), (3, .int l3)]) hX d_Jo_sumOf_43 rfl zc_1 rfl rfl ?_
          refine g_goto (pc := 46) (tgt := 5) hX d_Jo_sumOf_46 (by decide) ?_
          refine g_ls (L' := [(0, .ref ((q 0))), (1, .int l1), (2, .int l2), (3, .int l3), (4, .int ((l4 + (1 : Int32))))]) [1, 2, 3, 4, 0] rfl ?_
          exact ih _ _ h
        · refine g_iload_n (pc := 33) hX d_Jo_sumOf_33 rfl 3 rfl ?_
          refine g_aload_n (pc := 34) hX d_Jo_sumOf_34 rfl 0 rfl ?_
          refine g_iload (pc := 35) hX d_Jo_sumOf_35 4 rfl ?_
          refine g_iconst (pc := 37) hX d_Jo_sumOf_37 zc_2 ?_
          obtain ⟨o5, e5, h⟩ := zbind h
          refine g_cvI (pc := 38) (w1 := []) (w2 := []) (st := [.int l3]) (w' := (zwJ c q x)) hX zk_Jo_at zs_Jo_at zL_Jo_19 (c_Jo_at c q x l4 ((2 : Int32)) e5) rfl rfl rfl rfl (zself _) (zself _).symm 0 4 rfl rfl rfl d_Jo_sumOf_38 ?_
          refine g_iadd (pc := 41) hX d_Jo_sumOf_41 ?_
          refine g_istore_n (pc := 42) (L' := [(3, .int ((l3 + o5))), (0, .ref ((q 0))), (1, .int l1), (2, .int l2), (4, .int l4)]) hX d_Jo_sumOf_42 rfl rfl rfl ?_
          refine g_iinc (pc := 43) (q := 4) (L' := [(4, .int ((l4 + (1 : Int32)))), (3, .int ((l3 + o5))), (0, .ref ((q 0))), (1, .int l1), (2, .int l2)]) hX d_Jo_sumOf_43 rfl zc_1 rfl rfl ?_
          refine g_goto (pc := 46) (tgt := 5) hX d_Jo_sumOf_46 (by decide) ?_
          refine g_ls (L' := [(0, .ref ((q 0))), (1, .int l1), (2, .int l2), (3, .int ((l3 + o5))), (4, .int ((l4 + (1 : Int32))))]) [2, 3, 4, 1, 0] rfl ?_
          exact ih _ _ h
def k_Jo_sumOf (x : zsT) (l1 : Int32) (l2 : Int32) : Option (Int32) := k_Jo_sumOf_5 x l1 l2 zFu ((0 : Int32)) ((0 : Int32))
theorem c_Jo_sumOf (c : zY) (q : Nat → Nat) (x : zsT) (l1 : Int32) (l2 : Int32) {out : Int32} (h : k_Jo_sumOf x l1 l2 = some out) : KM zy_Jo_sumOf zb_Jo_sumOf 5 (some .int) 2 c [.ref ((q 0)), .int l1, .int l2] (zwJ c q x) (zwJ c q x) (some (.int out)) := zK_of zp_Jo rfl (Nat.le_of_ble_eq_true rfl) (zq_Jo c q _ _) (fun X hX hR => by
  show Go X (zwJ c q x) [(0, .ref ((q 0))), (1, .int l1), (2, .int l2)] 0 []
  rw [k_Jo_sumOf] at h
  refine g_iconst (pc := 0) hX d_Jo_sumOf_0 zc_0 ?_
  refine g_istore_n (pc := 1) (L' := [(3, .int ((0 : Int32))), (0, .ref ((q 0))), (1, .int l1), (2, .int l2)]) hX d_Jo_sumOf_1 rfl rfl rfl ?_
  refine g_iconst (pc := 2) hX d_Jo_sumOf_2 zc_0 ?_
  refine g_istore (pc := 3) (L' := [(4, .int ((0 : Int32))), (3, .int ((0 : Int32))), (0, .ref ((q 0))), (1, .int l1), (2, .int l2)]) hX d_Jo_sumOf_3 rfl rfl ?_
  refine g_ls (L' := [(0, .ref ((q 0))), (1, .int l1), (2, .int l2), (3, .int ((0 : Int32))), (4, .int ((0 : Int32)))]) [2, 3, 4, 1, 0] rfl ?_
  exact w_Jo_sumOf_5 hX hR _ _ _ h)
theorem d_Jo_sumOfAmounts_0 : decode zb_Jo_sumOfAmounts 0 = .ok (.iconst 0, 1) := by decide +kernel
theorem d_Jo_sumOfAmounts_1 : decode zb_Jo_sumOfAmounts 1 = .ok (.istore_n 3, 1) := by decide +kernel
theorem d_Jo_sumOfAmounts_2 : decode zb_Jo_sumOfAmounts 2 = .ok (.iconst 0, 1) := by decide +kernel
theorem d_Jo_sumOfAmounts_3 : decode zb_Jo_sumOfAmounts 3 = .ok (.istore 4, 2) := by decide +kernel
theorem d_Jo_sumOfAmounts_5 : decode zb_Jo_sumOfAmounts 5 = .ok (.iload 4, 2) := by decide +kernel
theorem d_Jo_sumOfAmounts_7 : decode zb_Jo_sumOfAmounts 7 = .ok (.aload_n 0, 1) := by decide +kernel
theorem d_Jo_sumOfAmounts_8 : decode zb_Jo_sumOfAmounts 8 = .ok (.getfield 15, 3) := by decide +kernel
theorem d_Jo_sumOfAmounts_11 : decode zb_Jo_sumOfAmounts 11 = .ok (.if_icmp .ge 41, 3) := by decide +kernel
theorem d_Jo_sumOfAmounts_14 : decode zb_Jo_sumOfAmounts 14 = .ok (.iload 4, 2) := by decide +kernel
theorem d_Jo_sumOfAmounts_16 : decode zb_Jo_sumOfAmounts 16 = .ok (.sipush 300, 3) := by decide +kernel
theorem d_Jo_sumOfAmounts_19 : decode zb_Jo_sumOfAmounts 19 = .ok (.if_icmp .ge 33, 3) := by decide +kernel
theorem d_Jo_sumOfAmounts_22 : decode zb_Jo_sumOfAmounts 22 = .ok (.aload_n 0, 1) := by decide +kernel
theorem d_Jo_sumOfAmounts_23 : decode zb_Jo_sumOfAmounts 23 = .ok (.iload 4, 2) := by decide +kernel
theorem d_Jo_sumOfAmounts_25 : decode zb_Jo_sumOfAmounts 25 = .ok (.iload_n 1, 1) := by decide +kernel
theorem d_Jo_sumOfAmounts_26 : decode zb_Jo_sumOfAmounts 26 = .ok (.iload_n 2, 1) := by decide +kernel
theorem d_Jo_sumOfAmounts_27 : decode zb_Jo_sumOfAmounts 27 = .ok (.invokevirtual 23, 3) := by decide +kernel
theorem d_Jo_sumOfAmounts_30 : decode zb_Jo_sumOfAmounts 30 = .ok (.ifCond .eq 16, 3) := by decide +kernel
theorem d_Jo_sumOfAmounts_33 : decode zb_Jo_sumOfAmounts 33 = .ok (.iload_n 3, 1) := by decide +kernel
theorem d_Jo_sumOfAmounts_34 : decode zb_Jo_sumOfAmounts 34 = .ok (.aload_n 0, 1) := by decide +kernel
theorem d_Jo_sumOfAmounts_35 : decode zb_Jo_sumOfAmounts 35 = .ok (.iload 4, 2) := by decide +kernel
theorem d_Jo_sumOfAmounts_37 : decode zb_Jo_sumOfAmounts 37 = .ok (.iconst 2, 1) := by decide +kernel
theorem d_Jo_sumOfAmounts_38 : decode zb_Jo_sumOfAmounts 38 = .ok (.invokevirtual 19, 3) := by decide +kernel
theorem d_Jo_sumOfAmounts_41 : decode zb_Jo_sumOfAmounts 41 = .ok (.bipush 10, 2) := by decide +kernel
theorem d_Jo_sumOfAmounts_43 : decode zb_Jo_sumOfAmounts 43 = .ok (.irem, 1) := by decide +kernel
theorem d_Jo_sumOfAmounts_44 : decode zb_Jo_sumOfAmounts 44 = .ok (.iadd, 1) := by decide +kernel
theorem d_Jo_sumOfAmounts_45 : decode zb_Jo_sumOfAmounts 45 = .ok (.istore_n 3, 1) := by decide +kernel
theorem d_Jo_sumOfAmounts_46 : decode zb_Jo_sumOfAmounts 46 = .ok (.iinc 4 1, 3) := by decide +kernel
theorem d_Jo_sumOfAmounts_49 : decode zb_Jo_sumOfAmounts 49 = .ok (.goto (-44), 3) := by decide +kernel
theorem d_Jo_sumOfAmounts_52 : decode zb_Jo_sumOfAmounts 52 = .ok (.iload_n 3, 1) := by decide +kernel
theorem d_Jo_sumOfAmounts_53 : decode zb_Jo_sumOfAmounts 53 = .ok (.ireturn, 1) := by decide +kernel
def k_Jo_sumOfAmounts_5 (x : zsT) (l1 : Int32) (l2 : Int32) : Nat → Int32 → Int32 → Option (Int32)
  | 0, _, _ => none
  | fu + 1, l3, l4 => (if l4 < x.2 then (if l4 < (300 : Int32) then (k_Jo_tells x l4 l1 l2).bind fun o3 => (if o3 = 0 then k_Jo_sumOfAmounts_5 x l1 l2 fu l3 ((l4 + (1 : Int32))) else (k_Jo_at x l4 ((2 : Int32))).bind fun o5 => k_Jo_sumOfAmounts_5 x l1 l2 fu ((l3 + (zrem o5 (10 : Int32)))) ((l4 + (1 : Int32)))) else some l3) else some l3)
theorem w_Jo_sumOfAmounts_5 {X : zX} {c : zY} {q : Nat → Nat} {x : zsT} {l1 : Int32} {l2 : Int32} {out : Int32} (hX : Ok X zr_Jo zb_Jo_sumOfAmounts 5 2 c) (hR : Rt X (some .int) (some (.int out)) (zwJ c q x)) : ∀ (fu : Nat) (l3 : Int32) (l4 : Int32), k_Jo_sumOfAmounts_5 x l1 l2 fu l3 l4 = some out → Go X (zwJ c q x) [(0, .ref ((q 0))), (1, .int l1), (2, .int l2), (3, .int l3), (4, .int l4)] 5 [] := by
  intro fu
  induction fu with
  | zero => intro l3 l4 h; rw [k_Jo_sumOfAmounts_5] at h; cases h
  | succ fu ih =>
    intro l3 l4 h
    rw [k_Jo_sumOfAmounts_5] at h
    refine g_iload (pc := 5) hX d_Jo_sumOfAmounts_5 4 rfl ?_
    refine g_aload_n (pc := 7) hX d_Jo_sumOfAmounts_7 rfl 0 rfl ?_
    refine gf_Jo_15 (pc := 8) (v := .int x.2) hX 0 rfl rfl d_Jo_sumOfAmounts_8 ?_
    refine g_icmp_ge (pc := 11) (tgt := 52) hX d_Jo_sumOfAmounts_11 (by decide) h (fun c1 h => ?_) (fun c1 h => ?_)
    · refine g_iload_n (pc := 52) hX d_Jo_sumOfAmounts_52 rfl 3 rfl ?_
      cases h
      exact g_iret (pc := 53) hX hR d_Jo_sumOfAmounts_53
    · refine g_iload (pc := 14) hX d_Jo_sumOfAmounts_14 4 rfl ?_
      refine g_sipush (pc := 16) hX d_Jo_sumOfAmounts_16 zh_300 ?_
      refine g_icmp_ge (pc := 19) (tgt := 52) hX d_Jo_sumOfAmounts_19 (by decide) h (fun c2 h => ?_) (fun c2 h => ?_)
      · refine g_iload_n (pc := 52) hX d_Jo_sumOfAmounts_52 rfl 3 rfl ?_
        cases h
        exact g_iret (pc := 53) hX hR d_Jo_sumOfAmounts_53
      · refine g_aload_n (pc := 22) hX d_Jo_sumOfAmounts_22 rfl 0 rfl ?_
        refine g_iload (pc := 23) hX d_Jo_sumOfAmounts_23 4 rfl ?_
        refine g_iload_n (pc := 25) hX d_Jo_sumOfAmounts_25 rfl 1 rfl ?_
        refine g_iload_n (pc := 26) hX d_Jo_sumOfAmounts_26 rfl 2 rfl ?_
        obtain ⟨o3, e3, h⟩ := zbind h
        refine g_cvI (pc := 27) (w1 := []) (w2 := []) (st := []) (w' := (zwJ c q x)) hX zk_Jo_tells zs_Jo_tells zL_Jo_23 (c_Jo_tells c q x l4 l1 l2 e3) rfl rfl rfl rfl (zself _) (zself _).symm 0 4 rfl rfl rfl d_Jo_sumOfAmounts_27 ?_
        refine g_if_eq (pc := 30) (tgt := 46) hX d_Jo_sumOfAmounts_30 (by decide) h (fun c4 h => ?_) (fun c4 h => ?_)
        · refine g_iinc (pc := 46) (q := 4) (L' := [(4, .int ((l4 + (1 : Int32)))), (0, .ref ((q 0))), (1, .int l1), (2, .int l2), (3, .int l3)]) hX d_Jo_sumOfAmounts_46 rfl zc_1 rfl rfl ?_
          refine g_goto (pc := 49) (tgt := 5) hX d_Jo_sumOfAmounts_49 (by decide) ?_
          refine g_ls (L' := [(0, .ref ((q 0))), (1, .int l1), (2, .int l2), (3, .int l3), (4, .int ((l4 + (1 : Int32))))]) [1, 2, 3, 4, 0] rfl ?_
          exact ih _ _ h
        · refine g_iload_n (pc := 33) hX d_Jo_sumOfAmounts_33 rfl 3 rfl ?_
          refine g_aload_n (pc := 34) hX d_Jo_sumOfAmounts_34 rfl 0 rfl ?_
          refine g_iload (pc := 35) hX d_Jo_sumOfAmounts_35 4 rfl ?_
          refine g_iconst (pc := 37) hX d_Jo_sumOfAmounts_37 zc_2 ?_
          obtain ⟨o5, e5, h⟩ := zbind h
          refine g_cvI (pc := 38) (w1 := []) (w2 := []) (st := [.int l3]) (w' := (zwJ c q x)) hX zk_Jo_at zs_Jo_at zL_Jo_19 (c_Jo_at c q x l4 ((2 : Int32)) e5) rfl rfl rfl rfl (zself _) (zself _).symm 0 4 rfl rfl rfl d_Jo_sumOfAmounts_38 ?_
          refine g_bipush (pc := 41) hX d_Jo_sumOfAmounts_41 ze_10 ?_
          refine g_irem (pc := 43) hX d_Jo_sumOfAmounts_43 (by decide) ?_
          refine g_iadd (pc := 44) hX d_Jo_sumOfAmounts_44 ?_
          refine g_istore_n (pc := 45) (L' := [(3, .int ((l3 + (zrem o5 (10 : Int32))))), (0, .ref ((q 0))), (1, .int l1), (2, .int l2), (4, .int l4)]) hX d_Jo_sumOfAmounts_45 rfl rfl rfl ?_
          refine g_iinc (pc := 46) (q := 4) (L' := [(4, .int ((l4 + (1 : Int32)))), (3, .int ((l3 + (zrem o5 (10 : Int32))))), (0, .ref ((q 0))), (1, .int l1), (2, .int l2)]) hX d_Jo_sumOfAmounts_46 rfl zc_1 rfl rfl ?_
          refine g_goto (pc := 49) (tgt := 5) hX d_Jo_sumOfAmounts_49 (by decide) ?_
          refine g_ls (L' := [(0, .ref ((q 0))), (1, .int l1), (2, .int l2), (3, .int ((l3 + (zrem o5 (10 : Int32))))), (4, .int ((l4 + (1 : Int32))))]) [2, 3, 4, 1, 0] rfl ?_
          exact ih _ _ h
def k_Jo_sumOfAmounts (x : zsT) (l1 : Int32) (l2 : Int32) : Option (Int32) := k_Jo_sumOfAmounts_5 x l1 l2 zFu ((0 : Int32)) ((0 : Int32))
theorem c_Jo_sumOfAmounts (c : zY) (q : Nat → Nat) (x : zsT) (l1 : Int32) (l2 : Int32) {out : Int32} (h : k_Jo_sumOfAmounts x l1 l2 = some out) : KM zy_Jo_sumOfAmounts zb_Jo_sumOfAmounts 5 (some .int) 2 c [.ref ((q 0)), .int l1, .int l2] (zwJ c q x) (zwJ c q x) (some (.int out)) := zK_of zp_Jo rfl (Nat.le_of_ble_eq_true rfl) (zq_Jo c q _ _) (fun X hX hR => by
  show Go X (zwJ c q x) [(0, .ref ((q 0))), (1, .int l1), (2, .int l2)] 0 []
  rw [k_Jo_sumOfAmounts] at h
  refine g_iconst (pc := 0) hX d_Jo_sumOfAmounts_0 zc_0 ?_
  refine g_istore_n (pc := 1) (L' := [(3, .int ((0 : Int32))), (0, .ref ((q 0))), (1, .int l1), (2, .int l2)]) hX d_Jo_sumOfAmounts_1 rfl rfl rfl ?_
  refine g_iconst (pc := 2) hX d_Jo_sumOfAmounts_2 zc_0 ?_
  refine g_istore (pc := 3) (L' := [(4, .int ((0 : Int32))), (3, .int ((0 : Int32))), (0, .ref ((q 0))), (1, .int l1), (2, .int l2)]) hX d_Jo_sumOfAmounts_3 rfl rfl ?_
  refine g_ls (L' := [(0, .ref ((q 0))), (1, .int l1), (2, .int l2), (3, .int ((0 : Int32))), (4, .int ((0 : Int32)))]) [2, 3, 4, 1, 0] rfl ?_
  exact w_Jo_sumOfAmounts_5 hX hR _ _ _ h)
theorem d_Jo_lifeOf_0 : decode zb_Jo_lifeOf 0 = .ok (.aload_n 0, 1) := by decide +kernel
theorem d_Jo_lifeOf_1 : decode zb_Jo_lifeOf 1 = .ok (.iconst 0, 1) := by decide +kernel
theorem d_Jo_lifeOf_2 : decode zb_Jo_lifeOf 2 = .ok (.iload_n 1, 1) := by decide +kernel
theorem d_Jo_lifeOf_3 : decode zb_Jo_lifeOf 3 = .ok (.invokevirtual 27, 3) := by decide +kernel
theorem d_Jo_lifeOf_6 : decode zb_Jo_lifeOf 6 = .ok (.aload_n 0, 1) := by decide +kernel
theorem d_Jo_lifeOf_7 : decode zb_Jo_lifeOf 7 = .ok (.iconst 1, 1) := by decide +kernel
theorem d_Jo_lifeOf_8 : decode zb_Jo_lifeOf 8 = .ok (.iload_n 1, 1) := by decide +kernel
theorem d_Jo_lifeOf_9 : decode zb_Jo_lifeOf 9 = .ok (.invokevirtual 27, 3) := by decide +kernel
theorem d_Jo_lifeOf_12 : decode zb_Jo_lifeOf 12 = .ok (.isub, 1) := by decide +kernel
theorem d_Jo_lifeOf_13 : decode zb_Jo_lifeOf 13 = .ok (.aload_n 0, 1) := by decide +kernel
theorem d_Jo_lifeOf_14 : decode zb_Jo_lifeOf 14 = .ok (.iconst 2, 1) := by decide +kernel
theorem d_Jo_lifeOf_15 : decode zb_Jo_lifeOf 15 = .ok (.iload_n 1, 1) := by decide +kernel
theorem d_Jo_lifeOf_16 : decode zb_Jo_lifeOf 16 = .ok (.invokevirtual 27, 3) := by decide +kernel
theorem d_Jo_lifeOf_19 : decode zb_Jo_lifeOf 19 = .ok (.iadd, 1) := by decide +kernel
theorem d_Jo_lifeOf_20 : decode zb_Jo_lifeOf 20 = .ok (.ireturn, 1) := by decide +kernel
def k_Jo_lifeOf (x : zsT) (l1 : Int32) : Option (Int32) := (k_Jo_sumOf x ((0 : Int32)) l1).bind fun o1 => (k_Jo_sumOf x ((1 : Int32)) l1).bind fun o2 => (k_Jo_sumOf x ((2 : Int32)) l1).bind fun o3 => some (((o1 - o2) + o3))
theorem c_Jo_lifeOf (c : zY) (q : Nat → Nat) (x : zsT) (l1 : Int32) {out : Int32} (h : k_Jo_lifeOf x l1 = some out) : KM zy_Jo_lifeOf zb_Jo_lifeOf 2 (some .int) 3 c [.ref ((q 0)), .int l1] (zwJ c q x) (zwJ c q x) (some (.int out)) := zK_of zp_Jo rfl (Nat.le_of_ble_eq_true rfl) (zq_Jo c q _ _) (fun X hX hR => by
  show Go X (zwJ c q x) [(0, .ref ((q 0))), (1, .int l1)] 0 []
  rw [k_Jo_lifeOf] at h
  refine g_aload_n (pc := 0) hX d_Jo_lifeOf_0 rfl 0 rfl ?_
  refine g_iconst (pc := 1) hX d_Jo_lifeOf_1 zc_0 ?_
  refine g_iload_n (pc := 2) hX d_Jo_lifeOf_2 rfl 1 rfl ?_
  obtain ⟨o1, e1, h⟩ := zbind h
  refine g_cvI (pc := 3) (w1 := []) (w2 := []) (st := []) (w' := (zwJ c q x)) hX zk_Jo_sumOf zs_Jo_sumOf zL_Jo_27 (c_Jo_sumOf c q x ((0 : Int32)) l1 e1) rfl rfl rfl rfl (zself _) (zself _).symm 0 4 rfl rfl rfl d_Jo_lifeOf_3 ?_
  refine g_aload_n (pc := 6) hX d_Jo_lifeOf_6 rfl 0 rfl ?_
  refine g_iconst (pc := 7) hX d_Jo_lifeOf_7 zc_1 ?_
  refine g_iload_n (pc := 8) hX d_Jo_lifeOf_8 rfl 1 rfl ?_
  obtain ⟨o2, e2, h⟩ := zbind h
  refine g_cvI (pc := 9) (w1 := []) (w2 := []) (st := [.int o1]) (w' := (zwJ c q x)) hX zk_Jo_sumOf zs_Jo_sumOf zL_Jo_27 (c_Jo_sumOf c q x ((1 : Int32)) l1 e2) rfl rfl rfl rfl (zself _) (zself _).symm 0 4 rfl rfl rfl d_Jo_lifeOf_9 ?_
  refine g_isub (pc := 12) hX d_Jo_lifeOf_12 ?_
  refine g_aload_n (pc := 13) hX d_Jo_lifeOf_13 rfl 0 rfl ?_
  refine g_iconst (pc := 14) hX d_Jo_lifeOf_14 zc_2 ?_
  refine g_iload_n (pc := 15) hX d_Jo_lifeOf_15 rfl 1 rfl ?_
  obtain ⟨o3, e3, h⟩ := zbind h
  refine g_cvI (pc := 16) (w1 := []) (w2 := []) (st := [.int ((o1 - o2))]) (w' := (zwJ c q x)) hX zk_Jo_sumOf zs_Jo_sumOf zL_Jo_27 (c_Jo_sumOf c q x ((2 : Int32)) l1 e3) rfl rfl rfl rfl (zself _) (zself _).symm 0 4 rfl rfl rfl d_Jo_lifeOf_16 ?_
  refine g_iadd (pc := 19) hX d_Jo_lifeOf_19 ?_
  cases h
  exact g_iret (pc := 20) hX hR d_Jo_lifeOf_20)
theorem d_Jo_spentBy_0 : decode zb_Jo_spentBy 0 = .ok (.aload_n 0, 1) := by decide +kernel
theorem d_Jo_spentBy_1 : decode zb_Jo_spentBy 1 = .ok (.iconst 5, 1) := by decide +kernel
theorem d_Jo_spentBy_2 : decode zb_Jo_spentBy 2 = .ok (.iload_n 1, 1) := by decide +kernel
theorem d_Jo_spentBy_3 : decode zb_Jo_spentBy 3 = .ok (.invokevirtual 30, 3) := by decide +kernel
theorem d_Jo_spentBy_6 : decode zb_Jo_spentBy 6 = .ok (.aload_n 0, 1) := by decide +kernel
theorem d_Jo_spentBy_7 : decode zb_Jo_spentBy 7 = .ok (.bipush 6, 2) := by decide +kernel
theorem d_Jo_spentBy_9 : decode zb_Jo_spentBy 9 = .ok (.iload_n 1, 1) := by decide +kernel
theorem d_Jo_spentBy_10 : decode zb_Jo_spentBy 10 = .ok (.invokevirtual 30, 3) := by decide +kernel
theorem d_Jo_spentBy_13 : decode zb_Jo_spentBy 13 = .ok (.isub, 1) := by decide +kernel
theorem d_Jo_spentBy_14 : decode zb_Jo_spentBy 14 = .ok (.ireturn, 1) := by decide +kernel
def k_Jo_spentBy (x : zsT) (l1 : Int32) : Option (Int32) := (k_Jo_sumOfAmounts x ((5 : Int32)) l1).bind fun o1 => (k_Jo_sumOfAmounts x ((6 : Int32)) l1).bind fun o2 => some ((o1 - o2))
theorem c_Jo_spentBy (c : zY) (q : Nat → Nat) (x : zsT) (l1 : Int32) {out : Int32} (h : k_Jo_spentBy x l1 = some out) : KM zy_Jo_spentBy zb_Jo_spentBy 2 (some .int) 3 c [.ref ((q 0)), .int l1] (zwJ c q x) (zwJ c q x) (some (.int out)) := zK_of zp_Jo rfl (Nat.le_of_ble_eq_true rfl) (zq_Jo c q _ _) (fun X hX hR => by
  show Go X (zwJ c q x) [(0, .ref ((q 0))), (1, .int l1)] 0 []
  rw [k_Jo_spentBy] at h
  refine g_aload_n (pc := 0) hX d_Jo_spentBy_0 rfl 0 rfl ?_
  refine g_iconst (pc := 1) hX d_Jo_spentBy_1 zc_5 ?_
  refine g_iload_n (pc := 2) hX d_Jo_spentBy_2 rfl 1 rfl ?_
  obtain ⟨o1, e1, h⟩ := zbind h
  refine g_cvI (pc := 3) (w1 := []) (w2 := []) (st := []) (w' := (zwJ c q x)) hX zk_Jo_sumOfAmounts zs_Jo_sumOfAmounts zL_Jo_30 (c_Jo_sumOfAmounts c q x ((5 : Int32)) l1 e1) rfl rfl rfl rfl (zself _) (zself _).symm 0 4 rfl rfl rfl d_Jo_spentBy_3 ?_
  refine g_aload_n (pc := 6) hX d_Jo_spentBy_6 rfl 0 rfl ?_
  refine g_bipush (pc := 7) hX d_Jo_spentBy_7 ze_6 ?_
  refine g_iload_n (pc := 9) hX d_Jo_spentBy_9 rfl 1 rfl ?_
  obtain ⟨o2, e2, h⟩ := zbind h
  refine g_cvI (pc := 10) (w1 := []) (w2 := []) (st := [.int o1]) (w' := (zwJ c q x)) hX zk_Jo_sumOfAmounts zs_Jo_sumOfAmounts zL_Jo_30 (c_Jo_sumOfAmounts c q x ((6 : Int32)) l1 e2) rfl rfl rfl rfl (zself _) (zself _).symm 0 4 rfl rfl rfl d_Jo_spentBy_10 ?_
  refine g_isub (pc := 13) hX d_Jo_spentBy_13 ?_
  cases h
  exact g_iret (pc := 14) hX hR d_Jo_spentBy_14)
theorem d_Jo_latestMoveOf_0 : decode zb_Jo_latestMoveOf 0 = .ok (.bipush (-5), 2) := by decide +kernel
theorem d_Jo_latestMoveOf_2 : decode zb_Jo_latestMoveOf 2 = .ok (.istore_n 2, 1) := by decide +kernel
theorem d_Jo_latestMoveOf_3 : decode zb_Jo_latestMoveOf 3 = .ok (.iconst 0, 1) := by decide +kernel
theorem d_Jo_latestMoveOf_4 : decode zb_Jo_latestMoveOf 4 = .ok (.istore_n 3, 1) := by decide +kernel
theorem d_Jo_latestMoveOf_5 : decode zb_Jo_latestMoveOf 5 = .ok (.iload_n 3, 1) := by decide +kernel
theorem d_Jo_latestMoveOf_6 : decode zb_Jo_latestMoveOf 6 = .ok (.aload_n 0, 1) := by decide +kernel
theorem d_Jo_latestMoveOf_7 : decode zb_Jo_latestMoveOf 7 = .ok (.getfield 15, 3) := by decide +kernel
theorem d_Jo_latestMoveOf_10 : decode zb_Jo_latestMoveOf 10 = .ok (.if_icmp .ge 34, 3) := by decide +kernel
theorem d_Jo_latestMoveOf_13 : decode zb_Jo_latestMoveOf 13 = .ok (.iload_n 3, 1) := by decide +kernel
theorem d_Jo_latestMoveOf_14 : decode zb_Jo_latestMoveOf 14 = .ok (.sipush 300, 3) := by decide +kernel
theorem d_Jo_latestMoveOf_17 : decode zb_Jo_latestMoveOf 17 = .ok (.if_icmp .ge 27, 3) := by decide +kernel
theorem d_Jo_latestMoveOf_20 : decode zb_Jo_latestMoveOf 20 = .ok (.aload_n 0, 1) := by decide +kernel
theorem d_Jo_latestMoveOf_21 : decode zb_Jo_latestMoveOf 21 = .ok (.iload_n 3, 1) := by decide +kernel
theorem d_Jo_latestMoveOf_22 : decode zb_Jo_latestMoveOf 22 = .ok (.bipush 7, 2) := by decide +kernel
theorem d_Jo_latestMoveOf_24 : decode zb_Jo_latestMoveOf 24 = .ok (.iload_n 1, 1) := by decide +kernel
theorem d_Jo_latestMoveOf_25 : decode zb_Jo_latestMoveOf 25 = .ok (.invokevirtual 23, 3) := by decide +kernel
theorem d_Jo_latestMoveOf_28 : decode zb_Jo_latestMoveOf 28 = .ok (.ifCond .eq 10, 3) := by decide +kernel
theorem d_Jo_latestMoveOf_31 : decode zb_Jo_latestMoveOf 31 = .ok (.aload_n 0, 1) := by decide +kernel
theorem d_Jo_latestMoveOf_32 : decode zb_Jo_latestMoveOf 32 = .ok (.iload_n 3, 1) := by decide +kernel
theorem d_Jo_latestMoveOf_33 : decode zb_Jo_latestMoveOf 33 = .ok (.iconst 2, 1) := by decide +kernel
theorem d_Jo_latestMoveOf_34 : decode zb_Jo_latestMoveOf 34 = .ok (.invokevirtual 19, 3) := by decide +kernel
theorem d_Jo_latestMoveOf_37 : decode zb_Jo_latestMoveOf 37 = .ok (.istore_n 2, 1) := by decide +kernel
theorem d_Jo_latestMoveOf_38 : decode zb_Jo_latestMoveOf 38 = .ok (.iinc 3 1, 3) := by decide +kernel
theorem d_Jo_latestMoveOf_41 : decode zb_Jo_latestMoveOf 41 = .ok (.goto (-36), 3) := by decide +kernel
theorem d_Jo_latestMoveOf_44 : decode zb_Jo_latestMoveOf 44 = .ok (.iload_n 2, 1) := by decide +kernel
theorem d_Jo_latestMoveOf_45 : decode zb_Jo_latestMoveOf 45 = .ok (.ireturn, 1) := by decide +kernel
def k_Jo_latestMoveOf_5 (x : zsT) (l1 : Int32) : Nat → Int32 → Int32 → Option (Int32)
  | 0, _, _ => none
  | fu + 1, l2, l3 => (if l3 < x.2 then (if l3 < (300 : Int32) then (k_Jo_tells x l3 ((7 : Int32)) l1).bind fun o3 => (if o3 = 0 then k_Jo_latestMoveOf_5 x l1 fu l2 ((l3 + (1 : Int32))) else (k_Jo_at x l3 ((2 : Int32))).bind fun o5 => k_Jo_latestMoveOf_5 x l1 fu o5 ((l3 + (1 : Int32)))) else some l2) else some l2)
theorem w_Jo_latestMoveOf_5 {X : zX} {c : zY} {q : Nat → Nat} {x : zsT} {l1 : Int32} {out : Int32} (hX : Ok X zr_Jo zb_Jo_latestMoveOf 4 2 c) (hR : Rt X (some .int) (some (.int out)) (zwJ c q x)) : ∀ (fu : Nat) (l2 : Int32) (l3 : Int32), k_Jo_latestMoveOf_5 x l1 fu l2 l3 = some out → Go X (zwJ c q x) [(0, .ref ((q 0))), (1, .int l1), (2, .int l2), (3, .int l3)] 5 [] := by
  intro fu
  induction fu with
  | zero => intro l2 l3 h; rw [k_Jo_latestMoveOf_5] at h; cases h
  | succ fu ih =>
    intro l2 l3 h
    rw [k_Jo_latestMoveOf_5] at h
    refine g_iload_n (pc := 5) hX d_Jo_latestMoveOf_5 rfl 3 rfl ?_
    refine g_aload_n (pc := 6) hX d_Jo_latestMoveOf_6 rfl 0 rfl ?_
    refine gf_Jo_15 (pc := 7) (v := .int x.2) hX 0 rfl rfl d_Jo_latestMoveOf_7 ?_
    refine g_icmp_ge (pc := 10) (tgt := 44) hX d_Jo_latestMoveOf_10 (by decide) h (fun c1 h => ?_) (fun c1 h => ?_)
    · refine g_iload_n (pc := 44) hX d_Jo_latestMoveOf_44 rfl 2 rfl ?_
      cases h
      exact g_iret (pc := 45) hX hR d_Jo_latestMoveOf_45
    · refine g_iload_n (pc := 13) hX d_Jo_latestMoveOf_13 rfl 3 rfl ?_
      refine g_sipush (pc := 14) hX d_Jo_latestMoveOf_14 zh_300 ?_
      refine g_icmp_ge (pc := 17) (tgt := 44) hX d_Jo_latestMoveOf_17 (by decide) h (fun c2 h => ?_) (fun c2 h => ?_)
      · refine g_iload_n (pc := 44) hX d_Jo_latestMoveOf_44 rfl 2 rfl ?_
        cases h
        exact g_iret (pc := 45) hX hR d_Jo_latestMoveOf_45
      · refine g_aload_n (pc := 20) hX d_Jo_latestMoveOf_20 rfl 0 rfl ?_
        refine g_iload_n (pc := 21) hX d_Jo_latestMoveOf_21 rfl 3 rfl ?_
        refine g_bipush (pc := 22) hX d_Jo_latestMoveOf_22 ze_7 ?_
        refine g_iload_n (pc := 24) hX d_Jo_latestMoveOf_24 rfl 1 rfl ?_
        obtain ⟨o3, e3, h⟩ := zbind h
        refine g_cvI (pc := 25) (w1 := []) (w2 := []) (st := []) (w' := (zwJ c q x)) hX zk_Jo_tells zs_Jo_tells zL_Jo_23 (c_Jo_tells c q x l3 ((7 : Int32)) l1 e3) rfl rfl rfl rfl (zself _) (zself _).symm 0 4 rfl rfl rfl d_Jo_latestMoveOf_25 ?_
        refine g_if_eq (pc := 28) (tgt := 38) hX d_Jo_latestMoveOf_28 (by decide) h (fun c4 h => ?_) (fun c4 h => ?_)
        · refine g_iinc (pc := 38) (q := 3) (L' := [(3, .int ((l3 + (1 : Int32)))), (0, .ref ((q 0))), (1, .int l1), (2, .int l2)]) hX d_Jo_latestMoveOf_38 rfl zc_1 rfl rfl ?_
          refine g_goto (pc := 41) (tgt := 5) hX d_Jo_latestMoveOf_41 (by decide) ?_
          refine g_ls (L' := [(0, .ref ((q 0))), (1, .int l1), (2, .int l2), (3, .int ((l3 + (1 : Int32))))]) [1, 2, 3, 0] rfl ?_
          exact ih _ _ h
        · refine g_aload_n (pc := 31) hX d_Jo_latestMoveOf_31 rfl 0 rfl ?_
          refine g_iload_n (pc := 32) hX d_Jo_latestMoveOf_32 rfl 3 rfl ?_
          refine g_iconst (pc := 33) hX d_Jo_latestMoveOf_33 zc_2 ?_
          obtain ⟨o5, e5, h⟩ := zbind h
          refine g_cvI (pc := 34) (w1 := []) (w2 := []) (st := []) (w' := (zwJ c q x)) hX zk_Jo_at zs_Jo_at zL_Jo_19 (c_Jo_at c q x l3 ((2 : Int32)) e5) rfl rfl rfl rfl (zself _) (zself _).symm 0 4 rfl rfl rfl d_Jo_latestMoveOf_34 ?_
          refine g_istore_n (pc := 37) (L' := [(2, .int o5), (0, .ref ((q 0))), (1, .int l1), (3, .int l3)]) hX d_Jo_latestMoveOf_37 rfl rfl rfl ?_
          refine g_iinc (pc := 38) (q := 3) (L' := [(3, .int ((l3 + (1 : Int32)))), (2, .int o5), (0, .ref ((q 0))), (1, .int l1)]) hX d_Jo_latestMoveOf_38 rfl zc_1 rfl rfl ?_
          refine g_goto (pc := 41) (tgt := 5) hX d_Jo_latestMoveOf_41 (by decide) ?_
          refine g_ls (L' := [(0, .ref ((q 0))), (1, .int l1), (2, .int o5), (3, .int ((l3 + (1 : Int32))))]) [2, 3, 1, 0] rfl ?_
          exact ih _ _ h
def k_Jo_latestMoveOf (x : zsT) (l1 : Int32) : Option (Int32) := k_Jo_latestMoveOf_5 x l1 zFu ((-5 : Int32)) ((0 : Int32))
theorem c_Jo_latestMoveOf (c : zY) (q : Nat → Nat) (x : zsT) (l1 : Int32) {out : Int32} (h : k_Jo_latestMoveOf x l1 = some out) : KM zy_Jo_latestMoveOf zb_Jo_latestMoveOf 4 (some .int) 2 c [.ref ((q 0)), .int l1] (zwJ c q x) (zwJ c q x) (some (.int out)) := zK_of zp_Jo rfl (Nat.le_of_ble_eq_true rfl) (zq_Jo c q _ _) (fun X hX hR => by
  show Go X (zwJ c q x) [(0, .ref ((q 0))), (1, .int l1)] 0 []
  rw [k_Jo_latestMoveOf] at h
  refine g_bipush (pc := 0) hX d_Jo_latestMoveOf_0 ze_m5 ?_
  refine g_istore_n (pc := 2) (L' := [(2, .int ((-5 : Int32))), (0, .ref ((q 0))), (1, .int l1)]) hX d_Jo_latestMoveOf_2 rfl rfl rfl ?_
  refine g_iconst (pc := 3) hX d_Jo_latestMoveOf_3 zc_0 ?_
  refine g_istore_n (pc := 4) (L' := [(3, .int ((0 : Int32))), (2, .int ((-5 : Int32))), (0, .ref ((q 0))), (1, .int l1)]) hX d_Jo_latestMoveOf_4 rfl rfl rfl ?_
  refine g_ls (L' := [(0, .ref ((q 0))), (1, .int l1), (2, .int ((-5 : Int32))), (3, .int ((0 : Int32)))]) [2, 3, 1, 0] rfl ?_
  exact w_Jo_latestMoveOf_5 hX hR _ _ _ h)
end
section
theorem d_Co_size_0 : decode zb_Co_size 0 = .ok (.aload_n 0, 1) := by decide +kernel
theorem d_Co_size_1 : decode zb_Co_size 1 = .ok (.getfield 16, 3) := by decide +kernel
theorem d_Co_size_4 : decode zb_Co_size 4 = .ok (.invokevirtual 28, 3) := by decide +kernel
theorem d_Co_size_7 : decode zb_Co_size 7 = .ok (.ireturn, 1) := by decide +kernel
def k_Co_size (x : zsC) : Option (Int32) := (k_Ta_used 6 2304 x.2.1).bind fun o1 => some o1
theorem c_Co_size (c : zY) (q : Nat → Nat) (x : zsC) {out : Int32} (h : k_Co_size x = some out) : KM zy_Co_size zb_Co_size 1 (some .int) 1 c [.ref ((q 2))] (zwC c q x) (zwC c q x) (some (.int out)) := zK_of zp_Co rfl (Nat.le_of_ble_eq_true rfl) (zq_Co c q _ _) (fun X hX hR => by
  show Go X (zwC c q x) [(0, .ref ((q 2)))] 0 []
  rw [k_Co_size] at h
  refine g_aload_n (pc := 0) hX d_Co_size_0 rfl 0 rfl ?_
  refine gf_Co_16 (pc := 1) (v := .ref ((q 3))) hX 2 rfl rfl d_Co_size_1 ?_
  obtain ⟨o1, e1, h⟩ := zbind h
  refine g_cvI (pc := 4)  (st := []) (w' := (zwC c q x)) hX zk_Ta_used zs_Ta_used zL_Co_28 (c_Ta_used c (q 3) (q 4) 6 2304 x.2.1 e1) rfl rfl rfl rfl (sp_Co_Ta_3 c q x) (sp_Co_Ta_3 c q x).symm 3 6 rfl rfl rfl d_Co_size_4 ?_
  cases h
  exact g_iret (pc := 7) hX hR d_Co_size_7)
theorem d_Co_has_0 : decode zb_Co_has 0 = .ok (.aload_n 0, 1) := by decide +kernel
theorem d_Co_has_1 : decode zb_Co_has 1 = .ok (.getfield 16, 3) := by decide +kernel
theorem d_Co_has_4 : decode zb_Co_has 4 = .ok (.iload_n 1, 1) := by decide +kernel
theorem d_Co_has_5 : decode zb_Co_has 5 = .ok (.invokevirtual 32, 3) := by decide +kernel
theorem d_Co_has_8 : decode zb_Co_has 8 = .ok (.ireturn, 1) := by decide +kernel
def k_Co_has (x : zsC) (l1 : Int32) : Option (Int32) := (k_Ta_holds 6 2304 x.2.1 l1).bind fun o1 => (if o1 = 0 ∨ o1 = 1 then some o1 else none)
theorem c_Co_has (c : zY) (q : Nat → Nat) (x : zsC) (l1 : Int32) {out : Int32} (h : k_Co_has x l1 = some out) : KM zy_Co_has zb_Co_has 2 (some .boolean) 1 c [.ref ((q 2)), .int l1] (zwC c q x) (zwC c q x) (some (.int out)) := zK_of zp_Co rfl (Nat.le_of_ble_eq_true rfl) (zq_Co c q _ _) (fun X hX hR => by
  show Go X (zwC c q x) [(0, .ref ((q 2))), (1, .int l1)] 0 []
  rw [k_Co_has] at h
  refine g_aload_n (pc := 0) hX d_Co_has_0 rfl 0 rfl ?_
  refine gf_Co_16 (pc := 1) (v := .ref ((q 3))) hX 2 rfl rfl d_Co_has_1 ?_
  refine g_iload_n (pc := 4) hX d_Co_has_4 rfl 1 rfl ?_
  obtain ⟨o1, e1, h⟩ := zbind h
  refine g_cvI (pc := 5)  (st := []) (w' := (zwC c q x)) hX zk_Ta_holds zs_Ta_holds zL_Co_32 (c_Ta_holds c (q 3) (q 4) 6 2304 x.2.1 l1 e1) rfl rfl rfl rfl (sp_Co_Ta_3 c q x) (sp_Co_Ta_3 c q x).symm 3 6 rfl rfl rfl d_Co_has_5 ?_
  obtain ⟨hb2, h⟩ := zifb h
  cases h
  exact g_zret (pc := 8) hX hR hb2 d_Co_has_8)
theorem d_Co_at_0 : decode zb_Co_at 0 = .ok (.aload_n 0, 1) := by decide +kernel
theorem d_Co_at_1 : decode zb_Co_at 1 = .ok (.getfield 16, 3) := by decide +kernel
theorem d_Co_at_4 : decode zb_Co_at 4 = .ok (.iload_n 1, 1) := by decide +kernel
theorem d_Co_at_5 : decode zb_Co_at 5 = .ok (.iload_n 2, 1) := by decide +kernel
theorem d_Co_at_6 : decode zb_Co_at 6 = .ok (.invokevirtual 36, 3) := by decide +kernel
theorem d_Co_at_9 : decode zb_Co_at 9 = .ok (.ireturn, 1) := by decide +kernel
def k_Co_at (x : zsC) (l1 : Int32) (l2 : Int32) : Option (Int32) := (k_Ta_get 6 2304 x.2.1 l1 l2).bind fun o1 => some o1
theorem c_Co_at (c : zY) (q : Nat → Nat) (x : zsC) (l1 : Int32) (l2 : Int32) {out : Int32} (h : k_Co_at x l1 l2 = some out) : KM zy_Co_at zb_Co_at 3 (some .int) 1 c [.ref ((q 2)), .int l1, .int l2] (zwC c q x) (zwC c q x) (some (.int out)) := zK_of zp_Co rfl (Nat.le_of_ble_eq_true rfl) (zq_Co c q _ _) (fun X hX hR => by
  show Go X (zwC c q x) [(0, .ref ((q 2))), (1, .int l1), (2, .int l2)] 0 []
  rw [k_Co_at] at h
  refine g_aload_n (pc := 0) hX d_Co_at_0 rfl 0 rfl ?_
  refine gf_Co_16 (pc := 1) (v := .ref ((q 3))) hX 2 rfl rfl d_Co_at_1 ?_
  refine g_iload_n (pc := 4) hX d_Co_at_4 rfl 1 rfl ?_
  refine g_iload_n (pc := 5) hX d_Co_at_5 rfl 2 rfl ?_
  obtain ⟨o1, e1, h⟩ := zbind h
  refine g_cvI (pc := 6)  (st := []) (w' := (zwC c q x)) hX zk_Ta_get zs_Ta_get zL_Co_36 (c_Ta_get c (q 3) (q 4) 6 2304 x.2.1 l1 l2 e1) rfl rfl rfl rfl (sp_Co_Ta_3 c q x) (sp_Co_Ta_3 c q x).symm 3 6 rfl rfl rfl d_Co_at_6 ?_
  cases h
  exact g_iret (pc := 9) hX hR d_Co_at_9)
theorem d_Co_find_0 : decode zb_Co_find 0 = .ok (.iconst 0, 1) := by decide +kernel
theorem d_Co_find_1 : decode zb_Co_find 1 = .ok (.istore 4, 2) := by decide +kernel
theorem d_Co_find_3 : decode zb_Co_find 3 = .ok (.iload 4, 2) := by decide +kernel
theorem d_Co_find_5 : decode zb_Co_find 5 = .ok (.aload_n 0, 1) := by decide +kernel
theorem d_Co_find_6 : decode zb_Co_find 6 = .ok (.getfield 16, 3) := by decide +kernel
theorem d_Co_find_9 : decode zb_Co_find 9 = .ok (.invokevirtual 28, 3) := by decide +kernel
theorem d_Co_find_12 : decode zb_Co_find 12 = .ok (.if_icmp .ge 54, 3) := by decide +kernel
theorem d_Co_find_15 : decode zb_Co_find 15 = .ok (.aload_n 0, 1) := by decide +kernel
theorem d_Co_find_16 : decode zb_Co_find 16 = .ok (.getfield 16, 3) := by decide +kernel
theorem d_Co_find_19 : decode zb_Co_find 19 = .ok (.iload 4, 2) := by decide +kernel
theorem d_Co_find_21 : decode zb_Co_find 21 = .ok (.iconst 0, 1) := by decide +kernel
theorem d_Co_find_22 : decode zb_Co_find 22 = .ok (.invokevirtual 36, 3) := by decide +kernel
theorem d_Co_find_25 : decode zb_Co_find 25 = .ok (.iload_n 1, 1) := by decide +kernel
theorem d_Co_find_26 : decode zb_Co_find 26 = .ok (.if_icmp .ne 34, 3) := by decide +kernel
theorem d_Co_find_29 : decode zb_Co_find 29 = .ok (.aload_n 0, 1) := by decide +kernel
theorem d_Co_find_30 : decode zb_Co_find 30 = .ok (.getfield 16, 3) := by decide +kernel
theorem d_Co_find_33 : decode zb_Co_find 33 = .ok (.iload 4, 2) := by decide +kernel
theorem d_Co_find_35 : decode zb_Co_find 35 = .ok (.iconst 1, 1) := by decide +kernel
theorem d_Co_find_36 : decode zb_Co_find 36 = .ok (.invokevirtual 36, 3) := by decide +kernel
theorem d_Co_find_39 : decode zb_Co_find 39 = .ok (.iload_n 2, 1) := by decide +kernel
theorem d_Co_find_40 : decode zb_Co_find 40 = .ok (.if_icmp .ne 20, 3) := by decide +kernel
theorem d_Co_find_43 : decode zb_Co_find 43 = .ok (.aload_n 0, 1) := by decide +kernel
theorem d_Co_find_44 : decode zb_Co_find 44 = .ok (.getfield 16, 3) := by decide +kernel
theorem d_Co_find_47 : decode zb_Co_find 47 = .ok (.iload 4, 2) := by decide +kernel
theorem d_Co_find_49 : decode zb_Co_find 49 = .ok (.iconst 2, 1) := by decide +kernel
theorem d_Co_find_50 : decode zb_Co_find 50 = .ok (.invokevirtual 36, 3) := by decide +kernel
theorem d_Co_find_53 : decode zb_Co_find 53 = .ok (.iload_n 3, 1) := by decide +kernel
theorem d_Co_find_54 : decode zb_Co_find 54 = .ok (.if_icmp .ne 6, 3) := by decide +kernel
theorem d_Co_find_57 : decode zb_Co_find 57 = .ok (.iload 4, 2) := by decide +kernel
theorem d_Co_find_59 : decode zb_Co_find 59 = .ok (.ireturn, 1) := by decide +kernel
theorem d_Co_find_60 : decode zb_Co_find 60 = .ok (.iinc 4 1, 3) := by decide +kernel
theorem d_Co_find_63 : decode zb_Co_find 63 = .ok (.goto (-60), 3) := by decide +kernel
theorem d_Co_find_66 : decode zb_Co_find 66 = .ok (.iconst (-1), 1) := by decide +kernel
theorem d_Co_find_67 : decode zb_Co_find 67 = .ok (.ireturn, 1) := by decide +kernel
def k_Co_find_3 (x : zsC) (l1 : Int32) (l2 : Int32) (l3 : Int32) : Nat → Int32 → Option (Int32)
  | 0, _ => none
  | fu + 1, l4 => (k_Ta_used 6 2304 x.2.1).bind fun o1 => (if l4 < o1 then (k_Ta_get 6 2304 x.2.1 l4 ((0 : Int32))).bind fun o3 => (if o3 = l1 then (k_Ta_get 6 2304 x.2.1 l4 ((1 : Int32))).bind fun o5 => (if o5 = l2 then (k_Ta_get 6 2304 x.2.1 l4 ((2 : Int32))).bind fun o7 => (if o7 = l3 then some l4 else k_Co_find_3 x l1 l2 l3 fu ((l4 + (1 : Int32)))) else k_Co_find_3 x l1 l2 l3 fu ((l4 + (1 : Int32)))) else k_Co_find_3 x l1 l2 l3 fu ((l4 + (1 : Int32)))) else some ((-1 : Int32)))
theorem w_Co_find_3 {X : zX} {c : zY} {q : Nat → Nat} {x : zsC} {l1 : Int32} {l2 : Int32} {l3 : Int32} {out : Int32} (hX : Ok X zr_Co zb_Co_find 5 1 c) (hR : Rt X (some .int) (some (.int out)) (zwC c q x)) : ∀ (fu : Nat) (l4 : Int32), k_Co_find_3 x l1 l2 l3 fu l4 = some out → Go X (zwC c q x) [(0, .ref ((q 2))), (1, .int l1), (2, .int l2), (3, .int l3), (4, .int l4)] 3 [] := by
  intro fu
  induction fu with
  | zero => intro l4 h; rw [k_Co_find_3] at h; cases h
  | succ fu ih =>
    intro l4 h
    rw [k_Co_find_3] at h
    refine g_iload (pc := 3) hX d_Co_find_3 4 rfl ?_
    refine g_aload_n (pc := 5) hX d_Co_find_5 rfl 0 rfl ?_
    refine gf_Co_16 (pc := 6) (v := .ref ((q 3))) hX 2 rfl rfl d_Co_find_6 ?_
    obtain ⟨o1, e1, h⟩ := zbind h
    refine g_cvI (pc := 9)  (st := [.int l4]) (w' := (zwC c q x)) hX zk_Ta_used zs_Ta_used zL_Co_28 (c_Ta_used c (q 3) (q 4) 6 2304 x.2.1 e1) rfl rfl rfl rfl (sp_Co_Ta_3 c q x) (sp_Co_Ta_3 c q x).symm 3 6 rfl rfl rfl d_Co_find_9 ?_
    refine g_icmp_ge (pc := 12) (tgt := 66) hX d_Co_find_12 (by decide) h (fun c2 h => ?_) (fun c2 h => ?_)
    · refine g_iconst (pc := 66) hX d_Co_find_66 zc_m1 ?_
      cases h
      exact g_iret (pc := 67) hX hR d_Co_find_67
    · refine g_aload_n (pc := 15) hX d_Co_find_15 rfl 0 rfl ?_
      refine gf_Co_16 (pc := 16) (v := .ref ((q 3))) hX 2 rfl rfl d_Co_find_16 ?_
      refine g_iload (pc := 19) hX d_Co_find_19 4 rfl ?_
      refine g_iconst (pc := 21) hX d_Co_find_21 zc_0 ?_
      obtain ⟨o3, e3, h⟩ := zbind h
      refine g_cvI (pc := 22)  (st := []) (w' := (zwC c q x)) hX zk_Ta_get zs_Ta_get zL_Co_36 (c_Ta_get c (q 3) (q 4) 6 2304 x.2.1 l4 ((0 : Int32)) e3) rfl rfl rfl rfl (sp_Co_Ta_3 c q x) (sp_Co_Ta_3 c q x).symm 3 6 rfl rfl rfl d_Co_find_22 ?_
      refine g_iload_n (pc := 25) hX d_Co_find_25 rfl 1 rfl ?_
      refine g_icmp_ne (pc := 26) (tgt := 60) hX d_Co_find_26 (by decide) h (fun c4 h => ?_) (fun c4 h => ?_)
      · refine g_iinc (pc := 60) (q := 4) (L' := [(4, .int ((l4 + (1 : Int32)))), (0, .ref ((q 2))), (1, .int l1), (2, .int l2), (3, .int l3)]) hX d_Co_find_60 rfl zc_1 rfl rfl ?_
        refine g_goto (pc := 63) (tgt := 3) hX d_Co_find_63 (by decide) ?_
        refine g_ls (L' := [(0, .ref ((q 2))), (1, .int l1), (2, .int l2), (3, .int l3), (4, .int ((l4 + (1 : Int32))))]) [1, 2, 3, 4, 0] rfl ?_
        exact ih _ h
      · refine g_aload_n (pc := 29) hX d_Co_find_29 rfl 0 rfl ?_
        refine gf_Co_16 (pc := 30) (v := .ref ((q 3))) hX 2 rfl rfl d_Co_find_30 ?_
        refine g_iload (pc := 33) hX d_Co_find_33 4 rfl ?_
        refine g_iconst (pc := 35) hX d_Co_find_35 zc_1 ?_
        obtain ⟨o5, e5, h⟩ := zbind h
        refine g_cvI (pc := 36)  (st := []) (w' := (zwC c q x)) hX zk_Ta_get zs_Ta_get zL_Co_36 (c_Ta_get c (q 3) (q 4) 6 2304 x.2.1 l4 ((1 : Int32)) e5) rfl rfl rfl rfl (sp_Co_Ta_3 c q x) (sp_Co_Ta_3 c q x).symm 3 6 rfl rfl rfl d_Co_find_36 ?_
        refine g_iload_n (pc := 39) hX d_Co_find_39 rfl 2 rfl ?_
        refine g_icmp_ne (pc := 40) (tgt := 60) hX d_Co_find_40 (by decide) h (fun c6 h => ?_) (fun c6 h => ?_)
        · refine g_iinc (pc := 60) (q := 4) (L' := [(4, .int ((l4 + (1 : Int32)))), (0, .ref ((q 2))), (1, .int l1), (2, .int l2), (3, .int l3)]) hX d_Co_find_60 rfl zc_1 rfl rfl ?_
          refine g_goto (pc := 63) (tgt := 3) hX d_Co_find_63 (by decide) ?_
          refine g_ls (L' := [(0, .ref ((q 2))), (1, .int l1), (2, .int l2), (3, .int l3), (4, .int ((l4 + (1 : Int32))))]) [1, 2, 3, 4, 0] rfl ?_
          exact ih _ h
        · refine g_aload_n (pc := 43) hX d_Co_find_43 rfl 0 rfl ?_
          refine gf_Co_16 (pc := 44) (v := .ref ((q 3))) hX 2 rfl rfl d_Co_find_44 ?_
          refine g_iload (pc := 47) hX d_Co_find_47 4 rfl ?_
          refine g_iconst (pc := 49) hX d_Co_find_49 zc_2 ?_
          obtain ⟨o7, e7, h⟩ := zbind h
          refine g_cvI (pc := 50)  (st := []) (w' := (zwC c q x)) hX zk_Ta_get zs_Ta_get zL_Co_36 (c_Ta_get c (q 3) (q 4) 6 2304 x.2.1 l4 ((2 : Int32)) e7) rfl rfl rfl rfl (sp_Co_Ta_3 c q x) (sp_Co_Ta_3 c q x).symm 3 6 rfl rfl rfl d_Co_find_50 ?_
          refine g_iload_n (pc := 53) hX d_Co_find_53 rfl 3 rfl ?_
          refine g_icmp_ne (pc := 54) (tgt := 60) hX d_Co_find_54 (by decide) h (fun c8 h => ?_) (fun c8 h => ?_)
          · refine g_iinc (pc := 60) (q := 4) (L' := [(4, .int ((l4 + (1 : Int32)))), (0, .ref ((q 2))), (1, .int l1), (2, .int l2), (3, .int l3)]) hX d_Co_find_60 rfl zc_1 rfl rfl ?_
            refine g_goto (pc := 63) (tgt := 3) hX d_Co_find_63 (by decide) ?_
            refine g_ls (L' := [(0, .ref ((q 2))), (1, .int l1), (2, .int l2), (3, .int l3), (4, .int ((l4 + (1 : Int32))))]) [1, 2, 3, 4, 0] rfl ?_
            exact ih _ h
          · refine g_iload (pc := 57) hX d_Co_find_57 4 rfl ?_
            cases h
            exact g_iret (pc := 59) hX hR d_Co_find_59
def k_Co_find (x : zsC) (l1 : Int32) (l2 : Int32) (l3 : Int32) : Option (Int32) := k_Co_find_3 x l1 l2 l3 zFu ((0 : Int32))
theorem c_Co_find (c : zY) (q : Nat → Nat) (x : zsC) (l1 : Int32) (l2 : Int32) (l3 : Int32) {out : Int32} (h : k_Co_find x l1 l2 l3 = some out) : KM zy_Co_find zb_Co_find 5 (some .int) 1 c [.ref ((q 2)), .int l1, .int l2, .int l3] (zwC c q x) (zwC c q x) (some (.int out)) := zK_of zp_Co rfl (Nat.le_of_ble_eq_true rfl) (zq_Co c q _ _) (fun X hX hR => by
  show Go X (zwC c q x) [(0, .ref ((q 2))), (1, .int l1), (2, .int l2), (3, .int l3)] 0 []
  rw [k_Co_find] at h
  refine g_iconst (pc := 0) hX d_Co_find_0 zc_0 ?_
  refine g_istore (pc := 1) (L' := [(4, .int ((0 : Int32))), (0, .ref ((q 2))), (1, .int l1), (2, .int l2), (3, .int l3)]) hX d_Co_find_1 rfl rfl ?_
  refine g_ls (L' := [(0, .ref ((q 2))), (1, .int l1), (2, .int l2), (3, .int l3), (4, .int ((0 : Int32)))]) [1, 2, 3, 4, 0] rfl ?_
  exact w_Co_find_3 hX hR _ _ h)
theorem d_Co_make_0 : decode zb_Co_make 0 = .ok (.aload_n 0, 1) := by decide +kernel
theorem d_Co_make_1 : decode zb_Co_make 1 = .ok (.iload_n 1, 1) := by decide +kernel
theorem d_Co_make_2 : decode zb_Co_make 2 = .ok (.iload_n 2, 1) := by decide +kernel
theorem d_Co_make_3 : decode zb_Co_make 3 = .ok (.iload_n 3, 1) := by decide +kernel
theorem d_Co_make_4 : decode zb_Co_make 4 = .ok (.invokevirtual 40, 3) := by decide +kernel
theorem d_Co_make_7 : decode zb_Co_make 7 = .ok (.istore 7, 2) := by decide +kernel
theorem d_Co_make_9 : decode zb_Co_make 9 = .ok (.iload 7, 2) := by decide +kernel
theorem d_Co_make_11 : decode zb_Co_make 11 = .ok (.ifCond .ge 45, 3) := by decide +kernel
theorem d_Co_make_14 : decode zb_Co_make 14 = .ok (.aload_n 0, 1) := by decide +kernel
theorem d_Co_make_15 : decode zb_Co_make 15 = .ok (.getfield 16, 3) := by decide +kernel
theorem d_Co_make_18 : decode zb_Co_make 18 = .ok (.invokevirtual 44, 3) := by decide +kernel
theorem d_Co_make_21 : decode zb_Co_make 21 = .ok (.istore 7, 2) := by decide +kernel
theorem d_Co_make_23 : decode zb_Co_make 23 = .ok (.aload_n 0, 1) := by decide +kernel
theorem d_Co_make_24 : decode zb_Co_make 24 = .ok (.getfield 16, 3) := by decide +kernel
theorem d_Co_make_27 : decode zb_Co_make 27 = .ok (.iload 7, 2) := by decide +kernel
theorem d_Co_make_29 : decode zb_Co_make 29 = .ok (.iconst 0, 1) := by decide +kernel
theorem d_Co_make_30 : decode zb_Co_make 30 = .ok (.iload_n 1, 1) := by decide +kernel
theorem d_Co_make_31 : decode zb_Co_make 31 = .ok (.invokevirtual 47, 3) := by decide +kernel
theorem d_Co_make_34 : decode zb_Co_make 34 = .ok (.aload_n 0, 1) := by decide +kernel
theorem d_Co_make_35 : decode zb_Co_make 35 = .ok (.getfield 16, 3) := by decide +kernel
theorem d_Co_make_38 : decode zb_Co_make 38 = .ok (.iload 7, 2) := by decide +kernel
theorem d_Co_make_40 : decode zb_Co_make 40 = .ok (.iconst 1, 1) := by decide +kernel
theorem d_Co_make_41 : decode zb_Co_make 41 = .ok (.iload_n 2, 1) := by decide +kernel
theorem d_Co_make_42 : decode zb_Co_make 42 = .ok (.invokevirtual 47, 3) := by decide +kernel
theorem d_Co_make_45 : decode zb_Co_make 45 = .ok (.aload_n 0, 1) := by decide +kernel
theorem d_Co_make_46 : decode zb_Co_make 46 = .ok (.getfield 16, 3) := by decide +kernel
theorem d_Co_make_49 : decode zb_Co_make 49 = .ok (.iload 7, 2) := by decide +kernel
theorem d_Co_make_51 : decode zb_Co_make 51 = .ok (.iconst 2, 1) := by decide +kernel
theorem d_Co_make_52 : decode zb_Co_make 52 = .ok (.iload_n 3, 1) := by decide +kernel
theorem d_Co_make_53 : decode zb_Co_make 53 = .ok (.invokevirtual 47, 3) := by decide +kernel
theorem d_Co_make_56 : decode zb_Co_make 56 = .ok (.aload_n 0, 1) := by decide +kernel
theorem d_Co_make_57 : decode zb_Co_make 57 = .ok (.getfield 16, 3) := by decide +kernel
theorem d_Co_make_60 : decode zb_Co_make 60 = .ok (.iload 7, 2) := by decide +kernel
theorem d_Co_make_62 : decode zb_Co_make 62 = .ok (.iconst 3, 1) := by decide +kernel
theorem d_Co_make_63 : decode zb_Co_make 63 = .ok (.iload 4, 2) := by decide +kernel
theorem d_Co_make_65 : decode zb_Co_make 65 = .ok (.aload_n 0, 1) := by decide +kernel
theorem d_Co_make_66 : decode zb_Co_make 66 = .ok (.getfield 16, 3) := by decide +kernel
theorem d_Co_make_69 : decode zb_Co_make 69 = .ok (.iload 7, 2) := by decide +kernel
theorem d_Co_make_71 : decode zb_Co_make 71 = .ok (.iconst 3, 1) := by decide +kernel
theorem d_Co_make_72 : decode zb_Co_make 72 = .ok (.invokevirtual 36, 3) := by decide +kernel
theorem d_Co_make_75 : decode zb_Co_make 75 = .ok (.invokestatic 50, 3) := by decide +kernel
theorem d_Co_make_78 : decode zb_Co_make 78 = .ok (.invokevirtual 47, 3) := by decide +kernel
theorem d_Co_make_81 : decode zb_Co_make 81 = .ok (.aload_n 0, 1) := by decide +kernel
theorem d_Co_make_82 : decode zb_Co_make 82 = .ok (.getfield 16, 3) := by decide +kernel
theorem d_Co_make_85 : decode zb_Co_make 85 = .ok (.iload 7, 2) := by decide +kernel
theorem d_Co_make_87 : decode zb_Co_make 87 = .ok (.iconst 4, 1) := by decide +kernel
theorem d_Co_make_88 : decode zb_Co_make 88 = .ok (.iload 5, 2) := by decide +kernel
theorem d_Co_make_90 : decode zb_Co_make 90 = .ok (.invokevirtual 47, 3) := by decide +kernel
theorem d_Co_make_93 : decode zb_Co_make 93 = .ok (.aload_n 0, 1) := by decide +kernel
theorem d_Co_make_94 : decode zb_Co_make 94 = .ok (.getfield 16, 3) := by decide +kernel
theorem d_Co_make_97 : decode zb_Co_make 97 = .ok (.iload 7, 2) := by decide +kernel
theorem d_Co_make_99 : decode zb_Co_make 99 = .ok (.iconst 5, 1) := by decide +kernel
theorem d_Co_make_100 : decode zb_Co_make 100 = .ok (.iload 6, 2) := by decide +kernel
theorem d_Co_make_102 : decode zb_Co_make 102 = .ok (.aload_n 0, 1) := by decide +kernel
theorem d_Co_make_103 : decode zb_Co_make 103 = .ok (.getfield 16, 3) := by decide +kernel
theorem d_Co_make_106 : decode zb_Co_make 106 = .ok (.iload 7, 2) := by decide +kernel
theorem d_Co_make_108 : decode zb_Co_make 108 = .ok (.iconst 5, 1) := by decide +kernel
theorem d_Co_make_109 : decode zb_Co_make 109 = .ok (.invokevirtual 36, 3) := by decide +kernel
theorem d_Co_make_112 : decode zb_Co_make 112 = .ok (.invokestatic 50, 3) := by decide +kernel
theorem d_Co_make_115 : decode zb_Co_make 115 = .ok (.invokevirtual 47, 3) := by decide +kernel
theorem d_Co_make_118 : decode zb_Co_make 118 = .ok (.aload_n 0, 1) := by decide +kernel
theorem d_Co_make_119 : decode zb_Co_make 119 = .ok (.getfield 24, 3) := by decide +kernel
theorem d_Co_make_122 : decode zb_Co_make 122 = .ok (.iconst 3, 1) := by decide +kernel
theorem d_Co_make_123 : decode zb_Co_make 123 = .ok (.iload_n 2, 1) := by decide +kernel
theorem d_Co_make_124 : decode zb_Co_make 124 = .ok (.iload_n 1, 1) := by decide +kernel
theorem d_Co_make_125 : decode zb_Co_make 125 = .ok (.invokevirtual 55, 3) := by decide +kernel
theorem d_Co_make_128 : decode zb_Co_make 128 = .ok (.return_, 1) := by decide +kernel
def k_Co_make_56 (l1 : Int32) (l2 : Int32) (l3 : Int32) (l4 : Int32) (l5 : Int32) (l6 : Int32) (l7 : Int32) (x : zsC) : Option (zsC) := (k_Ta_get 6 2304 x.2.1 l7 ((3 : Int32))).bind fun o3 => (k_Ta_set 6 2304 x.2.1 l7 ((3 : Int32)) ((zmax l4 o3))).bind fun o4 => (k_Ta_set 6 2304 o4 l7 ((4 : Int32)) l5).bind fun o5 => (k_Ta_get 6 2304 o5 l7 ((5 : Int32))).bind fun o6 => (k_Ta_set 6 2304 o5 l7 ((5 : Int32)) ((zmax l6 o6))).bind fun o7 => (k_Jo_write x.1 ((3 : Int32)) l2 l1).bind fun o8 => some ((o8, o7, x.2.2))
theorem w_Co_make_56 {X : zX} {c : zY} {q : Nat → Nat} {l1 : Int32} {l2 : Int32} {l3 : Int32} {l4 : Int32} {l5 : Int32} {l6 : Int32} {out : zsC} (hX : Ok X zr_Co zb_Co_make 8 2 c) (hR : Rt X none none (zwC c q out)) : ∀ (l7 : Int32) (x : zsC), k_Co_make_56 l1 l2 l3 l4 l5 l6 l7 x = some out → Go X (zwC c q x) [(0, .ref ((q 2))), (1, .int l1), (2, .int l2), (4, .int l4), (5, .int l5), (6, .int l6), (7, .int l7)] 56 [] := by
  intro l7 x h
  rw [k_Co_make_56] at h
  refine g_aload_n (pc := 56) hX d_Co_make_56 rfl 0 rfl ?_
  refine gf_Co_16 (pc := 57) (v := .ref ((q 3))) hX 2 rfl rfl d_Co_make_57 ?_
  refine g_iload (pc := 60) hX d_Co_make_60 6 rfl ?_
  refine g_iconst (pc := 62) hX d_Co_make_62 zc_3 ?_
  refine g_iload (pc := 63) hX d_Co_make_63 3 rfl ?_
  refine g_aload_n (pc := 65) hX d_Co_make_65 rfl 0 rfl ?_
  refine gf_Co_16 (pc := 66) (v := .ref ((q 3))) hX 2 rfl rfl d_Co_make_66 ?_
  refine g_iload (pc := 69) hX d_Co_make_69 6 rfl ?_
  refine g_iconst (pc := 71) hX d_Co_make_71 zc_3 ?_
  obtain ⟨o3, e3, h⟩ := zbind h
  refine g_cvI (pc := 72)  (st := [.int l4, .int ((3 : Int32)), .int l7, .ref ((q 3))]) (w' := (zwC c q x)) hX zk_Ta_get zs_Ta_get zL_Co_36 (c_Ta_get c (q 3) (q 4) 6 2304 x.2.1 l7 ((3 : Int32)) e3) rfl rfl rfl rfl (sp_Co_Ta_3 c q x) (sp_Co_Ta_3 c q x).symm 3 6 rfl rfl rfl d_Co_make_72 ?_
  refine g_mmax (pc := 75) hX zL_Co_50 rfl rfl d_Co_make_75 ?_
  obtain ⟨o4, e4, h⟩ := zbind h
  refine g_cvV (pc := 78)  (st := []) (w' := (zwC c q ((x.1, o4, x.2.2)))) hX zk_Ta_set zs_Ta_set zL_Co_47 (c_Ta_set c (q 3) (q 4) 6 2304 x.2.1 l7 ((3 : Int32)) ((zmax l4 o3)) e4) rfl rfl rfl rfl (sp_Co_Ta_3 c q x) (sq_Co_Ta_3 c q x o4) 3 6 rfl rfl rfl d_Co_make_78 ?_
  refine g_aload_n (pc := 81) hX d_Co_make_81 rfl 0 rfl ?_
  refine gf_Co_16 (pc := 82) (v := .ref ((q 3))) hX 2 rfl rfl d_Co_make_82 ?_
  refine g_iload (pc := 85) hX d_Co_make_85 6 rfl ?_
  refine g_iconst (pc := 87) hX d_Co_make_87 zc_4 ?_
  refine g_iload (pc := 88) hX d_Co_make_88 4 rfl ?_
  obtain ⟨o5, e5, h⟩ := zbind h
  refine g_cvV (pc := 90)  (st := []) (w' := (zwC c q ((x.1, o5, x.2.2)))) hX zk_Ta_set zs_Ta_set zL_Co_47 (c_Ta_set c (q 3) (q 4) 6 2304 o4 l7 ((4 : Int32)) l5 e5) rfl rfl rfl rfl (sp_Co_Ta_3 c q ((x.1, o4, x.2.2))) (sq_Co_Ta_3 c q ((x.1, o4, x.2.2)) o5) 3 6 rfl rfl rfl d_Co_make_90 ?_
  refine g_aload_n (pc := 93) hX d_Co_make_93 rfl 0 rfl ?_
  refine gf_Co_16 (pc := 94) (v := .ref ((q 3))) hX 2 rfl rfl d_Co_make_94 ?_
  refine g_iload (pc := 97) hX d_Co_make_97 6 rfl ?_
  refine g_iconst (pc := 99) hX d_Co_make_99 zc_5 ?_
  refine g_iload (pc := 100) hX d_Co_make_100 5 rfl ?_
  refine g_aload_n (pc := 102) hX d_Co_make_102 rfl 0 rfl ?_
  refine gf_Co_16 (pc := 103) (v := .ref ((q 3))) hX 2 rfl rfl d_Co_make_103 ?_
  refine g_iload (pc := 106) hX d_Co_make_106 6 rfl ?_
  refine g_iconst (pc := 108) hX d_Co_make_108 zc_5 ?_
  obtain ⟨o6, e6, h⟩ := zbind h
  refine g_cvI (pc := 109)  (st := [.int l6, .int ((5 : Int32)), .int l7, .ref ((q 3))]) (w' := (zwC c q ((x.1, o5, x.2.2)))) hX zk_Ta_get zs_Ta_get zL_Co_36 (c_Ta_get c (q 3) (q 4) 6 2304 o5 l7 ((5 : Int32)) e6) rfl rfl rfl rfl (sp_Co_Ta_3 c q ((x.1, o5, x.2.2))) (sp_Co_Ta_3 c q ((x.1, o5, x.2.2))).symm 3 6 rfl rfl rfl d_Co_make_109 ?_
  refine g_mmax (pc := 112) hX zL_Co_50 rfl rfl d_Co_make_112 ?_
  obtain ⟨o7, e7, h⟩ := zbind h
  refine g_cvV (pc := 115)  (st := []) (w' := (zwC c q ((x.1, o7, x.2.2)))) hX zk_Ta_set zs_Ta_set zL_Co_47 (c_Ta_set c (q 3) (q 4) 6 2304 o5 l7 ((5 : Int32)) ((zmax l6 o6)) e7) rfl rfl rfl rfl (sp_Co_Ta_3 c q ((x.1, o5, x.2.2))) (sq_Co_Ta_3 c q ((x.1, o5, x.2.2)) o7) 3 6 rfl rfl rfl d_Co_make_115 ?_
  refine g_aload_n (pc := 118) hX d_Co_make_118 rfl 0 rfl ?_
  refine gf_Co_24 (pc := 119) (v := .ref ((q 0))) hX 2 rfl rfl d_Co_make_119 ?_
  refine g_iconst (pc := 122) hX d_Co_make_122 zc_3 ?_
  refine g_iload_n (pc := 123) hX d_Co_make_123 rfl 2 rfl ?_
  refine g_iload_n (pc := 124) hX d_Co_make_124 rfl 1 rfl ?_
  obtain ⟨o8, e8, h⟩ := zbind h
  refine g_cvV (pc := 125)  (st := []) (w' := (zwC c q ((o8, o7, x.2.2)))) hX zk_Jo_write zs_Jo_write zL_Co_55 (c_Jo_write c q x.1 ((3 : Int32)) l2 l1 e8) rfl rfl rfl rfl (sp_Co_Jo_0 c q ((x.1, o7, x.2.2))) (sq_Co_Jo_0 c q ((x.1, o7, x.2.2)) o8) 0 4 rfl rfl rfl d_Co_make_125 ?_
  cases h
  exact g_vret (pc := 128) hX hR d_Co_make_128
def k_Co_make (x : zsC) (l1 : Int32) (l2 : Int32) (l3 : Int32) (l4 : Int32) (l5 : Int32) (l6 : Int32) : Option (zsC) := (k_Co_find x l1 l2 l3).bind fun o1 => (if o1 < 0 then (k_Ta_append 6 2304 x.2.1).bind fun o9 => (k_Ta_set 6 2304 o9.2 o9.1 ((0 : Int32)) l1).bind fun o10 => (k_Ta_set 6 2304 o10 o9.1 ((1 : Int32)) l2).bind fun o11 => (k_Ta_set 6 2304 o11 o9.1 ((2 : Int32)) l3).bind fun o12 => k_Co_make_56 l1 l2 l3 l4 l5 l6 o9.1 ((x.1, o12, x.2.2)) else k_Co_make_56 l1 l2 l3 l4 l5 l6 o1 x)
theorem c_Co_make (c : zY) (q : Nat → Nat) (x : zsC) (l1 : Int32) (l2 : Int32) (l3 : Int32) (l4 : Int32) (l5 : Int32) (l6 : Int32) {out : zsC} (h : k_Co_make x l1 l2 l3 l4 l5 l6 = some out) : KM zy_Co_make zb_Co_make 8 none 2 c [.ref ((q 2)), .int l1, .int l2, .int l3, .int l4, .int l5, .int l6] (zwC c q x) (zwC c q out) none := zK_of zp_Co rfl (Nat.le_of_ble_eq_true rfl) (zq_Co c q _ _) (fun X hX hR => by
  show Go X (zwC c q x) [(0, .ref ((q 2))), (1, .int l1), (2, .int l2), (3, .int l3), (4, .int l4), (5, .int l5), (6, .int l6)] 0 []
  rw [k_Co_make] at h
  refine g_aload_n (pc := 0) hX d_Co_make_0 rfl 0 rfl ?_
  refine g_iload_n (pc := 1) hX d_Co_make_1 rfl 1 rfl ?_
  refine g_iload_n (pc := 2) hX d_Co_make_2 rfl 2 rfl ?_
  refine g_iload_n (pc := 3) hX d_Co_make_3 rfl 3 rfl ?_
  obtain ⟨o1, e1, h⟩ := zbind h
  refine g_cvI (pc := 4) (w1 := []) (w2 := []) (st := []) (w' := (zwC c q x)) hX zk_Co_find zs_Co_find zL_Co_40 (c_Co_find c q x l1 l2 l3 e1) rfl rfl rfl rfl (zself _) (zself _).symm 2 1 rfl rfl rfl d_Co_make_4 ?_
  refine g_istore (pc := 7) (L' := [(7, .int o1), (0, .ref ((q 2))), (1, .int l1), (2, .int l2), (3, .int l3), (4, .int l4), (5, .int l5), (6, .int l6)]) hX d_Co_make_7 rfl rfl ?_
  refine g_iload (pc := 9) hX d_Co_make_9 0 rfl ?_
  refine g_if_ge (pc := 11) (tgt := 56) hX d_Co_make_11 (by decide) h (fun c2 h => ?_) (fun c2 h => ?_)
  · refine g_ls (L' := [(0, .ref ((q 2))), (1, .int l1), (2, .int l2), (4, .int l4), (5, .int l5), (6, .int l6), (7, .int o1)]) [1, 2, 3, 5, 6, 7, 0] rfl ?_
    exact w_Co_make_56 hX hR _ _ h
  · refine g_aload_n (pc := 14) hX d_Co_make_14 rfl 1 rfl ?_
    refine gf_Co_16 (pc := 15) (v := .ref ((q 3))) hX 2 rfl rfl d_Co_make_15 ?_
    obtain ⟨o9, e9, h⟩ := zbind h
    refine g_cvI (pc := 18)  (st := []) (w' := (zwC c q ((x.1, o9.2, x.2.2)))) hX zk_Ta_append zs_Ta_append zL_Co_44 (c_Ta_append c (q 3) (q 4) 6 2304 x.2.1 e9) rfl rfl rfl rfl (sp_Co_Ta_3 c q x) (sq_Co_Ta_3 c q x o9.2) 3 6 rfl rfl rfl d_Co_make_18 ?_
    refine g_istore (pc := 21) (L' := [(7, .int o9.1), (0, .ref ((q 2))), (1, .int l1), (2, .int l2), (3, .int l3), (4, .int l4), (5, .int l5), (6, .int l6)]) hX d_Co_make_21 rfl rfl ?_
    refine g_aload_n (pc := 23) hX d_Co_make_23 rfl 1 rfl ?_
    refine gf_Co_16 (pc := 24) (v := .ref ((q 3))) hX 2 rfl rfl d_Co_make_24 ?_
    refine g_iload (pc := 27) hX d_Co_make_27 0 rfl ?_
    refine g_iconst (pc := 29) hX d_Co_make_29 zc_0 ?_
    refine g_iload_n (pc := 30) hX d_Co_make_30 rfl 2 rfl ?_
    obtain ⟨o10, e10, h⟩ := zbind h
    refine g_cvV (pc := 31)  (st := []) (w' := (zwC c q ((x.1, o10, x.2.2)))) hX zk_Ta_set zs_Ta_set zL_Co_47 (c_Ta_set c (q 3) (q 4) 6 2304 o9.2 o9.1 ((0 : Int32)) l1 e10) rfl rfl rfl rfl (sp_Co_Ta_3 c q ((x.1, o9.2, x.2.2))) (sq_Co_Ta_3 c q ((x.1, o9.2, x.2.2)) o10) 3 6 rfl rfl rfl d_Co_make_31 ?_
    refine g_aload_n (pc := 34) hX d_Co_make_34 rfl 1 rfl ?_
    refine gf_Co_16 (pc := 35) (v := .ref ((q 3))) hX 2 rfl rfl d_Co_make_35 ?_
    refine g_iload (pc := 38) hX d_Co_make_38 0 rfl ?_
    refine g_iconst (pc := 40) hX d_Co_make_40 zc_1 ?_
    refine g_iload_n (pc := 41) hX d_Co_make_41 rfl 3 rfl ?_
    obtain ⟨o11, e11, h⟩ := zbind h
    refine g_cvV (pc := 42)  (st := []) (w' := (zwC c q ((x.1, o11, x.2.2)))) hX zk_Ta_set zs_Ta_set zL_Co_47 (c_Ta_set c (q 3) (q 4) 6 2304 o10 o9.1 ((1 : Int32)) l2 e11) rfl rfl rfl rfl (sp_Co_Ta_3 c q ((x.1, o10, x.2.2))) (sq_Co_Ta_3 c q ((x.1, o10, x.2.2)) o11) 3 6 rfl rfl rfl d_Co_make_42 ?_
    refine g_aload_n (pc := 45) hX d_Co_make_45 rfl 1 rfl ?_
    refine gf_Co_16 (pc := 46) (v := .ref ((q 3))) hX 2 rfl rfl d_Co_make_46 ?_
    refine g_iload (pc := 49) hX d_Co_make_49 0 rfl ?_
    refine g_iconst (pc := 51) hX d_Co_make_51 zc_2 ?_
    refine g_iload_n (pc := 52) hX d_Co_make_52 rfl 4 rfl ?_
    obtain ⟨o12, e12, h⟩ := zbind h
    refine g_cvV (pc := 53)  (st := []) (w' := (zwC c q ((x.1, o12, x.2.2)))) hX zk_Ta_set zs_Ta_set zL_Co_47 (c_Ta_set c (q 3) (q 4) 6 2304 o11 o9.1 ((2 : Int32)) l3 e12) rfl rfl rfl rfl (sp_Co_Ta_3 c q ((x.1, o11, x.2.2))) (sq_Co_Ta_3 c q ((x.1, o11, x.2.2)) o12) 3 6 rfl rfl rfl d_Co_make_53 ?_
    refine g_ls (L' := [(0, .ref ((q 2))), (1, .int l1), (2, .int l2), (4, .int l4), (5, .int l5), (6, .int l6), (7, .int o9.1)]) [1, 2, 3, 5, 6, 7, 0] rfl ?_
    exact w_Co_make_56 hX hR _ _ h)
theorem d_Co_sumOf_0 : decode zb_Co_sumOf 0 = .ok (.iconst 0, 1) := by decide +kernel
theorem d_Co_sumOf_1 : decode zb_Co_sumOf 1 = .ok (.istore_n 3, 1) := by decide +kernel
theorem d_Co_sumOf_2 : decode zb_Co_sumOf 2 = .ok (.iconst 0, 1) := by decide +kernel
theorem d_Co_sumOf_3 : decode zb_Co_sumOf 3 = .ok (.istore 4, 2) := by decide +kernel
theorem d_Co_sumOf_5 : decode zb_Co_sumOf 5 = .ok (.iload 4, 2) := by decide +kernel
theorem d_Co_sumOf_7 : decode zb_Co_sumOf 7 = .ok (.aload_n 0, 1) := by decide +kernel
theorem d_Co_sumOf_8 : decode zb_Co_sumOf 8 = .ok (.getfield 16, 3) := by decide +kernel
theorem d_Co_sumOf_11 : decode zb_Co_sumOf 11 = .ok (.invokevirtual 28, 3) := by decide +kernel
theorem d_Co_sumOf_14 : decode zb_Co_sumOf 14 = .ok (.if_icmp .ge 50, 3) := by decide +kernel
theorem d_Co_sumOf_17 : decode zb_Co_sumOf 17 = .ok (.aload_n 0, 1) := by decide +kernel
theorem d_Co_sumOf_18 : decode zb_Co_sumOf 18 = .ok (.getfield 16, 3) := by decide +kernel
theorem d_Co_sumOf_21 : decode zb_Co_sumOf 21 = .ok (.iload 4, 2) := by decide +kernel
theorem d_Co_sumOf_23 : decode zb_Co_sumOf 23 = .ok (.iconst 1, 1) := by decide +kernel
theorem d_Co_sumOf_24 : decode zb_Co_sumOf 24 = .ok (.invokevirtual 36, 3) := by decide +kernel
theorem d_Co_sumOf_27 : decode zb_Co_sumOf 27 = .ok (.iload_n 1, 1) := by decide +kernel
theorem d_Co_sumOf_28 : decode zb_Co_sumOf 28 = .ok (.if_icmp .ne 30, 3) := by decide +kernel
theorem d_Co_sumOf_31 : decode zb_Co_sumOf 31 = .ok (.aload_n 0, 1) := by decide +kernel
theorem d_Co_sumOf_32 : decode zb_Co_sumOf 32 = .ok (.getfield 16, 3) := by decide +kernel
theorem d_Co_sumOf_35 : decode zb_Co_sumOf 35 = .ok (.iload 4, 2) := by decide +kernel
theorem d_Co_sumOf_37 : decode zb_Co_sumOf 37 = .ok (.iconst 0, 1) := by decide +kernel
theorem d_Co_sumOf_38 : decode zb_Co_sumOf 38 = .ok (.invokevirtual 36, 3) := by decide +kernel
theorem d_Co_sumOf_41 : decode zb_Co_sumOf 41 = .ok (.iload_n 2, 1) := by decide +kernel
theorem d_Co_sumOf_42 : decode zb_Co_sumOf 42 = .ok (.if_icmp .ne 16, 3) := by decide +kernel
theorem d_Co_sumOf_45 : decode zb_Co_sumOf 45 = .ok (.iload_n 3, 1) := by decide +kernel
theorem d_Co_sumOf_46 : decode zb_Co_sumOf 46 = .ok (.aload_n 0, 1) := by decide +kernel
theorem d_Co_sumOf_47 : decode zb_Co_sumOf 47 = .ok (.getfield 16, 3) := by decide +kernel
theorem d_Co_sumOf_50 : decode zb_Co_sumOf 50 = .ok (.iload 4, 2) := by decide +kernel
theorem d_Co_sumOf_52 : decode zb_Co_sumOf 52 = .ok (.iconst 3, 1) := by decide +kernel
theorem d_Co_sumOf_53 : decode zb_Co_sumOf 53 = .ok (.invokevirtual 36, 3) := by decide +kernel
theorem d_Co_sumOf_56 : decode zb_Co_sumOf 56 = .ok (.iadd, 1) := by decide +kernel
theorem d_Co_sumOf_57 : decode zb_Co_sumOf 57 = .ok (.istore_n 3, 1) := by decide +kernel
theorem d_Co_sumOf_58 : decode zb_Co_sumOf 58 = .ok (.iinc 4 1, 3) := by decide +kernel
theorem d_Co_sumOf_61 : decode zb_Co_sumOf 61 = .ok (.goto (-56), 3) := by decide +kernel
theorem d_Co_sumOf_64 : decode zb_Co_sumOf 64 = .ok (.iload_n 3, 1) := by decide +kernel
theorem d_Co_sumOf_65 : decode zb_Co_sumOf 65 = .ok (.ireturn, 1) := by decide +kernel
def k_Co_sumOf_5 (x : zsC) (l1 : Int32) (l2 : Int32) : Nat → Int32 → Int32 → Option (Int32)
  | 0, _, _ => none
  | fu + 1, l3, l4 => (k_Ta_used 6 2304 x.2.1).bind fun o1 => (if l4 < o1 then (k_Ta_get 6 2304 x.2.1 l4 ((1 : Int32))).bind fun o3 => (if o3 = l1 then (k_Ta_get 6 2304 x.2.1 l4 ((0 : Int32))).bind fun o5 => (if o5 = l2 then (k_Ta_get 6 2304 x.2.1 l4 ((3 : Int32))).bind fun o7 => k_Co_sumOf_5 x l1 l2 fu ((l3 + o7)) ((l4 + (1 : Int32))) else k_Co_sumOf_5 x l1 l2 fu l3 ((l4 + (1 : Int32)))) else k_Co_sumOf_5 x l1 l2 fu l3 ((l4 + (1 : Int32)))) else some l3)
theorem w_Co_sumOf_5 {X : zX} {c : zY} {q : Nat → Nat} {x : zsC} {l1 : Int32} {l2 : Int32} {out : Int32} (hX : Ok X zr_Co zb_Co_sumOf 5 1 c) (hR : Rt X (some .int) (some (.int out)) (zwC c q x)) : ∀ (fu : Nat) (l3 : Int32) (l4 : Int32), k_Co_sumOf_5 x l1 l2 fu l3 l4 = some out → Go X (zwC c q x) [(0, .ref ((q 2))), (1, .int l1), (2, .int l2), (3, .int l3), (4, .int l4)] 5 [] := by
  intro fu
  induction fu with
  | zero => intro l3 l4 h; rw [k_Co_sumOf_5] at h; cases h
  | succ fu ih =>
    intro l3 l4 h
    rw [k_Co_sumOf_5] at h
    refine g_iload (pc := 5) hX d_Co_sumOf_5 4 rfl ?_
    refine g_aload_n (pc := 7) hX d_Co_sumOf_7 rfl 0 rfl ?_
    refine gf_Co_16 (pc := 8) (v := .ref ((q 3))) hX 2 rfl rfl d_Co_sumOf_8 ?_
    obtain ⟨o1, e1, h⟩ := zbind h
    refine g_cvI (pc := 11)  (st := [.int l4]) (w' := (zwC c q x)) hX zk_Ta_used zs_Ta_used zL_Co_28 (c_Ta_used c (q 3) (q 4) 6 2304 x.2.1 e1) rfl rfl rfl rfl (sp_Co_Ta_3 c q x) (sp_Co_Ta_3 c q x).symm 3 6 rfl rfl rfl d_Co_sumOf_11 ?_
    refine g_icmp_ge (pc := 14) (tgt := 64) hX d_Co_sumOf_14 (by decide) h (fun c2 h => ?_) (fun c2 h => ?_)
    · refine g_iload_n (pc := 64) hX d_Co_sumOf_64 rfl 3 rfl ?_
      cases h
      exact g_iret (pc := 65) hX hR d_Co_sumOf_65
    · refine g_aload_n (pc := 17) hX d_Co_sumOf_17 rfl 0 rfl ?_
      refine gf_Co_16 (pc := 18) (v := .ref ((q 3))) hX 2 rfl rfl d_Co_sumOf_18 ?_
      refine g_iload (pc := 21) hX d_Co_sumOf_21 4 rfl ?_
      refine g_iconst (pc := 23) hX d_Co_sumOf_23 zc_1 ?_
      obtain ⟨o3, e3, h⟩ := zbind h
      refine g_cvI (pc := 24)  (st := []) (w' := (zwC c q x)) hX zk_Ta_get zs_Ta_get zL_Co_36 (c_Ta_get c (q 3) (q 4) 6 2304 x.2.1 l4 ((1 : Int32)) e3) rfl rfl rfl rfl (sp_Co_Ta_3 c q x) (sp_Co_Ta_3 c q x).symm 3 6 rfl rfl rfl d_Co_sumOf_24 ?_
      refine g_iload_n (pc := 27) hX d_Co_sumOf_27 rfl 1 rfl ?_
      refine g_icmp_ne (pc := 28) (tgt := 58) hX d_Co_sumOf_28 (by decide) h (fun c4 h => ?_) (fun c4 h => ?_)
      · refine g_iinc (pc := 58) (q := 4) (L' := [(4, .int ((l4 + (1 : Int32)))), (0, .ref ((q 2))), (1, .int l1), (2, .int l2), (3, .int l3)]) hX d_Co_sumOf_58 rfl zc_1 rfl rfl ?_
        refine g_goto (pc := 61) (tgt := 5) hX d_Co_sumOf_61 (by decide) ?_
        refine g_ls (L' := [(0, .ref ((q 2))), (1, .int l1), (2, .int l2), (3, .int l3), (4, .int ((l4 + (1 : Int32))))]) [1, 2, 3, 4, 0] rfl ?_
        exact ih _ _ h
      · refine g_aload_n (pc := 31) hX d_Co_sumOf_31 rfl 0 rfl ?_
        refine gf_Co_16 (pc := 32) (v := .ref ((q 3))) hX 2 rfl rfl d_Co_sumOf_32 ?_
        refine g_iload (pc := 35) hX d_Co_sumOf_35 4 rfl ?_
        refine g_iconst (pc := 37) hX d_Co_sumOf_37 zc_0 ?_
        obtain ⟨o5, e5, h⟩ := zbind h
        refine g_cvI (pc := 38)  (st := []) (w' := (zwC c q x)) hX zk_Ta_get zs_Ta_get zL_Co_36 (c_Ta_get c (q 3) (q 4) 6 2304 x.2.1 l4 ((0 : Int32)) e5) rfl rfl rfl rfl (sp_Co_Ta_3 c q x) (sp_Co_Ta_3 c q x).symm 3 6 rfl rfl rfl d_Co_sumOf_38 ?_
        refine g_iload_n (pc := 41) hX d_Co_sumOf_41 rfl 2 rfl ?_
        refine g_icmp_ne (pc := 42) (tgt := 58) hX d_Co_sumOf_42 (by decide) h (fun c6 h => ?_) (fun c6 h => ?_)
        · refine g_iinc (pc := 58) (q := 4) (L' := [(4, .int ((l4 + (1 : Int32)))), (0, .ref ((q 2))), (1, .int l1), (2, .int l2), (3, .int l3)]) hX d_Co_sumOf_58 rfl zc_1 rfl rfl ?_
          refine g_goto (pc := 61) (tgt := 5) hX d_Co_sumOf_61 (by decide) ?_
          refine g_ls (L' := [(0, .ref ((q 2))), (1, .int l1), (2, .int l2), (3, .int l3), (4, .int ((l4 + (1 : Int32))))]) [1, 2, 3, 4, 0] rfl ?_
          exact ih _ _ h
        · refine g_iload_n (pc := 45) hX d_Co_sumOf_45 rfl 3 rfl ?_
          refine g_aload_n (pc := 46) hX d_Co_sumOf_46 rfl 0 rfl ?_
          refine gf_Co_16 (pc := 47) (v := .ref ((q 3))) hX 2 rfl rfl d_Co_sumOf_47 ?_
          refine g_iload (pc := 50) hX d_Co_sumOf_50 4 rfl ?_
          refine g_iconst (pc := 52) hX d_Co_sumOf_52 zc_3 ?_
          obtain ⟨o7, e7, h⟩ := zbind h
          refine g_cvI (pc := 53)  (st := [.int l3]) (w' := (zwC c q x)) hX zk_Ta_get zs_Ta_get zL_Co_36 (c_Ta_get c (q 3) (q 4) 6 2304 x.2.1 l4 ((3 : Int32)) e7) rfl rfl rfl rfl (sp_Co_Ta_3 c q x) (sp_Co_Ta_3 c q x).symm 3 6 rfl rfl rfl d_Co_sumOf_53 ?_
          refine g_iadd (pc := 56) hX d_Co_sumOf_56 ?_
          refine g_istore_n (pc := 57) (L' := [(3, .int ((l3 + o7))), (0, .ref ((q 2))), (1, .int l1), (2, .int l2), (4, .int l4)]) hX d_Co_sumOf_57 rfl rfl rfl ?_
          refine g_iinc (pc := 58) (q := 4) (L' := [(4, .int ((l4 + (1 : Int32)))), (3, .int ((l3 + o7))), (0, .ref ((q 2))), (1, .int l1), (2, .int l2)]) hX d_Co_sumOf_58 rfl zc_1 rfl rfl ?_
          refine g_goto (pc := 61) (tgt := 5) hX d_Co_sumOf_61 (by decide) ?_
          refine g_ls (L' := [(0, .ref ((q 2))), (1, .int l1), (2, .int l2), (3, .int ((l3 + o7))), (4, .int ((l4 + (1 : Int32))))]) [2, 3, 4, 1, 0] rfl ?_
          exact ih _ _ h
def k_Co_sumOf (x : zsC) (l1 : Int32) (l2 : Int32) : Option (Int32) := k_Co_sumOf_5 x l1 l2 zFu ((0 : Int32)) ((0 : Int32))
theorem c_Co_sumOf (c : zY) (q : Nat → Nat) (x : zsC) (l1 : Int32) (l2 : Int32) {out : Int32} (h : k_Co_sumOf x l1 l2 = some out) : KM zy_Co_sumOf zb_Co_sumOf 5 (some .int) 1 c [.ref ((q 2)), .int l1, .int l2] (zwC c q x) (zwC c q x) (some (.int out)) := zK_of zp_Co rfl (Nat.le_of_ble_eq_true rfl) (zq_Co c q _ _) (fun X hX hR => by
  show Go X (zwC c q x) [(0, .ref ((q 2))), (1, .int l1), (2, .int l2)] 0 []
  rw [k_Co_sumOf] at h
  refine g_iconst (pc := 0) hX d_Co_sumOf_0 zc_0 ?_
  refine g_istore_n (pc := 1) (L' := [(3, .int ((0 : Int32))), (0, .ref ((q 2))), (1, .int l1), (2, .int l2)]) hX d_Co_sumOf_1 rfl rfl rfl ?_
  refine g_iconst (pc := 2) hX d_Co_sumOf_2 zc_0 ?_
  refine g_istore (pc := 3) (L' := [(4, .int ((0 : Int32))), (3, .int ((0 : Int32))), (0, .ref ((q 2))), (1, .int l1), (2, .int l2)]) hX d_Co_sumOf_3 rfl rfl ?_
  refine g_ls (L' := [(0, .ref ((q 2))), (1, .int l1), (2, .int l2), (3, .int ((0 : Int32))), (4, .int ((0 : Int32)))]) [2, 3, 4, 1, 0] rfl ?_
  exact w_Co_sumOf_5 hX hR _ _ _ h)
theorem d_Co_numberOf_0 : decode zb_Co_numberOf 0 = .ok (.iconst 0, 1) := by decide +kernel
theorem d_Co_numberOf_1 : decode zb_Co_numberOf 1 = .ok (.istore_n 2, 1) := by decide +kernel
theorem d_Co_numberOf_2 : decode zb_Co_numberOf 2 = .ok (.iconst 0, 1) := by decide +kernel
theorem d_Co_numberOf_3 : decode zb_Co_numberOf 3 = .ok (.istore_n 3, 1) := by decide +kernel
theorem d_Co_numberOf_4 : decode zb_Co_numberOf 4 = .ok (.iload_n 3, 1) := by decide +kernel
theorem d_Co_numberOf_5 : decode zb_Co_numberOf 5 = .ok (.aload_n 0, 1) := by decide +kernel
theorem d_Co_numberOf_6 : decode zb_Co_numberOf 6 = .ok (.getfield 16, 3) := by decide +kernel
theorem d_Co_numberOf_9 : decode zb_Co_numberOf 9 = .ok (.invokevirtual 28, 3) := by decide +kernel
theorem d_Co_numberOf_12 : decode zb_Co_numberOf 12 = .ok (.if_icmp .ge 25, 3) := by decide +kernel
theorem d_Co_numberOf_15 : decode zb_Co_numberOf 15 = .ok (.aload_n 0, 1) := by decide +kernel
theorem d_Co_numberOf_16 : decode zb_Co_numberOf 16 = .ok (.getfield 16, 3) := by decide +kernel
theorem d_Co_numberOf_19 : decode zb_Co_numberOf 19 = .ok (.iload_n 3, 1) := by decide +kernel
theorem d_Co_numberOf_20 : decode zb_Co_numberOf 20 = .ok (.iconst 1, 1) := by decide +kernel
theorem d_Co_numberOf_21 : decode zb_Co_numberOf 21 = .ok (.invokevirtual 36, 3) := by decide +kernel
theorem d_Co_numberOf_24 : decode zb_Co_numberOf 24 = .ok (.iload_n 1, 1) := by decide +kernel
theorem d_Co_numberOf_25 : decode zb_Co_numberOf 25 = .ok (.if_icmp .ne 6, 3) := by decide +kernel
theorem d_Co_numberOf_28 : decode zb_Co_numberOf 28 = .ok (.iinc 2 1, 3) := by decide +kernel
theorem d_Co_numberOf_31 : decode zb_Co_numberOf 31 = .ok (.iinc 3 1, 3) := by decide +kernel
theorem d_Co_numberOf_34 : decode zb_Co_numberOf 34 = .ok (.goto (-30), 3) := by decide +kernel
theorem d_Co_numberOf_37 : decode zb_Co_numberOf 37 = .ok (.iload_n 2, 1) := by decide +kernel
theorem d_Co_numberOf_38 : decode zb_Co_numberOf 38 = .ok (.ireturn, 1) := by decide +kernel
def k_Co_numberOf_4 (x : zsC) (l1 : Int32) : Nat → Int32 → Int32 → Option (Int32)
  | 0, _, _ => none
  | fu + 1, l2, l3 => (k_Ta_used 6 2304 x.2.1).bind fun o1 => (if l3 < o1 then (k_Ta_get 6 2304 x.2.1 l3 ((1 : Int32))).bind fun o3 => (if o3 = l1 then k_Co_numberOf_4 x l1 fu ((l2 + (1 : Int32))) ((l3 + (1 : Int32))) else k_Co_numberOf_4 x l1 fu l2 ((l3 + (1 : Int32)))) else some l2)
theorem w_Co_numberOf_4 {X : zX} {c : zY} {q : Nat → Nat} {x : zsC} {l1 : Int32} {out : Int32} (hX : Ok X zr_Co zb_Co_numberOf 4 1 c) (hR : Rt X (some .int) (some (.int out)) (zwC c q x)) : ∀ (fu : Nat) (l2 : Int32) (l3 : Int32), k_Co_numberOf_4 x l1 fu l2 l3 = some out → Go X (zwC c q x) [(0, .ref ((q 2))), (1, .int l1), (2, .int l2), (3, .int l3)] 4 [] := by
  intro fu
  induction fu with
  | zero => intro l2 l3 h; rw [k_Co_numberOf_4] at h; cases h
  | succ fu ih =>
    intro l2 l3 h
    rw [k_Co_numberOf_4] at h
    refine g_iload_n (pc := 4) hX d_Co_numberOf_4 rfl 3 rfl ?_
    refine g_aload_n (pc := 5) hX d_Co_numberOf_5 rfl 0 rfl ?_
    refine gf_Co_16 (pc := 6) (v := .ref ((q 3))) hX 2 rfl rfl d_Co_numberOf_6 ?_
    obtain ⟨o1, e1, h⟩ := zbind h
    refine g_cvI (pc := 9)  (st := [.int l3]) (w' := (zwC c q x)) hX zk_Ta_used zs_Ta_used zL_Co_28 (c_Ta_used c (q 3) (q 4) 6 2304 x.2.1 e1) rfl rfl rfl rfl (sp_Co_Ta_3 c q x) (sp_Co_Ta_3 c q x).symm 3 6 rfl rfl rfl d_Co_numberOf_9 ?_
    refine g_icmp_ge (pc := 12) (tgt := 37) hX d_Co_numberOf_12 (by decide) h (fun c2 h => ?_) (fun c2 h => ?_)
    · refine g_iload_n (pc := 37) hX d_Co_numberOf_37 rfl 2 rfl ?_
      cases h
      exact g_iret (pc := 38) hX hR d_Co_numberOf_38
    · refine g_aload_n (pc := 15) hX d_Co_numberOf_15 rfl 0 rfl ?_
      refine gf_Co_16 (pc := 16) (v := .ref ((q 3))) hX 2 rfl rfl d_Co_numberOf_16 ?_
      refine g_iload_n (pc := 19) hX d_Co_numberOf_19 rfl 3 rfl ?_
      refine g_iconst (pc := 20) hX d_Co_numberOf_20 zc_1 ?_
      obtain ⟨o3, e3, h⟩ := zbind h
      refine g_cvI (pc := 21)  (st := []) (w' := (zwC c q x)) hX zk_Ta_get zs_Ta_get zL_Co_36 (c_Ta_get c (q 3) (q 4) 6 2304 x.2.1 l3 ((1 : Int32)) e3) rfl rfl rfl rfl (sp_Co_Ta_3 c q x) (sp_Co_Ta_3 c q x).symm 3 6 rfl rfl rfl d_Co_numberOf_21 ?_
      refine g_iload_n (pc := 24) hX d_Co_numberOf_24 rfl 1 rfl ?_
      refine g_icmp_ne (pc := 25) (tgt := 31) hX d_Co_numberOf_25 (by decide) h (fun c4 h => ?_) (fun c4 h => ?_)
      · refine g_iinc (pc := 31) (q := 3) (L' := [(3, .int ((l3 + (1 : Int32)))), (0, .ref ((q 2))), (1, .int l1), (2, .int l2)]) hX d_Co_numberOf_31 rfl zc_1 rfl rfl ?_
        refine g_goto (pc := 34) (tgt := 4) hX d_Co_numberOf_34 (by decide) ?_
        refine g_ls (L' := [(0, .ref ((q 2))), (1, .int l1), (2, .int l2), (3, .int ((l3 + (1 : Int32))))]) [1, 2, 3, 0] rfl ?_
        exact ih _ _ h
      · refine g_iinc (pc := 28) (q := 2) (L' := [(2, .int ((l2 + (1 : Int32)))), (0, .ref ((q 2))), (1, .int l1), (3, .int l3)]) hX d_Co_numberOf_28 rfl zc_1 rfl rfl ?_
        refine g_iinc (pc := 31) (q := 3) (L' := [(3, .int ((l3 + (1 : Int32)))), (2, .int ((l2 + (1 : Int32)))), (0, .ref ((q 2))), (1, .int l1)]) hX d_Co_numberOf_31 rfl zc_1 rfl rfl ?_
        refine g_goto (pc := 34) (tgt := 4) hX d_Co_numberOf_34 (by decide) ?_
        refine g_ls (L' := [(0, .ref ((q 2))), (1, .int l1), (2, .int ((l2 + (1 : Int32)))), (3, .int ((l3 + (1 : Int32))))]) [2, 3, 1, 0] rfl ?_
        exact ih _ _ h
def k_Co_numberOf (x : zsC) (l1 : Int32) : Option (Int32) := k_Co_numberOf_4 x l1 zFu ((0 : Int32)) ((0 : Int32))
theorem c_Co_numberOf (c : zY) (q : Nat → Nat) (x : zsC) (l1 : Int32) {out : Int32} (h : k_Co_numberOf x l1 = some out) : KM zy_Co_numberOf zb_Co_numberOf 4 (some .int) 1 c [.ref ((q 2)), .int l1] (zwC c q x) (zwC c q x) (some (.int out)) := zK_of zp_Co rfl (Nat.le_of_ble_eq_true rfl) (zq_Co c q _ _) (fun X hX hR => by
  show Go X (zwC c q x) [(0, .ref ((q 2))), (1, .int l1)] 0 []
  rw [k_Co_numberOf] at h
  refine g_iconst (pc := 0) hX d_Co_numberOf_0 zc_0 ?_
  refine g_istore_n (pc := 1) (L' := [(2, .int ((0 : Int32))), (0, .ref ((q 2))), (1, .int l1)]) hX d_Co_numberOf_1 rfl rfl rfl ?_
  refine g_iconst (pc := 2) hX d_Co_numberOf_2 zc_0 ?_
  refine g_istore_n (pc := 3) (L' := [(3, .int ((0 : Int32))), (2, .int ((0 : Int32))), (0, .ref ((q 2))), (1, .int l1)]) hX d_Co_numberOf_3 rfl rfl rfl ?_
  refine g_ls (L' := [(0, .ref ((q 2))), (1, .int l1), (2, .int ((0 : Int32))), (3, .int ((0 : Int32)))]) [2, 3, 1, 0] rfl ?_
  exact w_Co_numberOf_4 hX hR _ _ _ h)
theorem d_Co_listPoisoners_0 : decode zb_Co_listPoisoners 0 = .ok (.iconst 0, 1) := by decide +kernel
theorem d_Co_listPoisoners_1 : decode zb_Co_listPoisoners 1 = .ok (.istore_n 2, 1) := by decide +kernel
theorem d_Co_listPoisoners_2 : decode zb_Co_listPoisoners 2 = .ok (.iconst 0, 1) := by decide +kernel
theorem d_Co_listPoisoners_3 : decode zb_Co_listPoisoners 3 = .ok (.istore_n 3, 1) := by decide +kernel
theorem d_Co_listPoisoners_4 : decode zb_Co_listPoisoners 4 = .ok (.iload_n 3, 1) := by decide +kernel
theorem d_Co_listPoisoners_5 : decode zb_Co_listPoisoners 5 = .ok (.aload_n 0, 1) := by decide +kernel
theorem d_Co_listPoisoners_6 : decode zb_Co_listPoisoners 6 = .ok (.getfield 16, 3) := by decide +kernel
theorem d_Co_listPoisoners_9 : decode zb_Co_listPoisoners 9 = .ok (.invokevirtual 28, 3) := by decide +kernel
theorem d_Co_listPoisoners_12 : decode zb_Co_listPoisoners 12 = .ok (.if_icmp .ge 73, 3) := by decide +kernel
theorem d_Co_listPoisoners_15 : decode zb_Co_listPoisoners 15 = .ok (.aload_n 0, 1) := by decide +kernel
theorem d_Co_listPoisoners_16 : decode zb_Co_listPoisoners 16 = .ok (.getfield 16, 3) := by decide +kernel
theorem d_Co_listPoisoners_19 : decode zb_Co_listPoisoners 19 = .ok (.iload_n 3, 1) := by decide +kernel
theorem d_Co_listPoisoners_20 : decode zb_Co_listPoisoners 20 = .ok (.iconst 0, 1) := by decide +kernel
theorem d_Co_listPoisoners_21 : decode zb_Co_listPoisoners 21 = .ok (.invokevirtual 36, 3) := by decide +kernel
theorem d_Co_listPoisoners_24 : decode zb_Co_listPoisoners 24 = .ok (.ifCond .ne 20, 3) := by decide +kernel
theorem d_Co_listPoisoners_27 : decode zb_Co_listPoisoners 27 = .ok (.aload_n 0, 1) := by decide +kernel
theorem d_Co_listPoisoners_28 : decode zb_Co_listPoisoners 28 = .ok (.getfield 16, 3) := by decide +kernel
theorem d_Co_listPoisoners_31 : decode zb_Co_listPoisoners 31 = .ok (.iload_n 3, 1) := by decide +kernel
theorem d_Co_listPoisoners_32 : decode zb_Co_listPoisoners 32 = .ok (.iconst 1, 1) := by decide +kernel
theorem d_Co_listPoisoners_33 : decode zb_Co_listPoisoners 33 = .ok (.invokevirtual 36, 3) := by decide +kernel
theorem d_Co_listPoisoners_36 : decode zb_Co_listPoisoners 36 = .ok (.iload_n 1, 1) := by decide +kernel
theorem d_Co_listPoisoners_37 : decode zb_Co_listPoisoners 37 = .ok (.if_icmp .ne 7, 3) := by decide +kernel
theorem d_Co_listPoisoners_40 : decode zb_Co_listPoisoners 40 = .ok (.iconst 1, 1) := by decide +kernel
theorem d_Co_listPoisoners_41 : decode zb_Co_listPoisoners 41 = .ok (.goto 4, 3) := by decide +kernel
theorem d_Co_listPoisoners_44 : decode zb_Co_listPoisoners 44 = .ok (.iconst 0, 1) := by decide +kernel
theorem d_Co_listPoisoners_45 : decode zb_Co_listPoisoners 45 = .ok (.istore 4, 2) := by decide +kernel
theorem d_Co_listPoisoners_47 : decode zb_Co_listPoisoners 47 = .ok (.iload 4, 2) := by decide +kernel
theorem d_Co_listPoisoners_49 : decode zb_Co_listPoisoners 49 = .ok (.ifCond .eq 30, 3) := by decide +kernel
theorem d_Co_listPoisoners_52 : decode zb_Co_listPoisoners 52 = .ok (.iload_n 2, 1) := by decide +kernel
theorem d_Co_listPoisoners_53 : decode zb_Co_listPoisoners 53 = .ok (.aload_n 0, 1) := by decide +kernel
theorem d_Co_listPoisoners_54 : decode zb_Co_listPoisoners 54 = .ok (.getfield 20, 3) := by decide +kernel
theorem d_Co_listPoisoners_57 : decode zb_Co_listPoisoners 57 = .ok (.arraylength, 1) := by decide +kernel
theorem d_Co_listPoisoners_58 : decode zb_Co_listPoisoners 58 = .ok (.if_icmp .ge 21, 3) := by decide +kernel
theorem d_Co_listPoisoners_61 : decode zb_Co_listPoisoners 61 = .ok (.aload_n 0, 1) := by decide +kernel
theorem d_Co_listPoisoners_62 : decode zb_Co_listPoisoners 62 = .ok (.getfield 20, 3) := by decide +kernel
theorem d_Co_listPoisoners_65 : decode zb_Co_listPoisoners 65 = .ok (.iload_n 2, 1) := by decide +kernel
theorem d_Co_listPoisoners_66 : decode zb_Co_listPoisoners 66 = .ok (.aload_n 0, 1) := by decide +kernel
theorem d_Co_listPoisoners_67 : decode zb_Co_listPoisoners 67 = .ok (.getfield 16, 3) := by decide +kernel
theorem d_Co_listPoisoners_70 : decode zb_Co_listPoisoners 70 = .ok (.iload_n 3, 1) := by decide +kernel
theorem d_Co_listPoisoners_71 : decode zb_Co_listPoisoners 71 = .ok (.iconst 2, 1) := by decide +kernel
theorem d_Co_listPoisoners_72 : decode zb_Co_listPoisoners 72 = .ok (.invokevirtual 36, 3) := by decide +kernel
theorem d_Co_listPoisoners_75 : decode zb_Co_listPoisoners 75 = .ok (.iastore, 1) := by decide +kernel
theorem d_Co_listPoisoners_76 : decode zb_Co_listPoisoners 76 = .ok (.iinc 2 1, 3) := by decide +kernel
theorem d_Co_listPoisoners_79 : decode zb_Co_listPoisoners 79 = .ok (.iinc 3 1, 3) := by decide +kernel
theorem d_Co_listPoisoners_82 : decode zb_Co_listPoisoners 82 = .ok (.goto (-78), 3) := by decide +kernel
theorem d_Co_listPoisoners_85 : decode zb_Co_listPoisoners 85 = .ok (.iload_n 2, 1) := by decide +kernel
theorem d_Co_listPoisoners_86 : decode zb_Co_listPoisoners 86 = .ok (.ireturn, 1) := by decide +kernel
def k_Co_listPoisoners_45 (l1 : Int32) (kf_4 : Int32 → Int32 → zsC → Option (Int32 × zsC)) (l2 : Int32) (l3 : Int32) (s0 : Int32) (x : zsC) : Option (Int32 × zsC) := (if s0 = 0 then kf_4 l2 ((l3 + (1 : Int32))) x else (if l2 < (8 : Int32) then (k_Ta_get 6 2304 x.2.1 l3 ((2 : Int32))).bind fun o7 => (if zOut l2 8 then none else kf_4 ((l2 + (1 : Int32))) ((l3 + (1 : Int32))) ((x.1, x.2.1, (upd x.2.2 l2.toNatClampNeg o7)))) else kf_4 l2 ((l3 + (1 : Int32))) x))
theorem w_Co_listPoisoners_45 {X : zX} {c : zY} {q : Nat → Nat} {l1 : Int32} {out : Int32 × zsC} {kf_4 : Int32 → Int32 → zsC → Option (Int32 × zsC)} (hX : Ok X zr_Co zb_Co_listPoisoners 5 1 c) (hR : Rt X (some .int) (some (.int out.1)) (zwC c q out.2)) (hk_4 : ∀ (l2 : Int32) (l3 : Int32) (x : zsC), kf_4 l2 l3 x = some out → Go X (zwC c q x) [(0, .ref ((q 2))), (1, .int l1), (2, .int l2), (3, .int l3)] 4 []) : ∀ (l2 : Int32) (l3 : Int32) (s0 : Int32) (x : zsC), k_Co_listPoisoners_45 l1 kf_4 l2 l3 s0 x = some out → Go X (zwC c q x) [(0, .ref ((q 2))), (1, .int l1), (2, .int l2), (3, .int l3)] 45 [.int s0] := by
  intro l2 l3 s0 x h
  rw [k_Co_listPoisoners_45] at h
  refine g_istore (pc := 45) (L' := [(4, .int s0), (0, .ref ((q 2))), (1, .int l1), (2, .int l2), (3, .int l3)]) hX d_Co_listPoisoners_45 rfl rfl ?_
  refine g_iload (pc := 47) hX d_Co_listPoisoners_47 0 rfl ?_
  refine g_if_eq (pc := 49) (tgt := 79) hX d_Co_listPoisoners_49 (by decide) h (fun c5 h => ?_) (fun c5 h => ?_)
  · refine g_iinc (pc := 79) (q := 4) (L' := [(3, .int ((l3 + (1 : Int32)))), (4, .int s0), (0, .ref ((q 2))), (1, .int l1), (2, .int l2)]) hX d_Co_listPoisoners_79 rfl zc_1 rfl rfl ?_
    refine g_goto (pc := 82) (tgt := 4) hX d_Co_listPoisoners_82 (by decide) ?_
    refine g_ls (L' := [(0, .ref ((q 2))), (1, .int l1), (2, .int l2), (3, .int ((l3 + (1 : Int32))))]) [2, 3, 4, 0] rfl ?_
    exact hk_4 _ _ _ h
  · refine g_iload_n (pc := 52) hX d_Co_listPoisoners_52 rfl 3 rfl ?_
    refine g_aload_n (pc := 53) hX d_Co_listPoisoners_53 rfl 1 rfl ?_
    refine gf_Co_20 (pc := 54) (v := .ref ((q 5))) hX 2 rfl rfl d_Co_listPoisoners_54 ?_
    refine g_alen (pc := 57) (v := (8 : Int32)) hX 5 rfl rfl d_Co_listPoisoners_57 ?_
    refine g_icmp_ge (pc := 58) (tgt := 79) hX d_Co_listPoisoners_58 (by decide) h (fun c6 h => ?_) (fun c6 h => ?_)
    · refine g_iinc (pc := 79) (q := 4) (L' := [(3, .int ((l3 + (1 : Int32)))), (4, .int s0), (0, .ref ((q 2))), (1, .int l1), (2, .int l2)]) hX d_Co_listPoisoners_79 rfl zc_1 rfl rfl ?_
      refine g_goto (pc := 82) (tgt := 4) hX d_Co_listPoisoners_82 (by decide) ?_
      refine g_ls (L' := [(0, .ref ((q 2))), (1, .int l1), (2, .int l2), (3, .int ((l3 + (1 : Int32))))]) [2, 3, 4, 0] rfl ?_
      exact hk_4 _ _ _ h
    · refine g_aload_n (pc := 61) hX d_Co_listPoisoners_61 rfl 1 rfl ?_
      refine gf_Co_20 (pc := 62) (v := .ref ((q 5))) hX 2 rfl rfl d_Co_listPoisoners_62 ?_
      refine g_iload_n (pc := 65) hX d_Co_listPoisoners_65 rfl 3 rfl ?_
      refine g_aload_n (pc := 66) hX d_Co_listPoisoners_66 rfl 1 rfl ?_
      refine gf_Co_16 (pc := 67) (v := .ref ((q 3))) hX 2 rfl rfl d_Co_listPoisoners_67 ?_
      refine g_iload_n (pc := 70) hX d_Co_listPoisoners_70 rfl 4 rfl ?_
      refine g_iconst (pc := 71) hX d_Co_listPoisoners_71 zc_2 ?_
      obtain ⟨o7, e7, h⟩ := zbind h
      refine g_cvI (pc := 72)  (st := [.int l2, .ref ((q 5))]) (w' := (zwC c q x)) hX zk_Ta_get zs_Ta_get zL_Co_36 (c_Ta_get c (q 3) (q 4) 6 2304 x.2.1 l3 ((2 : Int32)) e7) rfl rfl rfl rfl (sp_Co_Ta_3 c q x) (sp_Co_Ta_3 c q x).symm 3 6 rfl rfl rfl d_Co_listPoisoners_72 ?_
      refine g_iast (pc := 75) (f := x.2.2) (w' := (zwC c q ((x.1, x.2.1, (upd x.2.2 l2.toNatClampNeg o7))))) hX 5 rfl h (sa_Co_5 c q x (upd x.2.2 l2.toNatClampNeg o7)) d_Co_listPoisoners_75 (fun h => ?_)
      refine g_iinc (pc := 76) (q := 3) (L' := [(2, .int ((l2 + (1 : Int32)))), (4, .int s0), (0, .ref ((q 2))), (1, .int l1), (3, .int l3)]) hX d_Co_listPoisoners_76 rfl zc_1 rfl rfl ?_
      refine g_iinc (pc := 79) (q := 4) (L' := [(3, .int ((l3 + (1 : Int32)))), (2, .int ((l2 + (1 : Int32)))), (4, .int s0), (0, .ref ((q 2))), (1, .int l1)]) hX d_Co_listPoisoners_79 rfl zc_1 rfl rfl ?_
      refine g_goto (pc := 82) (tgt := 4) hX d_Co_listPoisoners_82 (by decide) ?_
      refine g_ls (L' := [(0, .ref ((q 2))), (1, .int l1), (2, .int ((l2 + (1 : Int32)))), (3, .int ((l3 + (1 : Int32))))]) [3, 4, 1, 0] rfl ?_
      exact hk_4 _ _ _ h
def k_Co_listPoisoners_44 (l1 : Int32) (kf_4 : Int32 → Int32 → zsC → Option (Int32 × zsC)) (l2 : Int32) (l3 : Int32) (x : zsC) : Option (Int32 × zsC) := k_Co_listPoisoners_45 l1 kf_4 l2 l3 ((0 : Int32)) x
theorem w_Co_listPoisoners_44 {X : zX} {c : zY} {q : Nat → Nat} {l1 : Int32} {out : Int32 × zsC} {kf_4 : Int32 → Int32 → zsC → Option (Int32 × zsC)} (hX : Ok X zr_Co zb_Co_listPoisoners 5 1 c) (hR : Rt X (some .int) (some (.int out.1)) (zwC c q out.2)) (hk_4 : ∀ (l2 : Int32) (l3 : Int32) (x : zsC), kf_4 l2 l3 x = some out → Go X (zwC c q x) [(0, .ref ((q 2))), (1, .int l1), (2, .int l2), (3, .int l3)] 4 []) : ∀ (l2 : Int32) (l3 : Int32) (x : zsC), k_Co_listPoisoners_44 l1 kf_4 l2 l3 x = some out → Go X (zwC c q x) [(0, .ref ((q 2))), (1, .int l1), (2, .int l2), (3, .int l3)] 44 [] := by
  intro l2 l3 x h
  rw [k_Co_listPoisoners_44] at h
  refine g_iconst (pc := 44) hX d_Co_listPoisoners_44 zc_0 ?_
  exact w_Co_listPoisoners_45 hX hR hk_4 _ _ _ _ h
def k_Co_listPoisoners_4 (l1 : Int32) : Nat → Int32 → Int32 → zsC → Option (Int32 × zsC)
  | 0, _, _, _ => none
  | fu + 1, l2, l3, x => (k_Ta_used 6 2304 x.2.1).bind fun o1 => (if l3 < o1 then (k_Ta_get 6 2304 x.2.1 l3 ((0 : Int32))).bind fun o3 => (if o3 = 0 then (k_Ta_get 6 2304 x.2.1 l3 ((1 : Int32))).bind fun o8 => (if o8 = l1 then k_Co_listPoisoners_45 l1 (k_Co_listPoisoners_4 l1 fu) l2 l3 ((1 : Int32)) x else k_Co_listPoisoners_44 l1 (k_Co_listPoisoners_4 l1 fu) l2 l3 x) else k_Co_listPoisoners_44 l1 (k_Co_listPoisoners_4 l1 fu) l2 l3 x) else some (l2, x))
theorem w_Co_listPoisoners_4 {X : zX} {c : zY} {q : Nat → Nat} {l1 : Int32} {out : Int32 × zsC} (hX : Ok X zr_Co zb_Co_listPoisoners 5 1 c) (hR : Rt X (some .int) (some (.int out.1)) (zwC c q out.2)) : ∀ (fu : Nat) (l2 : Int32) (l3 : Int32) (x : zsC), k_Co_listPoisoners_4 l1 fu l2 l3 x = some out → Go X (zwC c q x) [(0, .ref ((q 2))), (1, .int l1), (2, .int l2), (3, .int l3)] 4 [] := by
  intro fu
  induction fu with
  | zero => intro l2 l3 x h; rw [k_Co_listPoisoners_4] at h; cases h
  | succ fu ih =>
    intro l2 l3 x h
    rw [k_Co_listPoisoners_4] at h
    refine g_iload_n (pc := 4) hX d_Co_listPoisoners_4 rfl 3 rfl ?_
    refine g_aload_n (pc := 5) hX d_Co_listPoisoners_5 rfl 0 rfl ?_
    refine gf_Co_16 (pc := 6) (v := .ref ((q 3))) hX 2 rfl rfl d_Co_listPoisoners_6 ?_
    obtain ⟨o1, e1, h⟩ := zbind h
    refine g_cvI (pc := 9)  (st := [.int l3]) (w' := (zwC c q x)) hX zk_Ta_used zs_Ta_used zL_Co_28 (c_Ta_used c (q 3) (q 4) 6 2304 x.2.1 e1) rfl rfl rfl rfl (sp_Co_Ta_3 c q x) (sp_Co_Ta_3 c q x).symm 3 6 rfl rfl rfl d_Co_listPoisoners_9 ?_
    refine g_icmp_ge (pc := 12) (tgt := 85) hX d_Co_listPoisoners_12 (by decide) h (fun c2 h => ?_) (fun c2 h => ?_)
    · refine g_iload_n (pc := 85) hX d_Co_listPoisoners_85 rfl 2 rfl ?_
      cases h
      exact g_iret (pc := 86) hX hR d_Co_listPoisoners_86
    · refine g_aload_n (pc := 15) hX d_Co_listPoisoners_15 rfl 0 rfl ?_
      refine gf_Co_16 (pc := 16) (v := .ref ((q 3))) hX 2 rfl rfl d_Co_listPoisoners_16 ?_
      refine g_iload_n (pc := 19) hX d_Co_listPoisoners_19 rfl 3 rfl ?_
      refine g_iconst (pc := 20) hX d_Co_listPoisoners_20 zc_0 ?_
      obtain ⟨o3, e3, h⟩ := zbind h
      refine g_cvI (pc := 21)  (st := []) (w' := (zwC c q x)) hX zk_Ta_get zs_Ta_get zL_Co_36 (c_Ta_get c (q 3) (q 4) 6 2304 x.2.1 l3 ((0 : Int32)) e3) rfl rfl rfl rfl (sp_Co_Ta_3 c q x) (sp_Co_Ta_3 c q x).symm 3 6 rfl rfl rfl d_Co_listPoisoners_21 ?_
      refine g_if_ne (pc := 24) (tgt := 44) hX d_Co_listPoisoners_24 (by decide) h (fun c4 h => ?_) (fun c4 h => ?_)
      · exact w_Co_listPoisoners_44 hX hR ih _ _ _ h
      · refine g_aload_n (pc := 27) hX d_Co_listPoisoners_27 rfl 0 rfl ?_
        refine gf_Co_16 (pc := 28) (v := .ref ((q 3))) hX 2 rfl rfl d_Co_listPoisoners_28 ?_
        refine g_iload_n (pc := 31) hX d_Co_listPoisoners_31 rfl 3 rfl ?_
        refine g_iconst (pc := 32) hX d_Co_listPoisoners_32 zc_1 ?_
        obtain ⟨o8, e8, h⟩ := zbind h
        refine g_cvI (pc := 33)  (st := []) (w' := (zwC c q x)) hX zk_Ta_get zs_Ta_get zL_Co_36 (c_Ta_get c (q 3) (q 4) 6 2304 x.2.1 l3 ((1 : Int32)) e8) rfl rfl rfl rfl (sp_Co_Ta_3 c q x) (sp_Co_Ta_3 c q x).symm 3 6 rfl rfl rfl d_Co_listPoisoners_33 ?_
        refine g_iload_n (pc := 36) hX d_Co_listPoisoners_36 rfl 1 rfl ?_
        refine g_icmp_ne (pc := 37) (tgt := 44) hX d_Co_listPoisoners_37 (by decide) h (fun c9 h => ?_) (fun c9 h => ?_)
        · exact w_Co_listPoisoners_44 hX hR ih _ _ _ h
        · refine g_iconst (pc := 40) hX d_Co_listPoisoners_40 zc_1 ?_
          refine g_goto (pc := 41) (tgt := 45) hX d_Co_listPoisoners_41 (by decide) ?_
          exact w_Co_listPoisoners_45 hX hR ih _ _ _ _ h
def k_Co_listPoisoners (x : zsC) (l1 : Int32) : Option (Int32 × zsC) := k_Co_listPoisoners_4 l1 zFu ((0 : Int32)) ((0 : Int32)) x
theorem c_Co_listPoisoners (c : zY) (q : Nat → Nat) (x : zsC) (l1 : Int32) {out : Int32 × zsC} (h : k_Co_listPoisoners x l1 = some out) : KM zy_Co_listPoisoners zb_Co_listPoisoners 5 (some .int) 1 c [.ref ((q 2)), .int l1] (zwC c q x) (zwC c q out.2) (some (.int out.1)) := zK_of zp_Co rfl (Nat.le_of_ble_eq_true rfl) (zq_Co c q _ _) (fun X hX hR => by
  show Go X (zwC c q x) [(0, .ref ((q 2))), (1, .int l1)] 0 []
  rw [k_Co_listPoisoners] at h
  refine g_iconst (pc := 0) hX d_Co_listPoisoners_0 zc_0 ?_
  refine g_istore_n (pc := 1) (L' := [(2, .int ((0 : Int32))), (0, .ref ((q 2))), (1, .int l1)]) hX d_Co_listPoisoners_1 rfl rfl rfl ?_
  refine g_iconst (pc := 2) hX d_Co_listPoisoners_2 zc_0 ?_
  refine g_istore_n (pc := 3) (L' := [(3, .int ((0 : Int32))), (2, .int ((0 : Int32))), (0, .ref ((q 2))), (1, .int l1)]) hX d_Co_listPoisoners_3 rfl rfl rfl ?_
  refine g_ls (L' := [(0, .ref ((q 2))), (1, .int l1), (2, .int ((0 : Int32))), (3, .int ((0 : Int32)))]) [2, 3, 1, 0] rfl ?_
  exact w_Co_listPoisoners_4 hX hR _ _ _ _ h)
theorem d_Co_poisonBy_0 : decode zb_Co_poisonBy 0 = .ok (.iload_n 1, 1) := by decide +kernel
theorem d_Co_poisonBy_1 : decode zb_Co_poisonBy 1 = .ok (.ifCond .lt 16, 3) := by decide +kernel
theorem d_Co_poisonBy_4 : decode zb_Co_poisonBy 4 = .ok (.iload_n 1, 1) := by decide +kernel
theorem d_Co_poisonBy_5 : decode zb_Co_poisonBy 5 = .ok (.aload_n 0, 1) := by decide +kernel
theorem d_Co_poisonBy_6 : decode zb_Co_poisonBy 6 = .ok (.getfield 20, 3) := by decide +kernel
theorem d_Co_poisonBy_9 : decode zb_Co_poisonBy 9 = .ok (.arraylength, 1) := by decide +kernel
theorem d_Co_poisonBy_10 : decode zb_Co_poisonBy 10 = .ok (.if_icmp .ge 7, 3) := by decide +kernel
theorem d_Co_poisonBy_13 : decode zb_Co_poisonBy 13 = .ok (.iconst 1, 1) := by decide +kernel
theorem d_Co_poisonBy_14 : decode zb_Co_poisonBy 14 = .ok (.goto 4, 3) := by decide +kernel
theorem d_Co_poisonBy_17 : decode zb_Co_poisonBy 17 = .ok (.iconst 0, 1) := by decide +kernel
theorem d_Co_poisonBy_18 : decode zb_Co_poisonBy 18 = .ok (.istore_n 3, 1) := by decide +kernel
theorem d_Co_poisonBy_19 : decode zb_Co_poisonBy 19 = .ok (.iload_n 3, 1) := by decide +kernel
theorem d_Co_poisonBy_20 : decode zb_Co_poisonBy 20 = .ok (.ifCond .eq 26, 3) := by decide +kernel
theorem d_Co_poisonBy_23 : decode zb_Co_poisonBy 23 = .ok (.aload_n 0, 1) := by decide +kernel
theorem d_Co_poisonBy_24 : decode zb_Co_poisonBy 24 = .ok (.getfield 16, 3) := by decide +kernel
theorem d_Co_poisonBy_27 : decode zb_Co_poisonBy 27 = .ok (.aload_n 0, 1) := by decide +kernel
theorem d_Co_poisonBy_28 : decode zb_Co_poisonBy 28 = .ok (.iconst 0, 1) := by decide +kernel
theorem d_Co_poisonBy_29 : decode zb_Co_poisonBy 29 = .ok (.iload_n 2, 1) := by decide +kernel
theorem d_Co_poisonBy_30 : decode zb_Co_poisonBy 30 = .ok (.aload_n 0, 1) := by decide +kernel
theorem d_Co_poisonBy_31 : decode zb_Co_poisonBy 31 = .ok (.getfield 20, 3) := by decide +kernel
theorem d_Co_poisonBy_34 : decode zb_Co_poisonBy 34 = .ok (.iload_n 1, 1) := by decide +kernel
theorem d_Co_poisonBy_35 : decode zb_Co_poisonBy 35 = .ok (.iaload, 1) := by decide +kernel
theorem d_Co_poisonBy_36 : decode zb_Co_poisonBy 36 = .ok (.invokevirtual 40, 3) := by decide +kernel
theorem d_Co_poisonBy_39 : decode zb_Co_poisonBy 39 = .ok (.iconst 3, 1) := by decide +kernel
theorem d_Co_poisonBy_40 : decode zb_Co_poisonBy 40 = .ok (.invokevirtual 36, 3) := by decide +kernel
theorem d_Co_poisonBy_43 : decode zb_Co_poisonBy 43 = .ok (.goto 4, 3) := by decide +kernel
theorem d_Co_poisonBy_46 : decode zb_Co_poisonBy 46 = .ok (.iconst 0, 1) := by decide +kernel
theorem d_Co_poisonBy_47 : decode zb_Co_poisonBy 47 = .ok (.ireturn, 1) := by decide +kernel
def k_Co_poisonBy_18 (x : zsC) (l1 : Int32) (l2 : Int32) (s0 : Int32) : Option (Int32) := (if s0 = 0 then some ((0 : Int32)) else (if zOut l1 8 then none else (k_Co_find x ((0 : Int32)) l2 ((x.2.2 l1.toNatClampNeg))).bind fun o3 => (k_Ta_get 6 2304 x.2.1 o3 ((3 : Int32))).bind fun o4 => some o4))
theorem w_Co_poisonBy_18 {X : zX} {c : zY} {q : Nat → Nat} {x : zsC} {l1 : Int32} {l2 : Int32} {out : Int32} (hX : Ok X zr_Co zb_Co_poisonBy 4 2 c) (hR : Rt X (some .int) (some (.int out)) (zwC c q x)) : ∀ (s0 : Int32), k_Co_poisonBy_18 x l1 l2 s0 = some out → Go X (zwC c q x) [(0, .ref ((q 2))), (1, .int l1), (2, .int l2)] 18 [.int s0] := by
  intro s0 h
  rw [k_Co_poisonBy_18] at h
  refine g_istore_n (pc := 18) (L' := [(3, .int s0), (0, .ref ((q 2))), (1, .int l1), (2, .int l2)]) hX d_Co_poisonBy_18 rfl rfl rfl ?_
  refine g_iload_n (pc := 19) hX d_Co_poisonBy_19 rfl 0 rfl ?_
  refine g_if_eq (pc := 20) (tgt := 46) hX d_Co_poisonBy_20 (by decide) h (fun c2 h => ?_) (fun c2 h => ?_)
  · refine g_iconst (pc := 46) hX d_Co_poisonBy_46 zc_0 ?_
    cases h
    exact g_iret (pc := 47) hX hR d_Co_poisonBy_47
  · refine g_aload_n (pc := 23) hX d_Co_poisonBy_23 rfl 1 rfl ?_
    refine gf_Co_16 (pc := 24) (v := .ref ((q 3))) hX 2 rfl rfl d_Co_poisonBy_24 ?_
    refine g_aload_n (pc := 27) hX d_Co_poisonBy_27 rfl 1 rfl ?_
    refine g_iconst (pc := 28) hX d_Co_poisonBy_28 zc_0 ?_
    refine g_iload_n (pc := 29) hX d_Co_poisonBy_29 rfl 3 rfl ?_
    refine g_aload_n (pc := 30) hX d_Co_poisonBy_30 rfl 1 rfl ?_
    refine gf_Co_20 (pc := 31) (v := .ref ((q 5))) hX 2 rfl rfl d_Co_poisonBy_31 ?_
    refine g_iload_n (pc := 34) hX d_Co_poisonBy_34 rfl 2 rfl ?_
    refine g_iald (pc := 35) (f := x.2.2) hX 5 rfl h d_Co_poisonBy_35 (fun h => ?_)
    obtain ⟨o3, e3, h⟩ := zbind h
    refine g_cvI (pc := 36) (w1 := []) (w2 := []) (st := [.ref ((q 3))]) (w' := (zwC c q x)) hX zk_Co_find zs_Co_find zL_Co_40 (c_Co_find c q x ((0 : Int32)) l2 ((x.2.2 l1.toNatClampNeg)) e3) rfl rfl rfl rfl (zself _) (zself _).symm 2 1 rfl rfl rfl d_Co_poisonBy_36 ?_
    refine g_iconst (pc := 39) hX d_Co_poisonBy_39 zc_3 ?_
    obtain ⟨o4, e4, h⟩ := zbind h
    refine g_cvI (pc := 40)  (st := []) (w' := (zwC c q x)) hX zk_Ta_get zs_Ta_get zL_Co_36 (c_Ta_get c (q 3) (q 4) 6 2304 x.2.1 o3 ((3 : Int32)) e4) rfl rfl rfl rfl (sp_Co_Ta_3 c q x) (sp_Co_Ta_3 c q x).symm 3 6 rfl rfl rfl d_Co_poisonBy_40 ?_
    refine g_goto (pc := 43) (tgt := 47) hX d_Co_poisonBy_43 (by decide) ?_
    cases h
    exact g_iret (pc := 47) hX hR d_Co_poisonBy_47
def k_Co_poisonBy_17 (x : zsC) (l1 : Int32) (l2 : Int32) : Option (Int32) := k_Co_poisonBy_18 x l1 l2 ((0 : Int32))
theorem w_Co_poisonBy_17 {X : zX} {c : zY} {q : Nat → Nat} {x : zsC} {l1 : Int32} {l2 : Int32} {out : Int32} (hX : Ok X zr_Co zb_Co_poisonBy 4 2 c) (hR : Rt X (some .int) (some (.int out)) (zwC c q x)) : k_Co_poisonBy_17 x l1 l2 = some out → Go X (zwC c q x) [(0, .ref ((q 2))), (1, .int l1), (2, .int l2)] 17 [] := by
  intro h
  rw [k_Co_poisonBy_17] at h
  refine g_iconst (pc := 17) hX d_Co_poisonBy_17 zc_0 ?_
  exact w_Co_poisonBy_18 hX hR _ h
def k_Co_poisonBy (x : zsC) (l1 : Int32) (l2 : Int32) : Option (Int32) := (if l1 < 0 then k_Co_poisonBy_17 x l1 l2 else (if l1 < (8 : Int32) then k_Co_poisonBy_18 x l1 l2 ((1 : Int32)) else k_Co_poisonBy_17 x l1 l2))
theorem c_Co_poisonBy (c : zY) (q : Nat → Nat) (x : zsC) (l1 : Int32) (l2 : Int32) {out : Int32} (h : k_Co_poisonBy x l1 l2 = some out) : KM zy_Co_poisonBy zb_Co_poisonBy 4 (some .int) 2 c [.ref ((q 2)), .int l1, .int l2] (zwC c q x) (zwC c q x) (some (.int out)) := zK_of zp_Co rfl (Nat.le_of_ble_eq_true rfl) (zq_Co c q _ _) (fun X hX hR => by
  show Go X (zwC c q x) [(0, .ref ((q 2))), (1, .int l1), (2, .int l2)] 0 []
  rw [k_Co_poisonBy] at h
  refine g_iload_n (pc := 0) hX d_Co_poisonBy_0 rfl 1 rfl ?_
  refine g_if_lt (pc := 1) (tgt := 17) hX d_Co_poisonBy_1 (by decide) h (fun c1 h => ?_) (fun c1 h => ?_)
  · exact w_Co_poisonBy_17 hX hR h
  · refine g_iload_n (pc := 4) hX d_Co_poisonBy_4 rfl 1 rfl ?_
    refine g_aload_n (pc := 5) hX d_Co_poisonBy_5 rfl 0 rfl ?_
    refine gf_Co_20 (pc := 6) (v := .ref ((q 5))) hX 2 rfl rfl d_Co_poisonBy_6 ?_
    refine g_alen (pc := 9) (v := (8 : Int32)) hX 5 rfl rfl d_Co_poisonBy_9 ?_
    refine g_icmp_ge (pc := 10) (tgt := 17) hX d_Co_poisonBy_10 (by decide) h (fun c5 h => ?_) (fun c5 h => ?_)
    · exact w_Co_poisonBy_17 hX hR h
    · refine g_iconst (pc := 13) hX d_Co_poisonBy_13 zc_1 ?_
      refine g_goto (pc := 14) (tgt := 18) hX d_Co_poisonBy_14 (by decide) ?_
      exact w_Co_poisonBy_18 hX hR _ h)
theorem d_Co_endCounted_0 : decode zb_Co_endCounted 0 = .ok (.iconst 0, 1) := by decide +kernel
theorem d_Co_endCounted_1 : decode zb_Co_endCounted 1 = .ok (.istore_n 1, 1) := by decide +kernel
theorem d_Co_endCounted_2 : decode zb_Co_endCounted 2 = .ok (.iconst 0, 1) := by decide +kernel
theorem d_Co_endCounted_3 : decode zb_Co_endCounted 3 = .ok (.istore_n 2, 1) := by decide +kernel
theorem d_Co_endCounted_4 : decode zb_Co_endCounted 4 = .ok (.iload_n 2, 1) := by decide +kernel
theorem d_Co_endCounted_5 : decode zb_Co_endCounted 5 = .ok (.aload_n 0, 1) := by decide +kernel
theorem d_Co_endCounted_6 : decode zb_Co_endCounted 6 = .ok (.getfield 16, 3) := by decide +kernel
theorem d_Co_endCounted_9 : decode zb_Co_endCounted 9 = .ok (.invokevirtual 28, 3) := by decide +kernel
theorem d_Co_endCounted_12 : decode zb_Co_endCounted 12 = .ok (.if_icmp .ge 62, 3) := by decide +kernel
theorem d_Co_endCounted_15 : decode zb_Co_endCounted 15 = .ok (.aload_n 0, 1) := by decide +kernel
theorem d_Co_endCounted_16 : decode zb_Co_endCounted 16 = .ok (.getfield 16, 3) := by decide +kernel
theorem d_Co_endCounted_19 : decode zb_Co_endCounted 19 = .ok (.iload_n 2, 1) := by decide +kernel
theorem d_Co_endCounted_20 : decode zb_Co_endCounted 20 = .ok (.iconst 5, 1) := by decide +kernel
theorem d_Co_endCounted_21 : decode zb_Co_endCounted 21 = .ok (.invokevirtual 36, 3) := by decide +kernel
theorem d_Co_endCounted_24 : decode zb_Co_endCounted 24 = .ok (.ifCond .ne 32, 3) := by decide +kernel
theorem d_Co_endCounted_27 : decode zb_Co_endCounted 27 = .ok (.aload_n 0, 1) := by decide +kernel
theorem d_Co_endCounted_28 : decode zb_Co_endCounted 28 = .ok (.getfield 24, 3) := by decide +kernel
theorem d_Co_endCounted_31 : decode zb_Co_endCounted 31 = .ok (.iconst 4, 1) := by decide +kernel
theorem d_Co_endCounted_32 : decode zb_Co_endCounted 32 = .ok (.aload_n 0, 1) := by decide +kernel
theorem d_Co_endCounted_33 : decode zb_Co_endCounted 33 = .ok (.getfield 16, 3) := by decide +kernel
theorem d_Co_endCounted_36 : decode zb_Co_endCounted 36 = .ok (.iload_n 2, 1) := by decide +kernel
theorem d_Co_endCounted_37 : decode zb_Co_endCounted 37 = .ok (.iconst 1, 1) := by decide +kernel
theorem d_Co_endCounted_38 : decode zb_Co_endCounted 38 = .ok (.invokevirtual 36, 3) := by decide +kernel
theorem d_Co_endCounted_41 : decode zb_Co_endCounted 41 = .ok (.aload_n 0, 1) := by decide +kernel
theorem d_Co_endCounted_42 : decode zb_Co_endCounted 42 = .ok (.getfield 16, 3) := by decide +kernel
theorem d_Co_endCounted_45 : decode zb_Co_endCounted 45 = .ok (.iload_n 2, 1) := by decide +kernel
theorem d_Co_endCounted_46 : decode zb_Co_endCounted 46 = .ok (.iconst 0, 1) := by decide +kernel
theorem d_Co_endCounted_47 : decode zb_Co_endCounted 47 = .ok (.invokevirtual 36, 3) := by decide +kernel
theorem d_Co_endCounted_50 : decode zb_Co_endCounted 50 = .ok (.invokevirtual 55, 3) := by decide +kernel
theorem d_Co_endCounted_53 : decode zb_Co_endCounted 53 = .ok (.goto 15, 3) := by decide +kernel
theorem d_Co_endCounted_56 : decode zb_Co_endCounted 56 = .ok (.aload_n 0, 1) := by decide +kernel
theorem d_Co_endCounted_57 : decode zb_Co_endCounted 57 = .ok (.getfield 16, 3) := by decide +kernel
theorem d_Co_endCounted_60 : decode zb_Co_endCounted 60 = .ok (.iload_n 2, 1) := by decide +kernel
theorem d_Co_endCounted_61 : decode zb_Co_endCounted 61 = .ok (.iload_n 1, 1) := by decide +kernel
theorem d_Co_endCounted_62 : decode zb_Co_endCounted 62 = .ok (.invokevirtual 63, 3) := by decide +kernel
theorem d_Co_endCounted_65 : decode zb_Co_endCounted 65 = .ok (.iinc 1 1, 3) := by decide +kernel
theorem d_Co_endCounted_68 : decode zb_Co_endCounted 68 = .ok (.iinc 2 1, 3) := by decide +kernel
theorem d_Co_endCounted_71 : decode zb_Co_endCounted 71 = .ok (.goto (-67), 3) := by decide +kernel
theorem d_Co_endCounted_74 : decode zb_Co_endCounted 74 = .ok (.aload_n 0, 1) := by decide +kernel
theorem d_Co_endCounted_75 : decode zb_Co_endCounted 75 = .ok (.getfield 16, 3) := by decide +kernel
theorem d_Co_endCounted_78 : decode zb_Co_endCounted 78 = .ok (.iload_n 1, 1) := by decide +kernel
theorem d_Co_endCounted_79 : decode zb_Co_endCounted 79 = .ok (.invokevirtual 67, 3) := by decide +kernel
theorem d_Co_endCounted_82 : decode zb_Co_endCounted 82 = .ok (.return_, 1) := by decide +kernel
def k_Co_endCounted_4 : Nat → Int32 → Int32 → zsC → Option (zsC)
  | 0, _, _, _ => none
  | fu + 1, l1, l2, x => (k_Ta_used 6 2304 x.2.1).bind fun o1 => (if l2 < o1 then (k_Ta_get 6 2304 x.2.1 l2 ((5 : Int32))).bind fun o4 => (if o4 = 0 then (k_Ta_get 6 2304 x.2.1 l2 ((1 : Int32))).bind fun o7 => (k_Ta_get 6 2304 x.2.1 l2 ((0 : Int32))).bind fun o8 => (k_Jo_write x.1 ((4 : Int32)) o7 o8).bind fun o9 => k_Co_endCounted_4 fu l1 ((l2 + (1 : Int32))) ((o9, x.2.1, x.2.2)) else (k_Ta_copyRow 6 2304 x.2.1 l2 l1).bind fun o6 => k_Co_endCounted_4 fu ((l1 + (1 : Int32))) ((l2 + (1 : Int32))) ((x.1, o6, x.2.2))) else (k_Ta_cut 6 2304 x.2.1 l1).bind fun o3 => some ((x.1, o3, x.2.2)))
theorem w_Co_endCounted_4 {X : zX} {c : zY} {q : Nat → Nat} {out : zsC} (hX : Ok X zr_Co zb_Co_endCounted 3 2 c) (hR : Rt X none none (zwC c q out)) : ∀ (fu : Nat) (l1 : Int32) (l2 : Int32) (x : zsC), k_Co_endCounted_4 fu l1 l2 x = some out → Go X (zwC c q x) [(0, .ref ((q 2))), (1, .int l1), (2, .int l2)] 4 [] := by
  intro fu
  induction fu with
  | zero => intro l1 l2 x h; rw [k_Co_endCounted_4] at h; cases h
  | succ fu ih =>
    intro l1 l2 x h
    rw [k_Co_endCounted_4] at h
    refine g_iload_n (pc := 4) hX d_Co_endCounted_4 rfl 2 rfl ?_
    refine g_aload_n (pc := 5) hX d_Co_endCounted_5 rfl 0 rfl ?_
    refine gf_Co_16 (pc := 6) (v := .ref ((q 3))) hX 2 rfl rfl d_Co_endCounted_6 ?_
    obtain ⟨o1, e1, h⟩ := zbind h
    refine g_cvI (pc := 9)  (st := [.int l2]) (w' := (zwC c q x)) hX zk_Ta_used zs_Ta_used zL_Co_28 (c_Ta_used c (q 3) (q 4) 6 2304 x.2.1 e1) rfl rfl rfl rfl (sp_Co_Ta_3 c q x) (sp_Co_Ta_3 c q x).symm 3 6 rfl rfl rfl d_Co_endCounted_9 ?_
    refine g_icmp_ge (pc := 12) (tgt := 74) hX d_Co_endCounted_12 (by decide) h (fun c2 h => ?_) (fun c2 h => ?_)
    · refine g_aload_n (pc := 74) hX d_Co_endCounted_74 rfl 0 rfl ?_
      refine gf_Co_16 (pc := 75) (v := .ref ((q 3))) hX 2 rfl rfl d_Co_endCounted_75 ?_
      refine g_iload_n (pc := 78) hX d_Co_endCounted_78 rfl 1 rfl ?_
      obtain ⟨o3, e3, h⟩ := zbind h
      refine g_cvV (pc := 79)  (st := []) (w' := (zwC c q ((x.1, o3, x.2.2)))) hX zk_Ta_cut zs_Ta_cut zL_Co_67 (c_Ta_cut c (q 3) (q 4) 6 2304 x.2.1 l1 e3) rfl rfl rfl rfl (sp_Co_Ta_3 c q x) (sq_Co_Ta_3 c q x o3) 3 6 rfl rfl rfl d_Co_endCounted_79 ?_
      cases h
      exact g_vret (pc := 82) hX hR d_Co_endCounted_82
    · refine g_aload_n (pc := 15) hX d_Co_endCounted_15 rfl 0 rfl ?_
      refine gf_Co_16 (pc := 16) (v := .ref ((q 3))) hX 2 rfl rfl d_Co_endCounted_16 ?_
      refine g_iload_n (pc := 19) hX d_Co_endCounted_19 rfl 2 rfl ?_
      refine g_iconst (pc := 20) hX d_Co_endCounted_20 zc_5 ?_
      obtain ⟨o4, e4, h⟩ := zbind h
      refine g_cvI (pc := 21)  (st := []) (w' := (zwC c q x)) hX zk_Ta_get zs_Ta_get zL_Co_36 (c_Ta_get c (q 3) (q 4) 6 2304 x.2.1 l2 ((5 : Int32)) e4) rfl rfl rfl rfl (sp_Co_Ta_3 c q x) (sp_Co_Ta_3 c q x).symm 3 6 rfl rfl rfl d_Co_endCounted_21 ?_
      refine g_if_ne (pc := 24) (tgt := 56) hX d_Co_endCounted_24 (by decide) h (fun c5 h => ?_) (fun c5 h => ?_)
      · refine g_aload_n (pc := 56) hX d_Co_endCounted_56 rfl 0 rfl ?_
        refine gf_Co_16 (pc := 57) (v := .ref ((q 3))) hX 2 rfl rfl d_Co_endCounted_57 ?_
        refine g_iload_n (pc := 60) hX d_Co_endCounted_60 rfl 2 rfl ?_
        refine g_iload_n (pc := 61) hX d_Co_endCounted_61 rfl 1 rfl ?_
        obtain ⟨o6, e6, h⟩ := zbind h
        refine g_cvV (pc := 62)  (st := []) (w' := (zwC c q ((x.1, o6, x.2.2)))) hX zk_Ta_copyRow zs_Ta_copyRow zL_Co_63 (c_Ta_copyRow c (q 3) (q 4) 6 2304 x.2.1 l2 l1 e6) rfl rfl rfl rfl (sp_Co_Ta_3 c q x) (sq_Co_Ta_3 c q x o6) 3 6 rfl rfl rfl d_Co_endCounted_62 ?_
        refine g_iinc (pc := 65) (q := 1) (L' := [(1, .int ((l1 + (1 : Int32)))), (0, .ref ((q 2))), (2, .int l2)]) hX d_Co_endCounted_65 rfl zc_1 rfl rfl ?_
        refine g_iinc (pc := 68) (q := 2) (L' := [(2, .int ((l2 + (1 : Int32)))), (1, .int ((l1 + (1 : Int32)))), (0, .ref ((q 2)))]) hX d_Co_endCounted_68 rfl zc_1 rfl rfl ?_
        refine g_goto (pc := 71) (tgt := 4) hX d_Co_endCounted_71 (by decide) ?_
        refine g_ls (L' := [(0, .ref ((q 2))), (1, .int ((l1 + (1 : Int32)))), (2, .int ((l2 + (1 : Int32))))]) [2, 1, 0] rfl ?_
        exact ih _ _ _ h
      · refine g_aload_n (pc := 27) hX d_Co_endCounted_27 rfl 0 rfl ?_
        refine gf_Co_24 (pc := 28) (v := .ref ((q 0))) hX 2 rfl rfl d_Co_endCounted_28 ?_
        refine g_iconst (pc := 31) hX d_Co_endCounted_31 zc_4 ?_
        refine g_aload_n (pc := 32) hX d_Co_endCounted_32 rfl 0 rfl ?_
        refine gf_Co_16 (pc := 33) (v := .ref ((q 3))) hX 2 rfl rfl d_Co_endCounted_33 ?_
        refine g_iload_n (pc := 36) hX d_Co_endCounted_36 rfl 2 rfl ?_
        refine g_iconst (pc := 37) hX d_Co_endCounted_37 zc_1 ?_
        obtain ⟨o7, e7, h⟩ := zbind h
        refine g_cvI (pc := 38)  (st := [.int ((4 : Int32)), .ref ((q 0))]) (w' := (zwC c q x)) hX zk_Ta_get zs_Ta_get zL_Co_36 (c_Ta_get c (q 3) (q 4) 6 2304 x.2.1 l2 ((1 : Int32)) e7) rfl rfl rfl rfl (sp_Co_Ta_3 c q x) (sp_Co_Ta_3 c q x).symm 3 6 rfl rfl rfl d_Co_endCounted_38 ?_
        refine g_aload_n (pc := 41) hX d_Co_endCounted_41 rfl 0 rfl ?_
        refine gf_Co_16 (pc := 42) (v := .ref ((q 3))) hX 2 rfl rfl d_Co_endCounted_42 ?_
        refine g_iload_n (pc := 45) hX d_Co_endCounted_45 rfl 2 rfl ?_
        refine g_iconst (pc := 46) hX d_Co_endCounted_46 zc_0 ?_
        obtain ⟨o8, e8, h⟩ := zbind h
        refine g_cvI (pc := 47)  (st := [.int o7, .int ((4 : Int32)), .ref ((q 0))]) (w' := (zwC c q x)) hX zk_Ta_get zs_Ta_get zL_Co_36 (c_Ta_get c (q 3) (q 4) 6 2304 x.2.1 l2 ((0 : Int32)) e8) rfl rfl rfl rfl (sp_Co_Ta_3 c q x) (sp_Co_Ta_3 c q x).symm 3 6 rfl rfl rfl d_Co_endCounted_47 ?_
        obtain ⟨o9, e9, h⟩ := zbind h
        refine g_cvV (pc := 50)  (st := []) (w' := (zwC c q ((o9, x.2.1, x.2.2)))) hX zk_Jo_write zs_Jo_write zL_Co_55 (c_Jo_write c q x.1 ((4 : Int32)) o7 o8 e9) rfl rfl rfl rfl (sp_Co_Jo_0 c q x) (sq_Co_Jo_0 c q x o9) 0 4 rfl rfl rfl d_Co_endCounted_50 ?_
        refine g_goto (pc := 53) (tgt := 68) hX d_Co_endCounted_53 (by decide) ?_
        refine g_iinc (pc := 68) (q := 2) (L' := [(2, .int ((l2 + (1 : Int32)))), (0, .ref ((q 2))), (1, .int l1)]) hX d_Co_endCounted_68 rfl zc_1 rfl rfl ?_
        refine g_goto (pc := 71) (tgt := 4) hX d_Co_endCounted_71 (by decide) ?_
        refine g_ls (L' := [(0, .ref ((q 2))), (1, .int l1), (2, .int ((l2 + (1 : Int32))))]) [1, 2, 0] rfl ?_
        exact ih _ _ _ h
def k_Co_endCounted (x : zsC) : Option (zsC) := k_Co_endCounted_4 zFu ((0 : Int32)) ((0 : Int32)) x
theorem c_Co_endCounted (c : zY) (q : Nat → Nat) (x : zsC) {out : zsC} (h : k_Co_endCounted x = some out) : KM zy_Co_endCounted zb_Co_endCounted 3 none 2 c [.ref ((q 2))] (zwC c q x) (zwC c q out) none := zK_of zp_Co rfl (Nat.le_of_ble_eq_true rfl) (zq_Co c q _ _) (fun X hX hR => by
  show Go X (zwC c q x) [(0, .ref ((q 2)))] 0 []
  rw [k_Co_endCounted] at h
  refine g_iconst (pc := 0) hX d_Co_endCounted_0 zc_0 ?_
  refine g_istore_n (pc := 1) (L' := [(1, .int ((0 : Int32))), (0, .ref ((q 2)))]) hX d_Co_endCounted_1 rfl rfl rfl ?_
  refine g_iconst (pc := 2) hX d_Co_endCounted_2 zc_0 ?_
  refine g_istore_n (pc := 3) (L' := [(2, .int ((0 : Int32))), (1, .int ((0 : Int32))), (0, .ref ((q 2)))]) hX d_Co_endCounted_3 rfl rfl rfl ?_
  refine g_ls (L' := [(0, .ref ((q 2))), (1, .int ((0 : Int32))), (2, .int ((0 : Int32)))]) [2, 1, 0] rfl ?_
  exact w_Co_endCounted_4 hX hR _ _ _ _ h)
theorem d_Co_countTurnEnd_0 : decode zb_Co_countTurnEnd 0 = .ok (.iconst 0, 1) := by decide +kernel
theorem d_Co_countTurnEnd_1 : decode zb_Co_countTurnEnd 1 = .ok (.istore_n 2, 1) := by decide +kernel
theorem d_Co_countTurnEnd_2 : decode zb_Co_countTurnEnd 2 = .ok (.iload_n 2, 1) := by decide +kernel
theorem d_Co_countTurnEnd_3 : decode zb_Co_countTurnEnd 3 = .ok (.aload_n 0, 1) := by decide +kernel
theorem d_Co_countTurnEnd_4 : decode zb_Co_countTurnEnd 4 = .ok (.getfield 16, 3) := by decide +kernel
theorem d_Co_countTurnEnd_7 : decode zb_Co_countTurnEnd 7 = .ok (.invokevirtual 28, 3) := by decide +kernel
theorem d_Co_countTurnEnd_10 : decode zb_Co_countTurnEnd 10 = .ok (.if_icmp .ge 54, 3) := by decide +kernel
theorem d_Co_countTurnEnd_13 : decode zb_Co_countTurnEnd 13 = .ok (.aload_n 0, 1) := by decide +kernel
theorem d_Co_countTurnEnd_14 : decode zb_Co_countTurnEnd 14 = .ok (.getfield 16, 3) := by decide +kernel
theorem d_Co_countTurnEnd_17 : decode zb_Co_countTurnEnd 17 = .ok (.iload_n 2, 1) := by decide +kernel
theorem d_Co_countTurnEnd_18 : decode zb_Co_countTurnEnd 18 = .ok (.iconst 1, 1) := by decide +kernel
theorem d_Co_countTurnEnd_19 : decode zb_Co_countTurnEnd 19 = .ok (.invokevirtual 36, 3) := by decide +kernel
theorem d_Co_countTurnEnd_22 : decode zb_Co_countTurnEnd 22 = .ok (.iload_n 1, 1) := by decide +kernel
theorem d_Co_countTurnEnd_23 : decode zb_Co_countTurnEnd 23 = .ok (.if_icmp .ne 35, 3) := by decide +kernel
theorem d_Co_countTurnEnd_26 : decode zb_Co_countTurnEnd 26 = .ok (.aload_n 0, 1) := by decide +kernel
theorem d_Co_countTurnEnd_27 : decode zb_Co_countTurnEnd 27 = .ok (.getfield 16, 3) := by decide +kernel
theorem d_Co_countTurnEnd_30 : decode zb_Co_countTurnEnd 30 = .ok (.iload_n 2, 1) := by decide +kernel
theorem d_Co_countTurnEnd_31 : decode zb_Co_countTurnEnd 31 = .ok (.iconst 4, 1) := by decide +kernel
theorem d_Co_countTurnEnd_32 : decode zb_Co_countTurnEnd 32 = .ok (.invokevirtual 36, 3) := by decide +kernel
theorem d_Co_countTurnEnd_35 : decode zb_Co_countTurnEnd 35 = .ok (.ifCond .ne 23, 3) := by decide +kernel
theorem d_Co_countTurnEnd_38 : decode zb_Co_countTurnEnd 38 = .ok (.aload_n 0, 1) := by decide +kernel
theorem d_Co_countTurnEnd_39 : decode zb_Co_countTurnEnd 39 = .ok (.getfield 16, 3) := by decide +kernel
theorem d_Co_countTurnEnd_42 : decode zb_Co_countTurnEnd 42 = .ok (.iload_n 2, 1) := by decide +kernel
theorem d_Co_countTurnEnd_43 : decode zb_Co_countTurnEnd 43 = .ok (.iconst 5, 1) := by decide +kernel
theorem d_Co_countTurnEnd_44 : decode zb_Co_countTurnEnd 44 = .ok (.aload_n 0, 1) := by decide +kernel
theorem d_Co_countTurnEnd_45 : decode zb_Co_countTurnEnd 45 = .ok (.getfield 16, 3) := by decide +kernel
theorem d_Co_countTurnEnd_48 : decode zb_Co_countTurnEnd 48 = .ok (.iload_n 2, 1) := by decide +kernel
theorem d_Co_countTurnEnd_49 : decode zb_Co_countTurnEnd 49 = .ok (.iconst 5, 1) := by decide +kernel
theorem d_Co_countTurnEnd_50 : decode zb_Co_countTurnEnd 50 = .ok (.invokevirtual 36, 3) := by decide +kernel
theorem d_Co_countTurnEnd_53 : decode zb_Co_countTurnEnd 53 = .ok (.iconst 1, 1) := by decide +kernel
theorem d_Co_countTurnEnd_54 : decode zb_Co_countTurnEnd 54 = .ok (.isub, 1) := by decide +kernel
theorem d_Co_countTurnEnd_55 : decode zb_Co_countTurnEnd 55 = .ok (.invokevirtual 47, 3) := by decide +kernel
theorem d_Co_countTurnEnd_58 : decode zb_Co_countTurnEnd 58 = .ok (.iinc 2 1, 3) := by decide +kernel
theorem d_Co_countTurnEnd_61 : decode zb_Co_countTurnEnd 61 = .ok (.goto (-59), 3) := by decide +kernel
theorem d_Co_countTurnEnd_64 : decode zb_Co_countTurnEnd 64 = .ok (.aload_n 0, 1) := by decide +kernel
theorem d_Co_countTurnEnd_65 : decode zb_Co_countTurnEnd 65 = .ok (.invokevirtual 60, 3) := by decide +kernel
theorem d_Co_countTurnEnd_68 : decode zb_Co_countTurnEnd 68 = .ok (.return_, 1) := by decide +kernel
def k_Co_countTurnEnd_2 (l1 : Int32) : Nat → Int32 → zsC → Option (zsC)
  | 0, _, _ => none
  | fu + 1, l2, x => (k_Ta_used 6 2304 x.2.1).bind fun o1 => (if l2 < o1 then (k_Ta_get 6 2304 x.2.1 l2 ((1 : Int32))).bind fun o4 => (if o4 = l1 then (k_Ta_get 6 2304 x.2.1 l2 ((4 : Int32))).bind fun o6 => (if o6 = 0 then (k_Ta_get 6 2304 x.2.1 l2 ((5 : Int32))).bind fun o8 => (k_Ta_set 6 2304 x.2.1 l2 ((5 : Int32)) ((o8 - (1 : Int32)))).bind fun o9 => k_Co_countTurnEnd_2 l1 fu ((l2 + (1 : Int32))) ((x.1, o9, x.2.2)) else k_Co_countTurnEnd_2 l1 fu ((l2 + (1 : Int32))) x) else k_Co_countTurnEnd_2 l1 fu ((l2 + (1 : Int32))) x) else (k_Co_endCounted x).bind fun o3 => some o3)
theorem w_Co_countTurnEnd_2 {X : zX} {c : zY} {q : Nat → Nat} {l1 : Int32} {out : zsC} (hX : Ok X zr_Co zb_Co_countTurnEnd 3 3 c) (hR : Rt X none none (zwC c q out)) : ∀ (fu : Nat) (l2 : Int32) (x : zsC), k_Co_countTurnEnd_2 l1 fu l2 x = some out → Go X (zwC c q x) [(0, .ref ((q 2))), (1, .int l1), (2, .int l2)] 2 [] := by
  intro fu
  induction fu with
  | zero => intro l2 x h; rw [k_Co_countTurnEnd_2] at h; cases h
  | succ fu ih =>
    intro l2 x h
    rw [k_Co_countTurnEnd_2] at h
    refine g_iload_n (pc := 2) hX d_Co_countTurnEnd_2 rfl 2 rfl ?_
    refine g_aload_n (pc := 3) hX d_Co_countTurnEnd_3 rfl 0 rfl ?_
    refine gf_Co_16 (pc := 4) (v := .ref ((q 3))) hX 2 rfl rfl d_Co_countTurnEnd_4 ?_
    obtain ⟨o1, e1, h⟩ := zbind h
    refine g_cvI (pc := 7)  (st := [.int l2]) (w' := (zwC c q x)) hX zk_Ta_used zs_Ta_used zL_Co_28 (c_Ta_used c (q 3) (q 4) 6 2304 x.2.1 e1) rfl rfl rfl rfl (sp_Co_Ta_3 c q x) (sp_Co_Ta_3 c q x).symm 3 6 rfl rfl rfl d_Co_countTurnEnd_7 ?_
    refine g_icmp_ge (pc := 10) (tgt := 64) hX d_Co_countTurnEnd_10 (by decide) h (fun c2 h => ?_) (fun c2 h => ?_)
    · refine g_aload_n (pc := 64) hX d_Co_countTurnEnd_64 rfl 0 rfl ?_
      obtain ⟨o3, e3, h⟩ := zbind h
      refine g_cvV (pc := 65) (w1 := []) (w2 := []) (st := []) (w' := (zwC c q o3)) hX zk_Co_endCounted zs_Co_endCounted zL_Co_60 (c_Co_endCounted c q x e3) rfl rfl rfl rfl (zself _) (zself _).symm 2 1 rfl rfl rfl d_Co_countTurnEnd_65 ?_
      cases h
      exact g_vret (pc := 68) hX hR d_Co_countTurnEnd_68
    · refine g_aload_n (pc := 13) hX d_Co_countTurnEnd_13 rfl 0 rfl ?_
      refine gf_Co_16 (pc := 14) (v := .ref ((q 3))) hX 2 rfl rfl d_Co_countTurnEnd_14 ?_
      refine g_iload_n (pc := 17) hX d_Co_countTurnEnd_17 rfl 2 rfl ?_
      refine g_iconst (pc := 18) hX d_Co_countTurnEnd_18 zc_1 ?_
      obtain ⟨o4, e4, h⟩ := zbind h
      refine g_cvI (pc := 19)  (st := []) (w' := (zwC c q x)) hX zk_Ta_get zs_Ta_get zL_Co_36 (c_Ta_get c (q 3) (q 4) 6 2304 x.2.1 l2 ((1 : Int32)) e4) rfl rfl rfl rfl (sp_Co_Ta_3 c q x) (sp_Co_Ta_3 c q x).symm 3 6 rfl rfl rfl d_Co_countTurnEnd_19 ?_
      refine g_iload_n (pc := 22) hX d_Co_countTurnEnd_22 rfl 1 rfl ?_
      refine g_icmp_ne (pc := 23) (tgt := 58) hX d_Co_countTurnEnd_23 (by decide) h (fun c5 h => ?_) (fun c5 h => ?_)
      · refine g_iinc (pc := 58) (q := 2) (L' := [(2, .int ((l2 + (1 : Int32)))), (0, .ref ((q 2))), (1, .int l1)]) hX d_Co_countTurnEnd_58 rfl zc_1 rfl rfl ?_
        refine g_goto (pc := 61) (tgt := 2) hX d_Co_countTurnEnd_61 (by decide) ?_
        refine g_ls (L' := [(0, .ref ((q 2))), (1, .int l1), (2, .int ((l2 + (1 : Int32))))]) [1, 2, 0] rfl ?_
        exact ih _ _ h
      · refine g_aload_n (pc := 26) hX d_Co_countTurnEnd_26 rfl 0 rfl ?_
        refine gf_Co_16 (pc := 27) (v := .ref ((q 3))) hX 2 rfl rfl d_Co_countTurnEnd_27 ?_
        refine g_iload_n (pc := 30) hX d_Co_countTurnEnd_30 rfl 2 rfl ?_
        refine g_iconst (pc := 31) hX d_Co_countTurnEnd_31 zc_4 ?_
        obtain ⟨o6, e6, h⟩ := zbind h
        refine g_cvI (pc := 32)  (st := []) (w' := (zwC c q x)) hX zk_Ta_get zs_Ta_get zL_Co_36 (c_Ta_get c (q 3) (q 4) 6 2304 x.2.1 l2 ((4 : Int32)) e6) rfl rfl rfl rfl (sp_Co_Ta_3 c q x) (sp_Co_Ta_3 c q x).symm 3 6 rfl rfl rfl d_Co_countTurnEnd_32 ?_
        refine g_if_ne (pc := 35) (tgt := 58) hX d_Co_countTurnEnd_35 (by decide) h (fun c7 h => ?_) (fun c7 h => ?_)
        · refine g_iinc (pc := 58) (q := 2) (L' := [(2, .int ((l2 + (1 : Int32)))), (0, .ref ((q 2))), (1, .int l1)]) hX d_Co_countTurnEnd_58 rfl zc_1 rfl rfl ?_
          refine g_goto (pc := 61) (tgt := 2) hX d_Co_countTurnEnd_61 (by decide) ?_
          refine g_ls (L' := [(0, .ref ((q 2))), (1, .int l1), (2, .int ((l2 + (1 : Int32))))]) [1, 2, 0] rfl ?_
          exact ih _ _ h
        · refine g_aload_n (pc := 38) hX d_Co_countTurnEnd_38 rfl 0 rfl ?_
          refine gf_Co_16 (pc := 39) (v := .ref ((q 3))) hX 2 rfl rfl d_Co_countTurnEnd_39 ?_
          refine g_iload_n (pc := 42) hX d_Co_countTurnEnd_42 rfl 2 rfl ?_
          refine g_iconst (pc := 43) hX d_Co_countTurnEnd_43 zc_5 ?_
          refine g_aload_n (pc := 44) hX d_Co_countTurnEnd_44 rfl 0 rfl ?_
          refine gf_Co_16 (pc := 45) (v := .ref ((q 3))) hX 2 rfl rfl d_Co_countTurnEnd_45 ?_
          refine g_iload_n (pc := 48) hX d_Co_countTurnEnd_48 rfl 2 rfl ?_
          refine g_iconst (pc := 49) hX d_Co_countTurnEnd_49 zc_5 ?_
          obtain ⟨o8, e8, h⟩ := zbind h
          refine g_cvI (pc := 50)  (st := [.int ((5 : Int32)), .int l2, .ref ((q 3))]) (w' := (zwC c q x)) hX zk_Ta_get zs_Ta_get zL_Co_36 (c_Ta_get c (q 3) (q 4) 6 2304 x.2.1 l2 ((5 : Int32)) e8) rfl rfl rfl rfl (sp_Co_Ta_3 c q x) (sp_Co_Ta_3 c q x).symm 3 6 rfl rfl rfl d_Co_countTurnEnd_50 ?_
          refine g_iconst (pc := 53) hX d_Co_countTurnEnd_53 zc_1 ?_
          refine g_isub (pc := 54) hX d_Co_countTurnEnd_54 ?_
          obtain ⟨o9, e9, h⟩ := zbind h
          refine g_cvV (pc := 55)  (st := []) (w' := (zwC c q ((x.1, o9, x.2.2)))) hX zk_Ta_set zs_Ta_set zL_Co_47 (c_Ta_set c (q 3) (q 4) 6 2304 x.2.1 l2 ((5 : Int32)) ((o8 - (1 : Int32))) e9) rfl rfl rfl rfl (sp_Co_Ta_3 c q x) (sq_Co_Ta_3 c q x o9) 3 6 rfl rfl rfl d_Co_countTurnEnd_55 ?_
          refine g_iinc (pc := 58) (q := 2) (L' := [(2, .int ((l2 + (1 : Int32)))), (0, .ref ((q 2))), (1, .int l1)]) hX d_Co_countTurnEnd_58 rfl zc_1 rfl rfl ?_
          refine g_goto (pc := 61) (tgt := 2) hX d_Co_countTurnEnd_61 (by decide) ?_
          refine g_ls (L' := [(0, .ref ((q 2))), (1, .int l1), (2, .int ((l2 + (1 : Int32))))]) [1, 2, 0] rfl ?_
          exact ih _ _ h
def k_Co_countTurnEnd (x : zsC) (l1 : Int32) : Option (zsC) := k_Co_countTurnEnd_2 l1 zFu ((0 : Int32)) x
theorem c_Co_countTurnEnd (c : zY) (q : Nat → Nat) (x : zsC) (l1 : Int32) {out : zsC} (h : k_Co_countTurnEnd x l1 = some out) : KM zy_Co_countTurnEnd zb_Co_countTurnEnd 3 none 3 c [.ref ((q 2)), .int l1] (zwC c q x) (zwC c q out) none := zK_of zp_Co rfl (Nat.le_of_ble_eq_true rfl) (zq_Co c q _ _) (fun X hX hR => by
  show Go X (zwC c q x) [(0, .ref ((q 2))), (1, .int l1)] 0 []
  rw [k_Co_countTurnEnd] at h
  refine g_iconst (pc := 0) hX d_Co_countTurnEnd_0 zc_0 ?_
  refine g_istore_n (pc := 1) (L' := [(2, .int ((0 : Int32))), (0, .ref ((q 2))), (1, .int l1)]) hX d_Co_countTurnEnd_1 rfl rfl rfl ?_
  refine g_ls (L' := [(0, .ref ((q 2))), (1, .int l1), (2, .int ((0 : Int32)))]) [1, 2, 0] rfl ?_
  exact w_Co_countTurnEnd_2 hX hR _ _ _ h)
theorem d_Co_countSourceTurn_0 : decode zb_Co_countSourceTurn 0 = .ok (.iconst 0, 1) := by decide +kernel
theorem d_Co_countSourceTurn_1 : decode zb_Co_countSourceTurn 1 = .ok (.istore_n 2, 1) := by decide +kernel
theorem d_Co_countSourceTurn_2 : decode zb_Co_countSourceTurn 2 = .ok (.iload_n 2, 1) := by decide +kernel
theorem d_Co_countSourceTurn_3 : decode zb_Co_countSourceTurn 3 = .ok (.aload_n 0, 1) := by decide +kernel
theorem d_Co_countSourceTurn_4 : decode zb_Co_countSourceTurn 4 = .ok (.getfield 16, 3) := by decide +kernel
theorem d_Co_countSourceTurn_7 : decode zb_Co_countSourceTurn 7 = .ok (.invokevirtual 28, 3) := by decide +kernel
theorem d_Co_countSourceTurn_10 : decode zb_Co_countSourceTurn 10 = .ok (.if_icmp .ge 55, 3) := by decide +kernel
theorem d_Co_countSourceTurn_13 : decode zb_Co_countSourceTurn 13 = .ok (.aload_n 0, 1) := by decide +kernel
theorem d_Co_countSourceTurn_14 : decode zb_Co_countSourceTurn 14 = .ok (.getfield 16, 3) := by decide +kernel
theorem d_Co_countSourceTurn_17 : decode zb_Co_countSourceTurn 17 = .ok (.iload_n 2, 1) := by decide +kernel
theorem d_Co_countSourceTurn_18 : decode zb_Co_countSourceTurn 18 = .ok (.iconst 2, 1) := by decide +kernel
theorem d_Co_countSourceTurn_19 : decode zb_Co_countSourceTurn 19 = .ok (.invokevirtual 36, 3) := by decide +kernel
theorem d_Co_countSourceTurn_22 : decode zb_Co_countSourceTurn 22 = .ok (.iload_n 1, 1) := by decide +kernel
theorem d_Co_countSourceTurn_23 : decode zb_Co_countSourceTurn 23 = .ok (.if_icmp .ne 36, 3) := by decide +kernel
theorem d_Co_countSourceTurn_26 : decode zb_Co_countSourceTurn 26 = .ok (.aload_n 0, 1) := by decide +kernel
theorem d_Co_countSourceTurn_27 : decode zb_Co_countSourceTurn 27 = .ok (.getfield 16, 3) := by decide +kernel
theorem d_Co_countSourceTurn_30 : decode zb_Co_countSourceTurn 30 = .ok (.iload_n 2, 1) := by decide +kernel
theorem d_Co_countSourceTurn_31 : decode zb_Co_countSourceTurn 31 = .ok (.iconst 4, 1) := by decide +kernel
theorem d_Co_countSourceTurn_32 : decode zb_Co_countSourceTurn 32 = .ok (.invokevirtual 36, 3) := by decide +kernel
theorem d_Co_countSourceTurn_35 : decode zb_Co_countSourceTurn 35 = .ok (.iconst 1, 1) := by decide +kernel
theorem d_Co_countSourceTurn_36 : decode zb_Co_countSourceTurn 36 = .ok (.if_icmp .ne 23, 3) := by decide +kernel
theorem d_Co_countSourceTurn_39 : decode zb_Co_countSourceTurn 39 = .ok (.aload_n 0, 1) := by decide +kernel
theorem d_Co_countSourceTurn_40 : decode zb_Co_countSourceTurn 40 = .ok (.getfield 16, 3) := by decide +kernel
theorem d_Co_countSourceTurn_43 : decode zb_Co_countSourceTurn 43 = .ok (.iload_n 2, 1) := by decide +kernel
theorem d_Co_countSourceTurn_44 : decode zb_Co_countSourceTurn 44 = .ok (.iconst 5, 1) := by decide +kernel
theorem d_Co_countSourceTurn_45 : decode zb_Co_countSourceTurn 45 = .ok (.aload_n 0, 1) := by decide +kernel
theorem d_Co_countSourceTurn_46 : decode zb_Co_countSourceTurn 46 = .ok (.getfield 16, 3) := by decide +kernel
theorem d_Co_countSourceTurn_49 : decode zb_Co_countSourceTurn 49 = .ok (.iload_n 2, 1) := by decide +kernel
theorem d_Co_countSourceTurn_50 : decode zb_Co_countSourceTurn 50 = .ok (.iconst 5, 1) := by decide +kernel
theorem d_Co_countSourceTurn_51 : decode zb_Co_countSourceTurn 51 = .ok (.invokevirtual 36, 3) := by decide +kernel
theorem d_Co_countSourceTurn_54 : decode zb_Co_countSourceTurn 54 = .ok (.iconst 1, 1) := by decide +kernel
theorem d_Co_countSourceTurn_55 : decode zb_Co_countSourceTurn 55 = .ok (.isub, 1) := by decide +kernel
theorem d_Co_countSourceTurn_56 : decode zb_Co_countSourceTurn 56 = .ok (.invokevirtual 47, 3) := by decide +kernel
theorem d_Co_countSourceTurn_59 : decode zb_Co_countSourceTurn 59 = .ok (.iinc 2 1, 3) := by decide +kernel
theorem d_Co_countSourceTurn_62 : decode zb_Co_countSourceTurn 62 = .ok (.goto (-60), 3) := by decide +kernel
theorem d_Co_countSourceTurn_65 : decode zb_Co_countSourceTurn 65 = .ok (.aload_n 0, 1) := by decide +kernel
theorem d_Co_countSourceTurn_66 : decode zb_Co_countSourceTurn 66 = .ok (.invokevirtual 60, 3) := by decide +kernel
theorem d_Co_countSourceTurn_69 : decode zb_Co_countSourceTurn 69 = .ok (.return_, 1) := by decide +kernel
def k_Co_countSourceTurn_2 (l1 : Int32) : Nat → Int32 → zsC → Option (zsC)
  | 0, _, _ => none
  | fu + 1, l2, x => (k_Ta_used 6 2304 x.2.1).bind fun o1 => (if l2 < o1 then (k_Ta_get 6 2304 x.2.1 l2 ((2 : Int32))).bind fun o4 => (if o4 = l1 then (k_Ta_get 6 2304 x.2.1 l2 ((4 : Int32))).bind fun o6 => (if o6 = (1 : Int32) then (k_Ta_get 6 2304 x.2.1 l2 ((5 : Int32))).bind fun o8 => (k_Ta_set 6 2304 x.2.1 l2 ((5 : Int32)) ((o8 - (1 : Int32)))).bind fun o9 => k_Co_countSourceTurn_2 l1 fu ((l2 + (1 : Int32))) ((x.1, o9, x.2.2)) else k_Co_countSourceTurn_2 l1 fu ((l2 + (1 : Int32))) x) else k_Co_countSourceTurn_2 l1 fu ((l2 + (1 : Int32))) x) else (k_Co_endCounted x).bind fun o3 => some o3)
theorem w_Co_countSourceTurn_2 {X : zX} {c : zY} {q : Nat → Nat} {l1 : Int32} {out : zsC} (hX : Ok X zr_Co zb_Co_countSourceTurn 3 3 c) (hR : Rt X none none (zwC c q out)) : ∀ (fu : Nat) (l2 : Int32) (x : zsC), k_Co_countSourceTurn_2 l1 fu l2 x = some out → Go X (zwC c q x) [(0, .ref ((q 2))), (1, .int l1), (2, .int l2)] 2 [] := by
  intro fu
  induction fu with
  | zero => intro l2 x h; rw [k_Co_countSourceTurn_2] at h; cases h
  | succ fu ih =>
    intro l2 x h
    rw [k_Co_countSourceTurn_2] at h
    refine g_iload_n (pc := 2) hX d_Co_countSourceTurn_2 rfl 2 rfl ?_
    refine g_aload_n (pc := 3) hX d_Co_countSourceTurn_3 rfl 0 rfl ?_
    refine gf_Co_16 (pc := 4) (v := .ref ((q 3))) hX 2 rfl rfl d_Co_countSourceTurn_4 ?_
    obtain ⟨o1, e1, h⟩ := zbind h
    refine g_cvI (pc := 7)  (st := [.int l2]) (w' := (zwC c q x)) hX zk_Ta_used zs_Ta_used zL_Co_28 (c_Ta_used c (q 3) (q 4) 6 2304 x.2.1 e1) rfl rfl rfl rfl (sp_Co_Ta_3 c q x) (sp_Co_Ta_3 c q x).symm 3 6 rfl rfl rfl d_Co_countSourceTurn_7 ?_
    refine g_icmp_ge (pc := 10) (tgt := 65) hX d_Co_countSourceTurn_10 (by decide) h (fun c2 h => ?_) (fun c2 h => ?_)
    · refine g_aload_n (pc := 65) hX d_Co_countSourceTurn_65 rfl 0 rfl ?_
      obtain ⟨o3, e3, h⟩ := zbind h
      refine g_cvV (pc := 66) (w1 := []) (w2 := []) (st := []) (w' := (zwC c q o3)) hX zk_Co_endCounted zs_Co_endCounted zL_Co_60 (c_Co_endCounted c q x e3) rfl rfl rfl rfl (zself _) (zself _).symm 2 1 rfl rfl rfl d_Co_countSourceTurn_66 ?_
      cases h
      exact g_vret (pc := 69) hX hR d_Co_countSourceTurn_69
    · refine g_aload_n (pc := 13) hX d_Co_countSourceTurn_13 rfl 0 rfl ?_
      refine gf_Co_16 (pc := 14) (v := .ref ((q 3))) hX 2 rfl rfl d_Co_countSourceTurn_14 ?_
      refine g_iload_n (pc := 17) hX d_Co_countSourceTurn_17 rfl 2 rfl ?_
      refine g_iconst (pc := 18) hX d_Co_countSourceTurn_18 zc_2 ?_
      obtain ⟨o4, e4, h⟩ := zbind h
      refine g_cvI (pc := 19)  (st := []) (w' := (zwC c q x)) hX zk_Ta_get zs_Ta_get zL_Co_36 (c_Ta_get c (q 3) (q 4) 6 2304 x.2.1 l2 ((2 : Int32)) e4) rfl rfl rfl rfl (sp_Co_Ta_3 c q x) (sp_Co_Ta_3 c q x).symm 3 6 rfl rfl rfl d_Co_countSourceTurn_19 ?_
      refine g_iload_n (pc := 22) hX d_Co_countSourceTurn_22 rfl 1 rfl ?_
      refine g_icmp_ne (pc := 23) (tgt := 59) hX d_Co_countSourceTurn_23 (by decide) h (fun c5 h => ?_) (fun c5 h => ?_)
      · refine g_iinc (pc := 59) (q := 2) (L' := [(2, .int ((l2 + (1 : Int32)))), (0, .ref ((q 2))), (1, .int l1)]) hX d_Co_countSourceTurn_59 rfl zc_1 rfl rfl ?_
        refine g_goto (pc := 62) (tgt := 2) hX d_Co_countSourceTurn_62 (by decide) ?_
        refine g_ls (L' := [(0, .ref ((q 2))), (1, .int l1), (2, .int ((l2 + (1 : Int32))))]) [1, 2, 0] rfl ?_
        exact ih _ _ h
      · refine g_aload_n (pc := 26) hX d_Co_countSourceTurn_26 rfl 0 rfl ?_
        refine gf_Co_16 (pc := 27) (v := .ref ((q 3))) hX 2 rfl rfl d_Co_countSourceTurn_27 ?_
        refine g_iload_n (pc := 30) hX d_Co_countSourceTurn_30 rfl 2 rfl ?_
        refine g_iconst (pc := 31) hX d_Co_countSourceTurn_31 zc_4 ?_
        obtain ⟨o6, e6, h⟩ := zbind h
        refine g_cvI (pc := 32)  (st := []) (w' := (zwC c q x)) hX zk_Ta_get zs_Ta_get zL_Co_36 (c_Ta_get c (q 3) (q 4) 6 2304 x.2.1 l2 ((4 : Int32)) e6) rfl rfl rfl rfl (sp_Co_Ta_3 c q x) (sp_Co_Ta_3 c q x).symm 3 6 rfl rfl rfl d_Co_countSourceTurn_32 ?_
        refine g_iconst (pc := 35) hX d_Co_countSourceTurn_35 zc_1 ?_
        refine g_icmp_ne (pc := 36) (tgt := 59) hX d_Co_countSourceTurn_36 (by decide) h (fun c7 h => ?_) (fun c7 h => ?_)
        · refine g_iinc (pc := 59) (q := 2) (L' := [(2, .int ((l2 + (1 : Int32)))), (0, .ref ((q 2))), (1, .int l1)]) hX d_Co_countSourceTurn_59 rfl zc_1 rfl rfl ?_
          refine g_goto (pc := 62) (tgt := 2) hX d_Co_countSourceTurn_62 (by decide) ?_
          refine g_ls (L' := [(0, .ref ((q 2))), (1, .int l1), (2, .int ((l2 + (1 : Int32))))]) [1, 2, 0] rfl ?_
          exact ih _ _ h
        · refine g_aload_n (pc := 39) hX d_Co_countSourceTurn_39 rfl 0 rfl ?_
          refine gf_Co_16 (pc := 40) (v := .ref ((q 3))) hX 2 rfl rfl d_Co_countSourceTurn_40 ?_
          refine g_iload_n (pc := 43) hX d_Co_countSourceTurn_43 rfl 2 rfl ?_
          refine g_iconst (pc := 44) hX d_Co_countSourceTurn_44 zc_5 ?_
          refine g_aload_n (pc := 45) hX d_Co_countSourceTurn_45 rfl 0 rfl ?_
          refine gf_Co_16 (pc := 46) (v := .ref ((q 3))) hX 2 rfl rfl d_Co_countSourceTurn_46 ?_
          refine g_iload_n (pc := 49) hX d_Co_countSourceTurn_49 rfl 2 rfl ?_
          refine g_iconst (pc := 50) hX d_Co_countSourceTurn_50 zc_5 ?_
          obtain ⟨o8, e8, h⟩ := zbind h
          refine g_cvI (pc := 51)  (st := [.int ((5 : Int32)), .int l2, .ref ((q 3))]) (w' := (zwC c q x)) hX zk_Ta_get zs_Ta_get zL_Co_36 (c_Ta_get c (q 3) (q 4) 6 2304 x.2.1 l2 ((5 : Int32)) e8) rfl rfl rfl rfl (sp_Co_Ta_3 c q x) (sp_Co_Ta_3 c q x).symm 3 6 rfl rfl rfl d_Co_countSourceTurn_51 ?_
          refine g_iconst (pc := 54) hX d_Co_countSourceTurn_54 zc_1 ?_
          refine g_isub (pc := 55) hX d_Co_countSourceTurn_55 ?_
          obtain ⟨o9, e9, h⟩ := zbind h
          refine g_cvV (pc := 56)  (st := []) (w' := (zwC c q ((x.1, o9, x.2.2)))) hX zk_Ta_set zs_Ta_set zL_Co_47 (c_Ta_set c (q 3) (q 4) 6 2304 x.2.1 l2 ((5 : Int32)) ((o8 - (1 : Int32))) e9) rfl rfl rfl rfl (sp_Co_Ta_3 c q x) (sq_Co_Ta_3 c q x o9) 3 6 rfl rfl rfl d_Co_countSourceTurn_56 ?_
          refine g_iinc (pc := 59) (q := 2) (L' := [(2, .int ((l2 + (1 : Int32)))), (0, .ref ((q 2))), (1, .int l1)]) hX d_Co_countSourceTurn_59 rfl zc_1 rfl rfl ?_
          refine g_goto (pc := 62) (tgt := 2) hX d_Co_countSourceTurn_62 (by decide) ?_
          refine g_ls (L' := [(0, .ref ((q 2))), (1, .int l1), (2, .int ((l2 + (1 : Int32))))]) [1, 2, 0] rfl ?_
          exact ih _ _ h
def k_Co_countSourceTurn (x : zsC) (l1 : Int32) : Option (zsC) := k_Co_countSourceTurn_2 l1 zFu ((0 : Int32)) x
theorem c_Co_countSourceTurn (c : zY) (q : Nat → Nat) (x : zsC) (l1 : Int32) {out : zsC} (h : k_Co_countSourceTurn x l1 = some out) : KM zy_Co_countSourceTurn zb_Co_countSourceTurn 3 none 3 c [.ref ((q 2)), .int l1] (zwC c q x) (zwC c q out) none := zK_of zp_Co rfl (Nat.le_of_ble_eq_true rfl) (zq_Co c q _ _) (fun X hX hR => by
  show Go X (zwC c q x) [(0, .ref ((q 2))), (1, .int l1)] 0 []
  rw [k_Co_countSourceTurn] at h
  refine g_iconst (pc := 0) hX d_Co_countSourceTurn_0 zc_0 ?_
  refine g_istore_n (pc := 1) (L' := [(2, .int ((0 : Int32))), (0, .ref ((q 2))), (1, .int l1)]) hX d_Co_countSourceTurn_1 rfl rfl rfl ?_
  refine g_ls (L' := [(0, .ref ((q 2))), (1, .int l1), (2, .int ((0 : Int32)))]) [1, 2, 0] rfl ?_
  exact w_Co_countSourceTurn_2 hX hR _ _ _ h)
theorem d_Co_endAllOf_0 : decode zb_Co_endAllOf 0 = .ok (.iconst 0, 1) := by decide +kernel
theorem d_Co_endAllOf_1 : decode zb_Co_endAllOf 1 = .ok (.istore_n 2, 1) := by decide +kernel
theorem d_Co_endAllOf_2 : decode zb_Co_endAllOf 2 = .ok (.iload_n 2, 1) := by decide +kernel
theorem d_Co_endAllOf_3 : decode zb_Co_endAllOf 3 = .ok (.aload_n 0, 1) := by decide +kernel
theorem d_Co_endAllOf_4 : decode zb_Co_endAllOf 4 = .ok (.getfield 16, 3) := by decide +kernel
theorem d_Co_endAllOf_7 : decode zb_Co_endAllOf 7 = .ok (.invokevirtual 28, 3) := by decide +kernel
theorem d_Co_endAllOf_10 : decode zb_Co_endAllOf 10 = .ok (.if_icmp .ge 32, 3) := by decide +kernel
theorem d_Co_endAllOf_13 : decode zb_Co_endAllOf 13 = .ok (.aload_n 0, 1) := by decide +kernel
theorem d_Co_endAllOf_14 : decode zb_Co_endAllOf 14 = .ok (.getfield 16, 3) := by decide +kernel
theorem d_Co_endAllOf_17 : decode zb_Co_endAllOf 17 = .ok (.iload_n 2, 1) := by decide +kernel
theorem d_Co_endAllOf_18 : decode zb_Co_endAllOf 18 = .ok (.iconst 1, 1) := by decide +kernel
theorem d_Co_endAllOf_19 : decode zb_Co_endAllOf 19 = .ok (.invokevirtual 36, 3) := by decide +kernel
theorem d_Co_endAllOf_22 : decode zb_Co_endAllOf 22 = .ok (.iload_n 1, 1) := by decide +kernel
theorem d_Co_endAllOf_23 : decode zb_Co_endAllOf 23 = .ok (.if_icmp .ne 13, 3) := by decide +kernel
theorem d_Co_endAllOf_26 : decode zb_Co_endAllOf 26 = .ok (.aload_n 0, 1) := by decide +kernel
theorem d_Co_endAllOf_27 : decode zb_Co_endAllOf 27 = .ok (.getfield 16, 3) := by decide +kernel
theorem d_Co_endAllOf_30 : decode zb_Co_endAllOf 30 = .ok (.iload_n 2, 1) := by decide +kernel
theorem d_Co_endAllOf_31 : decode zb_Co_endAllOf 31 = .ok (.iconst 5, 1) := by decide +kernel
theorem d_Co_endAllOf_32 : decode zb_Co_endAllOf 32 = .ok (.iconst 0, 1) := by decide +kernel
theorem d_Co_endAllOf_33 : decode zb_Co_endAllOf 33 = .ok (.invokevirtual 47, 3) := by decide +kernel
theorem d_Co_endAllOf_36 : decode zb_Co_endAllOf 36 = .ok (.iinc 2 1, 3) := by decide +kernel
theorem d_Co_endAllOf_39 : decode zb_Co_endAllOf 39 = .ok (.goto (-37), 3) := by decide +kernel
theorem d_Co_endAllOf_42 : decode zb_Co_endAllOf 42 = .ok (.aload_n 0, 1) := by decide +kernel
theorem d_Co_endAllOf_43 : decode zb_Co_endAllOf 43 = .ok (.invokevirtual 60, 3) := by decide +kernel
theorem d_Co_endAllOf_46 : decode zb_Co_endAllOf 46 = .ok (.return_, 1) := by decide +kernel
def k_Co_endAllOf_2 (l1 : Int32) : Nat → Int32 → zsC → Option (zsC)
  | 0, _, _ => none
  | fu + 1, l2, x => (k_Ta_used 6 2304 x.2.1).bind fun o1 => (if l2 < o1 then (k_Ta_get 6 2304 x.2.1 l2 ((1 : Int32))).bind fun o4 => (if o4 = l1 then (k_Ta_set 6 2304 x.2.1 l2 ((5 : Int32)) ((0 : Int32))).bind fun o6 => k_Co_endAllOf_2 l1 fu ((l2 + (1 : Int32))) ((x.1, o6, x.2.2)) else k_Co_endAllOf_2 l1 fu ((l2 + (1 : Int32))) x) else (k_Co_endCounted x).bind fun o3 => some o3)
theorem w_Co_endAllOf_2 {X : zX} {c : zY} {q : Nat → Nat} {l1 : Int32} {out : zsC} (hX : Ok X zr_Co zb_Co_endAllOf 3 3 c) (hR : Rt X none none (zwC c q out)) : ∀ (fu : Nat) (l2 : Int32) (x : zsC), k_Co_endAllOf_2 l1 fu l2 x = some out → Go X (zwC c q x) [(0, .ref ((q 2))), (1, .int l1), (2, .int l2)] 2 [] := by
  intro fu
  induction fu with
  | zero => intro l2 x h; rw [k_Co_endAllOf_2] at h; cases h
  | succ fu ih =>
    intro l2 x h
    rw [k_Co_endAllOf_2] at h
    refine g_iload_n (pc := 2) hX d_Co_endAllOf_2 rfl 2 rfl ?_
    refine g_aload_n (pc := 3) hX d_Co_endAllOf_3 rfl 0 rfl ?_
    refine gf_Co_16 (pc := 4) (v := .ref ((q 3))) hX 2 rfl rfl d_Co_endAllOf_4 ?_
    obtain ⟨o1, e1, h⟩ := zbind h
    refine g_cvI (pc := 7)  (st := [.int l2]) (w' := (zwC c q x)) hX zk_Ta_used zs_Ta_used zL_Co_28 (c_Ta_used c (q 3) (q 4) 6 2304 x.2.1 e1) rfl rfl rfl rfl (sp_Co_Ta_3 c q x) (sp_Co_Ta_3 c q x).symm 3 6 rfl rfl rfl d_Co_endAllOf_7 ?_
    refine g_icmp_ge (pc := 10) (tgt := 42) hX d_Co_endAllOf_10 (by decide) h (fun c2 h => ?_) (fun c2 h => ?_)
    · refine g_aload_n (pc := 42) hX d_Co_endAllOf_42 rfl 0 rfl ?_
      obtain ⟨o3, e3, h⟩ := zbind h
      refine g_cvV (pc := 43) (w1 := []) (w2 := []) (st := []) (w' := (zwC c q o3)) hX zk_Co_endCounted zs_Co_endCounted zL_Co_60 (c_Co_endCounted c q x e3) rfl rfl rfl rfl (zself _) (zself _).symm 2 1 rfl rfl rfl d_Co_endAllOf_43 ?_
      cases h
      exact g_vret (pc := 46) hX hR d_Co_endAllOf_46
    · refine g_aload_n (pc := 13) hX d_Co_endAllOf_13 rfl 0 rfl ?_
      refine gf_Co_16 (pc := 14) (v := .ref ((q 3))) hX 2 rfl rfl d_Co_endAllOf_14 ?_
      refine g_iload_n (pc := 17) hX d_Co_endAllOf_17 rfl 2 rfl ?_
      refine g_iconst (pc := 18) hX d_Co_endAllOf_18 zc_1 ?_
      obtain ⟨o4, e4, h⟩ := zbind h
      refine g_cvI (pc := 19)  (st := []) (w' := (zwC c q x)) hX zk_Ta_get zs_Ta_get zL_Co_36 (c_Ta_get c (q 3) (q 4) 6 2304 x.2.1 l2 ((1 : Int32)) e4) rfl rfl rfl rfl (sp_Co_Ta_3 c q x) (sp_Co_Ta_3 c q x).symm 3 6 rfl rfl rfl d_Co_endAllOf_19 ?_
      refine g_iload_n (pc := 22) hX d_Co_endAllOf_22 rfl 1 rfl ?_
      refine g_icmp_ne (pc := 23) (tgt := 36) hX d_Co_endAllOf_23 (by decide) h (fun c5 h => ?_) (fun c5 h => ?_)
      · refine g_iinc (pc := 36) (q := 2) (L' := [(2, .int ((l2 + (1 : Int32)))), (0, .ref ((q 2))), (1, .int l1)]) hX d_Co_endAllOf_36 rfl zc_1 rfl rfl ?_
        refine g_goto (pc := 39) (tgt := 2) hX d_Co_endAllOf_39 (by decide) ?_
        refine g_ls (L' := [(0, .ref ((q 2))), (1, .int l1), (2, .int ((l2 + (1 : Int32))))]) [1, 2, 0] rfl ?_
        exact ih _ _ h
      · refine g_aload_n (pc := 26) hX d_Co_endAllOf_26 rfl 0 rfl ?_
        refine gf_Co_16 (pc := 27) (v := .ref ((q 3))) hX 2 rfl rfl d_Co_endAllOf_27 ?_
        refine g_iload_n (pc := 30) hX d_Co_endAllOf_30 rfl 2 rfl ?_
        refine g_iconst (pc := 31) hX d_Co_endAllOf_31 zc_5 ?_
        refine g_iconst (pc := 32) hX d_Co_endAllOf_32 zc_0 ?_
        obtain ⟨o6, e6, h⟩ := zbind h
        refine g_cvV (pc := 33)  (st := []) (w' := (zwC c q ((x.1, o6, x.2.2)))) hX zk_Ta_set zs_Ta_set zL_Co_47 (c_Ta_set c (q 3) (q 4) 6 2304 x.2.1 l2 ((5 : Int32)) ((0 : Int32)) e6) rfl rfl rfl rfl (sp_Co_Ta_3 c q x) (sq_Co_Ta_3 c q x o6) 3 6 rfl rfl rfl d_Co_endAllOf_33 ?_
        refine g_iinc (pc := 36) (q := 2) (L' := [(2, .int ((l2 + (1 : Int32)))), (0, .ref ((q 2))), (1, .int l1)]) hX d_Co_endAllOf_36 rfl zc_1 rfl rfl ?_
        refine g_goto (pc := 39) (tgt := 2) hX d_Co_endAllOf_39 (by decide) ?_
        refine g_ls (L' := [(0, .ref ((q 2))), (1, .int l1), (2, .int ((l2 + (1 : Int32))))]) [1, 2, 0] rfl ?_
        exact ih _ _ h
def k_Co_endAllOf (x : zsC) (l1 : Int32) : Option (zsC) := k_Co_endAllOf_2 l1 zFu ((0 : Int32)) x
theorem c_Co_endAllOf (c : zY) (q : Nat → Nat) (x : zsC) (l1 : Int32) {out : zsC} (h : k_Co_endAllOf x l1 = some out) : KM zy_Co_endAllOf zb_Co_endAllOf 3 none 3 c [.ref ((q 2)), .int l1] (zwC c q x) (zwC c q out) none := zK_of zp_Co rfl (Nat.le_of_ble_eq_true rfl) (zq_Co c q _ _) (fun X hX hR => by
  show Go X (zwC c q x) [(0, .ref ((q 2))), (1, .int l1)] 0 []
  rw [k_Co_endAllOf] at h
  refine g_iconst (pc := 0) hX d_Co_endAllOf_0 zc_0 ?_
  refine g_istore_n (pc := 1) (L' := [(2, .int ((0 : Int32))), (0, .ref ((q 2))), (1, .int l1)]) hX d_Co_endAllOf_1 rfl rfl rfl ?_
  refine g_ls (L' := [(0, .ref ((q 2))), (1, .int l1), (2, .int ((0 : Int32)))]) [1, 2, 0] rfl ?_
  exact w_Co_endAllOf_2 hX hR _ _ _ h)
theorem d_Co_endHarmedOf_0 : decode zb_Co_endHarmedOf 0 = .ok (.iconst 0, 1) := by decide +kernel
theorem d_Co_endHarmedOf_1 : decode zb_Co_endHarmedOf 1 = .ok (.istore_n 2, 1) := by decide +kernel
theorem d_Co_endHarmedOf_2 : decode zb_Co_endHarmedOf 2 = .ok (.iload_n 2, 1) := by decide +kernel
theorem d_Co_endHarmedOf_3 : decode zb_Co_endHarmedOf 3 = .ok (.aload_n 0, 1) := by decide +kernel
theorem d_Co_endHarmedOf_4 : decode zb_Co_endHarmedOf 4 = .ok (.getfield 16, 3) := by decide +kernel
theorem d_Co_endHarmedOf_7 : decode zb_Co_endHarmedOf 7 = .ok (.invokevirtual 28, 3) := by decide +kernel
theorem d_Co_endHarmedOf_10 : decode zb_Co_endHarmedOf 10 = .ok (.if_icmp .ge 68, 3) := by decide +kernel
theorem d_Co_endHarmedOf_13 : decode zb_Co_endHarmedOf 13 = .ok (.aload_n 0, 1) := by decide +kernel
theorem d_Co_endHarmedOf_14 : decode zb_Co_endHarmedOf 14 = .ok (.getfield 16, 3) := by decide +kernel
theorem d_Co_endHarmedOf_17 : decode zb_Co_endHarmedOf 17 = .ok (.iload_n 2, 1) := by decide +kernel
theorem d_Co_endHarmedOf_18 : decode zb_Co_endHarmedOf 18 = .ok (.iconst 4, 1) := by decide +kernel
theorem d_Co_endHarmedOf_19 : decode zb_Co_endHarmedOf 19 = .ok (.invokevirtual 36, 3) := by decide +kernel
theorem d_Co_endHarmedOf_22 : decode zb_Co_endHarmedOf 22 = .ok (.iconst 2, 1) := by decide +kernel
theorem d_Co_endHarmedOf_23 : decode zb_Co_endHarmedOf 23 = .ok (.if_icmp .eq 16, 3) := by decide +kernel
theorem d_Co_endHarmedOf_26 : decode zb_Co_endHarmedOf 26 = .ok (.aload_n 0, 1) := by decide +kernel
theorem d_Co_endHarmedOf_27 : decode zb_Co_endHarmedOf 27 = .ok (.getfield 16, 3) := by decide +kernel
theorem d_Co_endHarmedOf_30 : decode zb_Co_endHarmedOf 30 = .ok (.iload_n 2, 1) := by decide +kernel
theorem d_Co_endHarmedOf_31 : decode zb_Co_endHarmedOf 31 = .ok (.iconst 0, 1) := by decide +kernel
theorem d_Co_endHarmedOf_32 : decode zb_Co_endHarmedOf 32 = .ok (.invokevirtual 36, 3) := by decide +kernel
theorem d_Co_endHarmedOf_35 : decode zb_Co_endHarmedOf 35 = .ok (.iconst 5, 1) := by decide +kernel
theorem d_Co_endHarmedOf_36 : decode zb_Co_endHarmedOf 36 = .ok (.if_icmp .ne 7, 3) := by decide +kernel
theorem d_Co_endHarmedOf_39 : decode zb_Co_endHarmedOf 39 = .ok (.iconst 1, 1) := by decide +kernel
theorem d_Co_endHarmedOf_40 : decode zb_Co_endHarmedOf 40 = .ok (.goto 4, 3) := by decide +kernel
theorem d_Co_endHarmedOf_43 : decode zb_Co_endHarmedOf 43 = .ok (.iconst 0, 1) := by decide +kernel
theorem d_Co_endHarmedOf_44 : decode zb_Co_endHarmedOf 44 = .ok (.istore_n 3, 1) := by decide +kernel
theorem d_Co_endHarmedOf_45 : decode zb_Co_endHarmedOf 45 = .ok (.iload_n 3, 1) := by decide +kernel
theorem d_Co_endHarmedOf_46 : decode zb_Co_endHarmedOf 46 = .ok (.ifCond .eq 26, 3) := by decide +kernel
theorem d_Co_endHarmedOf_49 : decode zb_Co_endHarmedOf 49 = .ok (.aload_n 0, 1) := by decide +kernel
theorem d_Co_endHarmedOf_50 : decode zb_Co_endHarmedOf 50 = .ok (.getfield 16, 3) := by decide +kernel
theorem d_Co_endHarmedOf_53 : decode zb_Co_endHarmedOf 53 = .ok (.iload_n 2, 1) := by decide +kernel
theorem d_Co_endHarmedOf_54 : decode zb_Co_endHarmedOf 54 = .ok (.iconst 1, 1) := by decide +kernel
theorem d_Co_endHarmedOf_55 : decode zb_Co_endHarmedOf 55 = .ok (.invokevirtual 36, 3) := by decide +kernel
theorem d_Co_endHarmedOf_58 : decode zb_Co_endHarmedOf 58 = .ok (.iload_n 1, 1) := by decide +kernel
theorem d_Co_endHarmedOf_59 : decode zb_Co_endHarmedOf 59 = .ok (.if_icmp .ne 13, 3) := by decide +kernel
theorem d_Co_endHarmedOf_62 : decode zb_Co_endHarmedOf 62 = .ok (.aload_n 0, 1) := by decide +kernel
theorem d_Co_endHarmedOf_63 : decode zb_Co_endHarmedOf 63 = .ok (.getfield 16, 3) := by decide +kernel
theorem d_Co_endHarmedOf_66 : decode zb_Co_endHarmedOf 66 = .ok (.iload_n 2, 1) := by decide +kernel
theorem d_Co_endHarmedOf_67 : decode zb_Co_endHarmedOf 67 = .ok (.iconst 5, 1) := by decide +kernel
theorem d_Co_endHarmedOf_68 : decode zb_Co_endHarmedOf 68 = .ok (.iconst 0, 1) := by decide +kernel
theorem d_Co_endHarmedOf_69 : decode zb_Co_endHarmedOf 69 = .ok (.invokevirtual 47, 3) := by decide +kernel
theorem d_Co_endHarmedOf_72 : decode zb_Co_endHarmedOf 72 = .ok (.iinc 2 1, 3) := by decide +kernel
theorem d_Co_endHarmedOf_75 : decode zb_Co_endHarmedOf 75 = .ok (.goto (-73), 3) := by decide +kernel
theorem d_Co_endHarmedOf_78 : decode zb_Co_endHarmedOf 78 = .ok (.aload_n 0, 1) := by decide +kernel
theorem d_Co_endHarmedOf_79 : decode zb_Co_endHarmedOf 79 = .ok (.invokevirtual 60, 3) := by decide +kernel
theorem d_Co_endHarmedOf_82 : decode zb_Co_endHarmedOf 82 = .ok (.return_, 1) := by decide +kernel
def k_Co_endHarmedOf_44 (l1 : Int32) (kf_2 : Int32 → zsC → Option (zsC)) (l2 : Int32) (s0 : Int32) (x : zsC) : Option (zsC) := (if s0 = 0 then kf_2 ((l2 + (1 : Int32))) x else (k_Ta_get 6 2304 x.2.1 l2 ((1 : Int32))).bind fun o7 => (if o7 = l1 then (k_Ta_set 6 2304 x.2.1 l2 ((5 : Int32)) ((0 : Int32))).bind fun o9 => kf_2 ((l2 + (1 : Int32))) ((x.1, o9, x.2.2)) else kf_2 ((l2 + (1 : Int32))) x))
theorem w_Co_endHarmedOf_44 {X : zX} {c : zY} {q : Nat → Nat} {l1 : Int32} {out : zsC} {kf_2 : Int32 → zsC → Option (zsC)} (hX : Ok X zr_Co zb_Co_endHarmedOf 4 3 c) (hR : Rt X none none (zwC c q out)) (hk_2 : ∀ (l2 : Int32) (x : zsC), kf_2 l2 x = some out → Go X (zwC c q x) [(0, .ref ((q 2))), (1, .int l1), (2, .int l2)] 2 []) : ∀ (l2 : Int32) (s0 : Int32) (x : zsC), k_Co_endHarmedOf_44 l1 kf_2 l2 s0 x = some out → Go X (zwC c q x) [(0, .ref ((q 2))), (1, .int l1), (2, .int l2)] 44 [.int s0] := by
  intro l2 s0 x h
  rw [k_Co_endHarmedOf_44] at h
  refine g_istore_n (pc := 44) (L' := [(3, .int s0), (0, .ref ((q 2))), (1, .int l1), (2, .int l2)]) hX d_Co_endHarmedOf_44 rfl rfl rfl ?_
  refine g_iload_n (pc := 45) hX d_Co_endHarmedOf_45 rfl 0 rfl ?_
  refine g_if_eq (pc := 46) (tgt := 72) hX d_Co_endHarmedOf_46 (by decide) h (fun c6 h => ?_) (fun c6 h => ?_)
  · refine g_iinc (pc := 72) (q := 3) (L' := [(2, .int ((l2 + (1 : Int32)))), (3, .int s0), (0, .ref ((q 2))), (1, .int l1)]) hX d_Co_endHarmedOf_72 rfl zc_1 rfl rfl ?_
    refine g_goto (pc := 75) (tgt := 2) hX d_Co_endHarmedOf_75 (by decide) ?_
    refine g_ls (L' := [(0, .ref ((q 2))), (1, .int l1), (2, .int ((l2 + (1 : Int32))))]) [2, 3, 0] rfl ?_
    exact hk_2 _ _ h
  · refine g_aload_n (pc := 49) hX d_Co_endHarmedOf_49 rfl 1 rfl ?_
    refine gf_Co_16 (pc := 50) (v := .ref ((q 3))) hX 2 rfl rfl d_Co_endHarmedOf_50 ?_
    refine g_iload_n (pc := 53) hX d_Co_endHarmedOf_53 rfl 3 rfl ?_
    refine g_iconst (pc := 54) hX d_Co_endHarmedOf_54 zc_1 ?_
    obtain ⟨o7, e7, h⟩ := zbind h
    refine g_cvI (pc := 55)  (st := []) (w' := (zwC c q x)) hX zk_Ta_get zs_Ta_get zL_Co_36 (c_Ta_get c (q 3) (q 4) 6 2304 x.2.1 l2 ((1 : Int32)) e7) rfl rfl rfl rfl (sp_Co_Ta_3 c q x) (sp_Co_Ta_3 c q x).symm 3 6 rfl rfl rfl d_Co_endHarmedOf_55 ?_
    refine g_iload_n (pc := 58) hX d_Co_endHarmedOf_58 rfl 2 rfl ?_
    refine g_icmp_ne (pc := 59) (tgt := 72) hX d_Co_endHarmedOf_59 (by decide) h (fun c8 h => ?_) (fun c8 h => ?_)
    · refine g_iinc (pc := 72) (q := 3) (L' := [(2, .int ((l2 + (1 : Int32)))), (3, .int s0), (0, .ref ((q 2))), (1, .int l1)]) hX d_Co_endHarmedOf_72 rfl zc_1 rfl rfl ?_
      refine g_goto (pc := 75) (tgt := 2) hX d_Co_endHarmedOf_75 (by decide) ?_
      refine g_ls (L' := [(0, .ref ((q 2))), (1, .int l1), (2, .int ((l2 + (1 : Int32))))]) [2, 3, 0] rfl ?_
      exact hk_2 _ _ h
    · refine g_aload_n (pc := 62) hX d_Co_endHarmedOf_62 rfl 1 rfl ?_
      refine gf_Co_16 (pc := 63) (v := .ref ((q 3))) hX 2 rfl rfl d_Co_endHarmedOf_63 ?_
      refine g_iload_n (pc := 66) hX d_Co_endHarmedOf_66 rfl 3 rfl ?_
      refine g_iconst (pc := 67) hX d_Co_endHarmedOf_67 zc_5 ?_
      refine g_iconst (pc := 68) hX d_Co_endHarmedOf_68 zc_0 ?_
      obtain ⟨o9, e9, h⟩ := zbind h
      refine g_cvV (pc := 69)  (st := []) (w' := (zwC c q ((x.1, o9, x.2.2)))) hX zk_Ta_set zs_Ta_set zL_Co_47 (c_Ta_set c (q 3) (q 4) 6 2304 x.2.1 l2 ((5 : Int32)) ((0 : Int32)) e9) rfl rfl rfl rfl (sp_Co_Ta_3 c q x) (sq_Co_Ta_3 c q x o9) 3 6 rfl rfl rfl d_Co_endHarmedOf_69 ?_
      refine g_iinc (pc := 72) (q := 3) (L' := [(2, .int ((l2 + (1 : Int32)))), (3, .int s0), (0, .ref ((q 2))), (1, .int l1)]) hX d_Co_endHarmedOf_72 rfl zc_1 rfl rfl ?_
      refine g_goto (pc := 75) (tgt := 2) hX d_Co_endHarmedOf_75 (by decide) ?_
      refine g_ls (L' := [(0, .ref ((q 2))), (1, .int l1), (2, .int ((l2 + (1 : Int32))))]) [2, 3, 0] rfl ?_
      exact hk_2 _ _ h
def k_Co_endHarmedOf_39 (l1 : Int32) (kf_2 : Int32 → zsC → Option (zsC)) (l2 : Int32) (x : zsC) : Option (zsC) := k_Co_endHarmedOf_44 l1 kf_2 l2 ((1 : Int32)) x
theorem w_Co_endHarmedOf_39 {X : zX} {c : zY} {q : Nat → Nat} {l1 : Int32} {out : zsC} {kf_2 : Int32 → zsC → Option (zsC)} (hX : Ok X zr_Co zb_Co_endHarmedOf 4 3 c) (hR : Rt X none none (zwC c q out)) (hk_2 : ∀ (l2 : Int32) (x : zsC), kf_2 l2 x = some out → Go X (zwC c q x) [(0, .ref ((q 2))), (1, .int l1), (2, .int l2)] 2 []) : ∀ (l2 : Int32) (x : zsC), k_Co_endHarmedOf_39 l1 kf_2 l2 x = some out → Go X (zwC c q x) [(0, .ref ((q 2))), (1, .int l1), (2, .int l2)] 39 [] := by
  intro l2 x h
  rw [k_Co_endHarmedOf_39] at h
  refine g_iconst (pc := 39) hX d_Co_endHarmedOf_39 zc_1 ?_
  refine g_goto (pc := 40) (tgt := 44) hX d_Co_endHarmedOf_40 (by decide) ?_
  exact w_Co_endHarmedOf_44 hX hR hk_2 _ _ _ h
def k_Co_endHarmedOf_2 (l1 : Int32) : Nat → Int32 → zsC → Option (zsC)
  | 0, _, _ => none
  | fu + 1, l2, x => (k_Ta_used 6 2304 x.2.1).bind fun o1 => (if l2 < o1 then (k_Ta_get 6 2304 x.2.1 l2 ((4 : Int32))).bind fun o4 => (if o4 = (2 : Int32) then k_Co_endHarmedOf_39 l1 (k_Co_endHarmedOf_2 l1 fu) l2 x else (k_Ta_get 6 2304 x.2.1 l2 ((0 : Int32))).bind fun o10 => (if o10 = (5 : Int32) then k_Co_endHarmedOf_39 l1 (k_Co_endHarmedOf_2 l1 fu) l2 x else k_Co_endHarmedOf_44 l1 (k_Co_endHarmedOf_2 l1 fu) l2 ((0 : Int32)) x)) else (k_Co_endCounted x).bind fun o3 => some o3)
theorem w_Co_endHarmedOf_2 {X : zX} {c : zY} {q : Nat → Nat} {l1 : Int32} {out : zsC} (hX : Ok X zr_Co zb_Co_endHarmedOf 4 3 c) (hR : Rt X none none (zwC c q out)) : ∀ (fu : Nat) (l2 : Int32) (x : zsC), k_Co_endHarmedOf_2 l1 fu l2 x = some out → Go X (zwC c q x) [(0, .ref ((q 2))), (1, .int l1), (2, .int l2)] 2 [] := by
  intro fu
  induction fu with
  | zero => intro l2 x h; rw [k_Co_endHarmedOf_2] at h; cases h
  | succ fu ih =>
    intro l2 x h
    rw [k_Co_endHarmedOf_2] at h
    refine g_iload_n (pc := 2) hX d_Co_endHarmedOf_2 rfl 2 rfl ?_
    refine g_aload_n (pc := 3) hX d_Co_endHarmedOf_3 rfl 0 rfl ?_
    refine gf_Co_16 (pc := 4) (v := .ref ((q 3))) hX 2 rfl rfl d_Co_endHarmedOf_4 ?_
    obtain ⟨o1, e1, h⟩ := zbind h
    refine g_cvI (pc := 7)  (st := [.int l2]) (w' := (zwC c q x)) hX zk_Ta_used zs_Ta_used zL_Co_28 (c_Ta_used c (q 3) (q 4) 6 2304 x.2.1 e1) rfl rfl rfl rfl (sp_Co_Ta_3 c q x) (sp_Co_Ta_3 c q x).symm 3 6 rfl rfl rfl d_Co_endHarmedOf_7 ?_
    refine g_icmp_ge (pc := 10) (tgt := 78) hX d_Co_endHarmedOf_10 (by decide) h (fun c2 h => ?_) (fun c2 h => ?_)
    · refine g_aload_n (pc := 78) hX d_Co_endHarmedOf_78 rfl 0 rfl ?_
      obtain ⟨o3, e3, h⟩ := zbind h
      refine g_cvV (pc := 79) (w1 := []) (w2 := []) (st := []) (w' := (zwC c q o3)) hX zk_Co_endCounted zs_Co_endCounted zL_Co_60 (c_Co_endCounted c q x e3) rfl rfl rfl rfl (zself _) (zself _).symm 2 1 rfl rfl rfl d_Co_endHarmedOf_79 ?_
      cases h
      exact g_vret (pc := 82) hX hR d_Co_endHarmedOf_82
    · refine g_aload_n (pc := 13) hX d_Co_endHarmedOf_13 rfl 0 rfl ?_
      refine gf_Co_16 (pc := 14) (v := .ref ((q 3))) hX 2 rfl rfl d_Co_endHarmedOf_14 ?_
      refine g_iload_n (pc := 17) hX d_Co_endHarmedOf_17 rfl 2 rfl ?_
      refine g_iconst (pc := 18) hX d_Co_endHarmedOf_18 zc_4 ?_
      obtain ⟨o4, e4, h⟩ := zbind h
      refine g_cvI (pc := 19)  (st := []) (w' := (zwC c q x)) hX zk_Ta_get zs_Ta_get zL_Co_36 (c_Ta_get c (q 3) (q 4) 6 2304 x.2.1 l2 ((4 : Int32)) e4) rfl rfl rfl rfl (sp_Co_Ta_3 c q x) (sp_Co_Ta_3 c q x).symm 3 6 rfl rfl rfl d_Co_endHarmedOf_19 ?_
      refine g_iconst (pc := 22) hX d_Co_endHarmedOf_22 zc_2 ?_
      refine g_icmp_eq (pc := 23) (tgt := 39) hX d_Co_endHarmedOf_23 (by decide) h (fun c5 h => ?_) (fun c5 h => ?_)
      · exact w_Co_endHarmedOf_39 hX hR ih _ _ h
      · refine g_aload_n (pc := 26) hX d_Co_endHarmedOf_26 rfl 0 rfl ?_
        refine gf_Co_16 (pc := 27) (v := .ref ((q 3))) hX 2 rfl rfl d_Co_endHarmedOf_27 ?_
        refine g_iload_n (pc := 30) hX d_Co_endHarmedOf_30 rfl 2 rfl ?_
        refine g_iconst (pc := 31) hX d_Co_endHarmedOf_31 zc_0 ?_
        obtain ⟨o10, e10, h⟩ := zbind h
        refine g_cvI (pc := 32)  (st := []) (w' := (zwC c q x)) hX zk_Ta_get zs_Ta_get zL_Co_36 (c_Ta_get c (q 3) (q 4) 6 2304 x.2.1 l2 ((0 : Int32)) e10) rfl rfl rfl rfl (sp_Co_Ta_3 c q x) (sp_Co_Ta_3 c q x).symm 3 6 rfl rfl rfl d_Co_endHarmedOf_32 ?_
        refine g_iconst (pc := 35) hX d_Co_endHarmedOf_35 zc_5 ?_
        refine g_icmp_ne (pc := 36) (tgt := 43) hX d_Co_endHarmedOf_36 (by decide) h (fun c11 h => ?_) (fun c11 h => ?_)
        · refine g_iconst (pc := 43) hX d_Co_endHarmedOf_43 zc_0 ?_
          exact w_Co_endHarmedOf_44 hX hR ih _ _ _ h
        · exact w_Co_endHarmedOf_39 hX hR ih _ _ h
def k_Co_endHarmedOf (x : zsC) (l1 : Int32) : Option (zsC) := k_Co_endHarmedOf_2 l1 zFu ((0 : Int32)) x
theorem c_Co_endHarmedOf (c : zY) (q : Nat → Nat) (x : zsC) (l1 : Int32) {out : zsC} (h : k_Co_endHarmedOf x l1 = some out) : KM zy_Co_endHarmedOf zb_Co_endHarmedOf 4 none 3 c [.ref ((q 2)), .int l1] (zwC c q x) (zwC c q out) none := zK_of zp_Co rfl (Nat.le_of_ble_eq_true rfl) (zq_Co c q _ _) (fun X hX hR => by
  show Go X (zwC c q x) [(0, .ref ((q 2))), (1, .int l1)] 0 []
  rw [k_Co_endHarmedOf] at h
  refine g_iconst (pc := 0) hX d_Co_endHarmedOf_0 zc_0 ?_
  refine g_istore_n (pc := 1) (L' := [(2, .int ((0 : Int32))), (0, .ref ((q 2))), (1, .int l1)]) hX d_Co_endHarmedOf_1 rfl rfl rfl ?_
  refine g_ls (L' := [(0, .ref ((q 2))), (1, .int l1), (2, .int ((0 : Int32)))]) [1, 2, 0] rfl ?_
  exact w_Co_endHarmedOf_2 hX hR _ _ _ h)
theorem d_Co_endOfEncounter_0 : decode zb_Co_endOfEncounter 0 = .ok (.iconst 0, 1) := by decide +kernel
theorem d_Co_endOfEncounter_1 : decode zb_Co_endOfEncounter 1 = .ok (.istore_n 1, 1) := by decide +kernel
theorem d_Co_endOfEncounter_2 : decode zb_Co_endOfEncounter 2 = .ok (.iload_n 1, 1) := by decide +kernel
theorem d_Co_endOfEncounter_3 : decode zb_Co_endOfEncounter 3 = .ok (.aload_n 0, 1) := by decide +kernel
theorem d_Co_endOfEncounter_4 : decode zb_Co_endOfEncounter 4 = .ok (.getfield 16, 3) := by decide +kernel
theorem d_Co_endOfEncounter_7 : decode zb_Co_endOfEncounter 7 = .ok (.invokevirtual 28, 3) := by decide +kernel
theorem d_Co_endOfEncounter_10 : decode zb_Co_endOfEncounter 10 = .ok (.if_icmp .ge 44, 3) := by decide +kernel
theorem d_Co_endOfEncounter_13 : decode zb_Co_endOfEncounter 13 = .ok (.aload_n 0, 1) := by decide +kernel
theorem d_Co_endOfEncounter_14 : decode zb_Co_endOfEncounter 14 = .ok (.getfield 16, 3) := by decide +kernel
theorem d_Co_endOfEncounter_17 : decode zb_Co_endOfEncounter 17 = .ok (.iload_n 1, 1) := by decide +kernel
theorem d_Co_endOfEncounter_18 : decode zb_Co_endOfEncounter 18 = .ok (.iconst 4, 1) := by decide +kernel
theorem d_Co_endOfEncounter_19 : decode zb_Co_endOfEncounter 19 = .ok (.invokevirtual 36, 3) := by decide +kernel
theorem d_Co_endOfEncounter_22 : decode zb_Co_endOfEncounter 22 = .ok (.ifCond .eq 16, 3) := by decide +kernel
theorem d_Co_endOfEncounter_25 : decode zb_Co_endOfEncounter 25 = .ok (.aload_n 0, 1) := by decide +kernel
theorem d_Co_endOfEncounter_26 : decode zb_Co_endOfEncounter 26 = .ok (.getfield 16, 3) := by decide +kernel
theorem d_Co_endOfEncounter_29 : decode zb_Co_endOfEncounter 29 = .ok (.iload_n 1, 1) := by decide +kernel
theorem d_Co_endOfEncounter_30 : decode zb_Co_endOfEncounter 30 = .ok (.iconst 4, 1) := by decide +kernel
theorem d_Co_endOfEncounter_31 : decode zb_Co_endOfEncounter 31 = .ok (.invokevirtual 36, 3) := by decide +kernel
theorem d_Co_endOfEncounter_34 : decode zb_Co_endOfEncounter 34 = .ok (.iconst 1, 1) := by decide +kernel
theorem d_Co_endOfEncounter_35 : decode zb_Co_endOfEncounter 35 = .ok (.if_icmp .ne 13, 3) := by decide +kernel
theorem d_Co_endOfEncounter_38 : decode zb_Co_endOfEncounter 38 = .ok (.aload_n 0, 1) := by decide +kernel
theorem d_Co_endOfEncounter_39 : decode zb_Co_endOfEncounter 39 = .ok (.getfield 16, 3) := by decide +kernel
theorem d_Co_endOfEncounter_42 : decode zb_Co_endOfEncounter 42 = .ok (.iload_n 1, 1) := by decide +kernel
theorem d_Co_endOfEncounter_43 : decode zb_Co_endOfEncounter 43 = .ok (.iconst 5, 1) := by decide +kernel
theorem d_Co_endOfEncounter_44 : decode zb_Co_endOfEncounter 44 = .ok (.iconst 0, 1) := by decide +kernel
theorem d_Co_endOfEncounter_45 : decode zb_Co_endOfEncounter 45 = .ok (.invokevirtual 47, 3) := by decide +kernel
theorem d_Co_endOfEncounter_48 : decode zb_Co_endOfEncounter 48 = .ok (.iinc 1 1, 3) := by decide +kernel
theorem d_Co_endOfEncounter_51 : decode zb_Co_endOfEncounter 51 = .ok (.goto (-49), 3) := by decide +kernel
theorem d_Co_endOfEncounter_54 : decode zb_Co_endOfEncounter 54 = .ok (.aload_n 0, 1) := by decide +kernel
theorem d_Co_endOfEncounter_55 : decode zb_Co_endOfEncounter 55 = .ok (.invokevirtual 60, 3) := by decide +kernel
theorem d_Co_endOfEncounter_58 : decode zb_Co_endOfEncounter 58 = .ok (.return_, 1) := by decide +kernel
def k_Co_endOfEncounter_38 (kf_2 : Int32 → zsC → Option (zsC)) (l1 : Int32) (x : zsC) : Option (zsC) := (k_Ta_set 6 2304 x.2.1 l1 ((5 : Int32)) ((0 : Int32))).bind fun o6 => kf_2 ((l1 + (1 : Int32))) ((x.1, o6, x.2.2))
theorem w_Co_endOfEncounter_38 {X : zX} {c : zY} {q : Nat → Nat} {out : zsC} {kf_2 : Int32 → zsC → Option (zsC)} (hX : Ok X zr_Co zb_Co_endOfEncounter 2 3 c) (hR : Rt X none none (zwC c q out)) (hk_2 : ∀ (l1 : Int32) (x : zsC), kf_2 l1 x = some out → Go X (zwC c q x) [(0, .ref ((q 2))), (1, .int l1)] 2 []) : ∀ (l1 : Int32) (x : zsC), k_Co_endOfEncounter_38 kf_2 l1 x = some out → Go X (zwC c q x) [(0, .ref ((q 2))), (1, .int l1)] 38 [] := by
  intro l1 x h
  rw [k_Co_endOfEncounter_38] at h
  refine g_aload_n (pc := 38) hX d_Co_endOfEncounter_38 rfl 0 rfl ?_
  refine gf_Co_16 (pc := 39) (v := .ref ((q 3))) hX 2 rfl rfl d_Co_endOfEncounter_39 ?_
  refine g_iload_n (pc := 42) hX d_Co_endOfEncounter_42 rfl 1 rfl ?_
  refine g_iconst (pc := 43) hX d_Co_endOfEncounter_43 zc_5 ?_
  refine g_iconst (pc := 44) hX d_Co_endOfEncounter_44 zc_0 ?_
  obtain ⟨o6, e6, h⟩ := zbind h
  refine g_cvV (pc := 45)  (st := []) (w' := (zwC c q ((x.1, o6, x.2.2)))) hX zk_Ta_set zs_Ta_set zL_Co_47 (c_Ta_set c (q 3) (q 4) 6 2304 x.2.1 l1 ((5 : Int32)) ((0 : Int32)) e6) rfl rfl rfl rfl (sp_Co_Ta_3 c q x) (sq_Co_Ta_3 c q x o6) 3 6 rfl rfl rfl d_Co_endOfEncounter_45 ?_
  refine g_iinc (pc := 48) (q := 1) (L' := [(1, .int ((l1 + (1 : Int32)))), (0, .ref ((q 2)))]) hX d_Co_endOfEncounter_48 rfl zc_1 rfl rfl ?_
  refine g_goto (pc := 51) (tgt := 2) hX d_Co_endOfEncounter_51 (by decide) ?_
  refine g_ls (L' := [(0, .ref ((q 2))), (1, .int ((l1 + (1 : Int32))))]) [1, 0] rfl ?_
  exact hk_2 _ _ h
def k_Co_endOfEncounter_2 : Nat → Int32 → zsC → Option (zsC)
  | 0, _, _ => none
  | fu + 1, l1, x => (k_Ta_used 6 2304 x.2.1).bind fun o1 => (if l1 < o1 then (k_Ta_get 6 2304 x.2.1 l1 ((4 : Int32))).bind fun o4 => (if o4 = 0 then k_Co_endOfEncounter_38 (k_Co_endOfEncounter_2 fu) l1 x else (k_Ta_get 6 2304 x.2.1 l1 ((4 : Int32))).bind fun o7 => (if o7 = (1 : Int32) then k_Co_endOfEncounter_38 (k_Co_endOfEncounter_2 fu) l1 x else k_Co_endOfEncounter_2 fu ((l1 + (1 : Int32))) x)) else (k_Co_endCounted x).bind fun o3 => some o3)
theorem w_Co_endOfEncounter_2 {X : zX} {c : zY} {q : Nat → Nat} {out : zsC} (hX : Ok X zr_Co zb_Co_endOfEncounter 2 3 c) (hR : Rt X none none (zwC c q out)) : ∀ (fu : Nat) (l1 : Int32) (x : zsC), k_Co_endOfEncounter_2 fu l1 x = some out → Go X (zwC c q x) [(0, .ref ((q 2))), (1, .int l1)] 2 [] := by
  intro fu
  induction fu with
  | zero => intro l1 x h; rw [k_Co_endOfEncounter_2] at h; cases h
  | succ fu ih =>
    intro l1 x h
    rw [k_Co_endOfEncounter_2] at h
    refine g_iload_n (pc := 2) hX d_Co_endOfEncounter_2 rfl 1 rfl ?_
    refine g_aload_n (pc := 3) hX d_Co_endOfEncounter_3 rfl 0 rfl ?_
    refine gf_Co_16 (pc := 4) (v := .ref ((q 3))) hX 2 rfl rfl d_Co_endOfEncounter_4 ?_
    obtain ⟨o1, e1, h⟩ := zbind h
    refine g_cvI (pc := 7)  (st := [.int l1]) (w' := (zwC c q x)) hX zk_Ta_used zs_Ta_used zL_Co_28 (c_Ta_used c (q 3) (q 4) 6 2304 x.2.1 e1) rfl rfl rfl rfl (sp_Co_Ta_3 c q x) (sp_Co_Ta_3 c q x).symm 3 6 rfl rfl rfl d_Co_endOfEncounter_7 ?_
    refine g_icmp_ge (pc := 10) (tgt := 54) hX d_Co_endOfEncounter_10 (by decide) h (fun c2 h => ?_) (fun c2 h => ?_)
    · refine g_aload_n (pc := 54) hX d_Co_endOfEncounter_54 rfl 0 rfl ?_
      obtain ⟨o3, e3, h⟩ := zbind h
      refine g_cvV (pc := 55) (w1 := []) (w2 := []) (st := []) (w' := (zwC c q o3)) hX zk_Co_endCounted zs_Co_endCounted zL_Co_60 (c_Co_endCounted c q x e3) rfl rfl rfl rfl (zself _) (zself _).symm 2 1 rfl rfl rfl d_Co_endOfEncounter_55 ?_
      cases h
      exact g_vret (pc := 58) hX hR d_Co_endOfEncounter_58
    · refine g_aload_n (pc := 13) hX d_Co_endOfEncounter_13 rfl 0 rfl ?_
      refine gf_Co_16 (pc := 14) (v := .ref ((q 3))) hX 2 rfl rfl d_Co_endOfEncounter_14 ?_
      refine g_iload_n (pc := 17) hX d_Co_endOfEncounter_17 rfl 1 rfl ?_
      refine g_iconst (pc := 18) hX d_Co_endOfEncounter_18 zc_4 ?_
      obtain ⟨o4, e4, h⟩ := zbind h
      refine g_cvI (pc := 19)  (st := []) (w' := (zwC c q x)) hX zk_Ta_get zs_Ta_get zL_Co_36 (c_Ta_get c (q 3) (q 4) 6 2304 x.2.1 l1 ((4 : Int32)) e4) rfl rfl rfl rfl (sp_Co_Ta_3 c q x) (sp_Co_Ta_3 c q x).symm 3 6 rfl rfl rfl d_Co_endOfEncounter_19 ?_
      refine g_if_eq (pc := 22) (tgt := 38) hX d_Co_endOfEncounter_22 (by decide) h (fun c5 h => ?_) (fun c5 h => ?_)
      · exact w_Co_endOfEncounter_38 hX hR ih _ _ h
      · refine g_aload_n (pc := 25) hX d_Co_endOfEncounter_25 rfl 0 rfl ?_
        refine gf_Co_16 (pc := 26) (v := .ref ((q 3))) hX 2 rfl rfl d_Co_endOfEncounter_26 ?_
        refine g_iload_n (pc := 29) hX d_Co_endOfEncounter_29 rfl 1 rfl ?_
        refine g_iconst (pc := 30) hX d_Co_endOfEncounter_30 zc_4 ?_
        obtain ⟨o7, e7, h⟩ := zbind h
        refine g_cvI (pc := 31)  (st := []) (w' := (zwC c q x)) hX zk_Ta_get zs_Ta_get zL_Co_36 (c_Ta_get c (q 3) (q 4) 6 2304 x.2.1 l1 ((4 : Int32)) e7) rfl rfl rfl rfl (sp_Co_Ta_3 c q x) (sp_Co_Ta_3 c q x).symm 3 6 rfl rfl rfl d_Co_endOfEncounter_31 ?_
        refine g_iconst (pc := 34) hX d_Co_endOfEncounter_34 zc_1 ?_
        refine g_icmp_ne (pc := 35) (tgt := 48) hX d_Co_endOfEncounter_35 (by decide) h (fun c8 h => ?_) (fun c8 h => ?_)
        · refine g_iinc (pc := 48) (q := 1) (L' := [(1, .int ((l1 + (1 : Int32)))), (0, .ref ((q 2)))]) hX d_Co_endOfEncounter_48 rfl zc_1 rfl rfl ?_
          refine g_goto (pc := 51) (tgt := 2) hX d_Co_endOfEncounter_51 (by decide) ?_
          refine g_ls (L' := [(0, .ref ((q 2))), (1, .int ((l1 + (1 : Int32))))]) [1, 0] rfl ?_
          exact ih _ _ h
        · exact w_Co_endOfEncounter_38 hX hR ih _ _ h
def k_Co_endOfEncounter (x : zsC) : Option (zsC) := k_Co_endOfEncounter_2 zFu ((0 : Int32)) x
theorem c_Co_endOfEncounter (c : zY) (q : Nat → Nat) (x : zsC) {out : zsC} (h : k_Co_endOfEncounter x = some out) : KM zy_Co_endOfEncounter zb_Co_endOfEncounter 2 none 3 c [.ref ((q 2))] (zwC c q x) (zwC c q out) none := zK_of zp_Co rfl (Nat.le_of_ble_eq_true rfl) (zq_Co c q _ _) (fun X hX hR => by
  show Go X (zwC c q x) [(0, .ref ((q 2)))] 0 []
  rw [k_Co_endOfEncounter] at h
  refine g_iconst (pc := 0) hX d_Co_endOfEncounter_0 zc_0 ?_
  refine g_istore_n (pc := 1) (L' := [(1, .int ((0 : Int32))), (0, .ref ((q 2)))]) hX d_Co_endOfEncounter_1 rfl rfl rfl ?_
  refine g_ls (L' := [(0, .ref ((q 2))), (1, .int ((0 : Int32)))]) [1, 0] rfl ?_
  exact w_Co_endOfEncounter_2 hX hR _ _ _ h)
theorem d_Co_endWith_0 : decode zb_Co_endWith 0 = .ok (.iconst 0, 1) := by decide +kernel
theorem d_Co_endWith_1 : decode zb_Co_endWith 1 = .ok (.istore_n 2, 1) := by decide +kernel
theorem d_Co_endWith_2 : decode zb_Co_endWith 2 = .ok (.iload_n 2, 1) := by decide +kernel
theorem d_Co_endWith_3 : decode zb_Co_endWith 3 = .ok (.aload_n 0, 1) := by decide +kernel
theorem d_Co_endWith_4 : decode zb_Co_endWith 4 = .ok (.getfield 16, 3) := by decide +kernel
theorem d_Co_endWith_7 : decode zb_Co_endWith 7 = .ok (.invokevirtual 28, 3) := by decide +kernel
theorem d_Co_endWith_10 : decode zb_Co_endWith 10 = .ok (.if_icmp .ge 32, 3) := by decide +kernel
theorem d_Co_endWith_13 : decode zb_Co_endWith 13 = .ok (.aload_n 0, 1) := by decide +kernel
theorem d_Co_endWith_14 : decode zb_Co_endWith 14 = .ok (.getfield 16, 3) := by decide +kernel
theorem d_Co_endWith_17 : decode zb_Co_endWith 17 = .ok (.iload_n 2, 1) := by decide +kernel
theorem d_Co_endWith_18 : decode zb_Co_endWith 18 = .ok (.iconst 4, 1) := by decide +kernel
theorem d_Co_endWith_19 : decode zb_Co_endWith 19 = .ok (.invokevirtual 36, 3) := by decide +kernel
theorem d_Co_endWith_22 : decode zb_Co_endWith 22 = .ok (.iload_n 1, 1) := by decide +kernel
theorem d_Co_endWith_23 : decode zb_Co_endWith 23 = .ok (.if_icmp .ne 13, 3) := by decide +kernel
theorem d_Co_endWith_26 : decode zb_Co_endWith 26 = .ok (.aload_n 0, 1) := by decide +kernel
theorem d_Co_endWith_27 : decode zb_Co_endWith 27 = .ok (.getfield 16, 3) := by decide +kernel
theorem d_Co_endWith_30 : decode zb_Co_endWith 30 = .ok (.iload_n 2, 1) := by decide +kernel
theorem d_Co_endWith_31 : decode zb_Co_endWith 31 = .ok (.iconst 5, 1) := by decide +kernel
theorem d_Co_endWith_32 : decode zb_Co_endWith 32 = .ok (.iconst 0, 1) := by decide +kernel
theorem d_Co_endWith_33 : decode zb_Co_endWith 33 = .ok (.invokevirtual 47, 3) := by decide +kernel
theorem d_Co_endWith_36 : decode zb_Co_endWith 36 = .ok (.iinc 2 1, 3) := by decide +kernel
theorem d_Co_endWith_39 : decode zb_Co_endWith 39 = .ok (.goto (-37), 3) := by decide +kernel
theorem d_Co_endWith_42 : decode zb_Co_endWith 42 = .ok (.aload_n 0, 1) := by decide +kernel
theorem d_Co_endWith_43 : decode zb_Co_endWith 43 = .ok (.invokevirtual 60, 3) := by decide +kernel
theorem d_Co_endWith_46 : decode zb_Co_endWith 46 = .ok (.return_, 1) := by decide +kernel
def k_Co_endWith_2 (l1 : Int32) : Nat → Int32 → zsC → Option (zsC)
  | 0, _, _ => none
  | fu + 1, l2, x => (k_Ta_used 6 2304 x.2.1).bind fun o1 => (if l2 < o1 then (k_Ta_get 6 2304 x.2.1 l2 ((4 : Int32))).bind fun o4 => (if o4 = l1 then (k_Ta_set 6 2304 x.2.1 l2 ((5 : Int32)) ((0 : Int32))).bind fun o6 => k_Co_endWith_2 l1 fu ((l2 + (1 : Int32))) ((x.1, o6, x.2.2)) else k_Co_endWith_2 l1 fu ((l2 + (1 : Int32))) x) else (k_Co_endCounted x).bind fun o3 => some o3)
theorem w_Co_endWith_2 {X : zX} {c : zY} {q : Nat → Nat} {l1 : Int32} {out : zsC} (hX : Ok X zr_Co zb_Co_endWith 3 3 c) (hR : Rt X none none (zwC c q out)) : ∀ (fu : Nat) (l2 : Int32) (x : zsC), k_Co_endWith_2 l1 fu l2 x = some out → Go X (zwC c q x) [(0, .ref ((q 2))), (1, .int l1), (2, .int l2)] 2 [] := by
  intro fu
  induction fu with
  | zero => intro l2 x h; rw [k_Co_endWith_2] at h; cases h
  | succ fu ih =>
    intro l2 x h
    rw [k_Co_endWith_2] at h
    refine g_iload_n (pc := 2) hX d_Co_endWith_2 rfl 2 rfl ?_
    refine g_aload_n (pc := 3) hX d_Co_endWith_3 rfl 0 rfl ?_
    refine gf_Co_16 (pc := 4) (v := .ref ((q 3))) hX 2 rfl rfl d_Co_endWith_4 ?_
    obtain ⟨o1, e1, h⟩ := zbind h
    refine g_cvI (pc := 7)  (st := [.int l2]) (w' := (zwC c q x)) hX zk_Ta_used zs_Ta_used zL_Co_28 (c_Ta_used c (q 3) (q 4) 6 2304 x.2.1 e1) rfl rfl rfl rfl (sp_Co_Ta_3 c q x) (sp_Co_Ta_3 c q x).symm 3 6 rfl rfl rfl d_Co_endWith_7 ?_
    refine g_icmp_ge (pc := 10) (tgt := 42) hX d_Co_endWith_10 (by decide) h (fun c2 h => ?_) (fun c2 h => ?_)
    · refine g_aload_n (pc := 42) hX d_Co_endWith_42 rfl 0 rfl ?_
      obtain ⟨o3, e3, h⟩ := zbind h
      refine g_cvV (pc := 43) (w1 := []) (w2 := []) (st := []) (w' := (zwC c q o3)) hX zk_Co_endCounted zs_Co_endCounted zL_Co_60 (c_Co_endCounted c q x e3) rfl rfl rfl rfl (zself _) (zself _).symm 2 1 rfl rfl rfl d_Co_endWith_43 ?_
      cases h
      exact g_vret (pc := 46) hX hR d_Co_endWith_46
    · refine g_aload_n (pc := 13) hX d_Co_endWith_13 rfl 0 rfl ?_
      refine gf_Co_16 (pc := 14) (v := .ref ((q 3))) hX 2 rfl rfl d_Co_endWith_14 ?_
      refine g_iload_n (pc := 17) hX d_Co_endWith_17 rfl 2 rfl ?_
      refine g_iconst (pc := 18) hX d_Co_endWith_18 zc_4 ?_
      obtain ⟨o4, e4, h⟩ := zbind h
      refine g_cvI (pc := 19)  (st := []) (w' := (zwC c q x)) hX zk_Ta_get zs_Ta_get zL_Co_36 (c_Ta_get c (q 3) (q 4) 6 2304 x.2.1 l2 ((4 : Int32)) e4) rfl rfl rfl rfl (sp_Co_Ta_3 c q x) (sp_Co_Ta_3 c q x).symm 3 6 rfl rfl rfl d_Co_endWith_19 ?_
      refine g_iload_n (pc := 22) hX d_Co_endWith_22 rfl 1 rfl ?_
      refine g_icmp_ne (pc := 23) (tgt := 36) hX d_Co_endWith_23 (by decide) h (fun c5 h => ?_) (fun c5 h => ?_)
      · refine g_iinc (pc := 36) (q := 2) (L' := [(2, .int ((l2 + (1 : Int32)))), (0, .ref ((q 2))), (1, .int l1)]) hX d_Co_endWith_36 rfl zc_1 rfl rfl ?_
        refine g_goto (pc := 39) (tgt := 2) hX d_Co_endWith_39 (by decide) ?_
        refine g_ls (L' := [(0, .ref ((q 2))), (1, .int l1), (2, .int ((l2 + (1 : Int32))))]) [1, 2, 0] rfl ?_
        exact ih _ _ h
      · refine g_aload_n (pc := 26) hX d_Co_endWith_26 rfl 0 rfl ?_
        refine gf_Co_16 (pc := 27) (v := .ref ((q 3))) hX 2 rfl rfl d_Co_endWith_27 ?_
        refine g_iload_n (pc := 30) hX d_Co_endWith_30 rfl 2 rfl ?_
        refine g_iconst (pc := 31) hX d_Co_endWith_31 zc_5 ?_
        refine g_iconst (pc := 32) hX d_Co_endWith_32 zc_0 ?_
        obtain ⟨o6, e6, h⟩ := zbind h
        refine g_cvV (pc := 33)  (st := []) (w' := (zwC c q ((x.1, o6, x.2.2)))) hX zk_Ta_set zs_Ta_set zL_Co_47 (c_Ta_set c (q 3) (q 4) 6 2304 x.2.1 l2 ((5 : Int32)) ((0 : Int32)) e6) rfl rfl rfl rfl (sp_Co_Ta_3 c q x) (sq_Co_Ta_3 c q x o6) 3 6 rfl rfl rfl d_Co_endWith_33 ?_
        refine g_iinc (pc := 36) (q := 2) (L' := [(2, .int ((l2 + (1 : Int32)))), (0, .ref ((q 2))), (1, .int l1)]) hX d_Co_endWith_36 rfl zc_1 rfl rfl ?_
        refine g_goto (pc := 39) (tgt := 2) hX d_Co_endWith_39 (by decide) ?_
        refine g_ls (L' := [(0, .ref ((q 2))), (1, .int l1), (2, .int ((l2 + (1 : Int32))))]) [1, 2, 0] rfl ?_
        exact ih _ _ h
def k_Co_endWith (x : zsC) (l1 : Int32) : Option (zsC) := k_Co_endWith_2 l1 zFu ((0 : Int32)) x
theorem c_Co_endWith (c : zY) (q : Nat → Nat) (x : zsC) (l1 : Int32) {out : zsC} (h : k_Co_endWith x l1 = some out) : KM zy_Co_endWith zb_Co_endWith 3 none 3 c [.ref ((q 2)), .int l1] (zwC c q x) (zwC c q out) none := zK_of zp_Co rfl (Nat.le_of_ble_eq_true rfl) (zq_Co c q _ _) (fun X hX hR => by
  show Go X (zwC c q x) [(0, .ref ((q 2))), (1, .int l1)] 0 []
  rw [k_Co_endWith] at h
  refine g_iconst (pc := 0) hX d_Co_endWith_0 zc_0 ?_
  refine g_istore_n (pc := 1) (L' := [(2, .int ((0 : Int32))), (0, .ref ((q 2))), (1, .int l1)]) hX d_Co_endWith_1 rfl rfl rfl ?_
  refine g_ls (L' := [(0, .ref ((q 2))), (1, .int l1), (2, .int ((0 : Int32)))]) [1, 2, 0] rfl ?_
  exact w_Co_endWith_2 hX hR _ _ _ h)
end
section
theorem d_Fi_size_0 : decode zb_Fi_size 0 = .ok (.aload_n 0, 1) := by decide +kernel
theorem d_Fi_size_1 : decode zb_Fi_size 1 = .ok (.getfield 16, 3) := by decide +kernel
theorem d_Fi_size_4 : decode zb_Fi_size 4 = .ok (.invokevirtual 28, 3) := by decide +kernel
theorem d_Fi_size_7 : decode zb_Fi_size 7 = .ok (.ireturn, 1) := by decide +kernel
def k_Fi_size (x : zsF) : Option (Int32) := (k_Ta_used 13 104 x.2.1).bind fun o1 => some o1
theorem c_Fi_size (c : zY) (q : Nat → Nat) (x : zsF) {out : Int32} (h : k_Fi_size x = some out) : KM zy_Fi_size zb_Fi_size 1 (some .int) 1 c [.ref ((q 6))] (zwF c q x) (zwF c q x) (some (.int out)) := zK_of zp_Fi rfl (Nat.le_of_ble_eq_true rfl) (zq_Fi c q _ _) (fun X hX hR => by
  show Go X (zwF c q x) [(0, .ref ((q 6)))] 0 []
  rw [k_Fi_size] at h
  refine g_aload_n (pc := 0) hX d_Fi_size_0 rfl 0 rfl ?_
  refine gf_Fi_16 (pc := 1) (v := .ref ((q 7))) hX 6 rfl rfl d_Fi_size_1 ?_
  obtain ⟨o1, e1, h⟩ := zbind h
  refine g_cvI (pc := 4)  (st := []) (w' := (zwF c q x)) hX zk_Ta_used zs_Ta_used zL_Fi_28 (c_Ta_used c (q 7) (q 8) 13 104 x.2.1 e1) rfl rfl rfl rfl (sp_Fi_Ta_7 c q x) (sp_Fi_Ta_7 c q x).symm 7 6 rfl rfl rfl d_Fi_size_4 ?_
  cases h
  exact g_iret (pc := 7) hX hR d_Fi_size_7)
theorem d_Fi_has_0 : decode zb_Fi_has 0 = .ok (.aload_n 0, 1) := by decide +kernel
theorem d_Fi_has_1 : decode zb_Fi_has 1 = .ok (.getfield 16, 3) := by decide +kernel
theorem d_Fi_has_4 : decode zb_Fi_has 4 = .ok (.iload_n 1, 1) := by decide +kernel
theorem d_Fi_has_5 : decode zb_Fi_has 5 = .ok (.invokevirtual 32, 3) := by decide +kernel
theorem d_Fi_has_8 : decode zb_Fi_has 8 = .ok (.ireturn, 1) := by decide +kernel
def k_Fi_has (x : zsF) (l1 : Int32) : Option (Int32) := (k_Ta_holds 13 104 x.2.1 l1).bind fun o1 => (if o1 = 0 ∨ o1 = 1 then some o1 else none)
theorem c_Fi_has (c : zY) (q : Nat → Nat) (x : zsF) (l1 : Int32) {out : Int32} (h : k_Fi_has x l1 = some out) : KM zy_Fi_has zb_Fi_has 2 (some .boolean) 1 c [.ref ((q 6)), .int l1] (zwF c q x) (zwF c q x) (some (.int out)) := zK_of zp_Fi rfl (Nat.le_of_ble_eq_true rfl) (zq_Fi c q _ _) (fun X hX hR => by
  show Go X (zwF c q x) [(0, .ref ((q 6))), (1, .int l1)] 0 []
  rw [k_Fi_has] at h
  refine g_aload_n (pc := 0) hX d_Fi_has_0 rfl 0 rfl ?_
  refine gf_Fi_16 (pc := 1) (v := .ref ((q 7))) hX 6 rfl rfl d_Fi_has_1 ?_
  refine g_iload_n (pc := 4) hX d_Fi_has_4 rfl 1 rfl ?_
  obtain ⟨o1, e1, h⟩ := zbind h
  refine g_cvI (pc := 5)  (st := []) (w' := (zwF c q x)) hX zk_Ta_holds zs_Ta_holds zL_Fi_32 (c_Ta_holds c (q 7) (q 8) 13 104 x.2.1 l1 e1) rfl rfl rfl rfl (sp_Fi_Ta_7 c q x) (sp_Fi_Ta_7 c q x).symm 7 6 rfl rfl rfl d_Fi_has_5 ?_
  obtain ⟨hb2, h⟩ := zifb h
  cases h
  exact g_zret (pc := 8) hX hR hb2 d_Fi_has_8)
theorem d_Fi_at_0 : decode zb_Fi_at 0 = .ok (.aload_n 0, 1) := by decide +kernel
theorem d_Fi_at_1 : decode zb_Fi_at 1 = .ok (.getfield 16, 3) := by decide +kernel
theorem d_Fi_at_4 : decode zb_Fi_at 4 = .ok (.iload_n 1, 1) := by decide +kernel
theorem d_Fi_at_5 : decode zb_Fi_at 5 = .ok (.iload_n 2, 1) := by decide +kernel
theorem d_Fi_at_6 : decode zb_Fi_at 6 = .ok (.invokevirtual 36, 3) := by decide +kernel
theorem d_Fi_at_9 : decode zb_Fi_at 9 = .ok (.ireturn, 1) := by decide +kernel
def k_Fi_at (x : zsF) (l1 : Int32) (l2 : Int32) : Option (Int32) := (k_Ta_get 13 104 x.2.1 l1 l2).bind fun o1 => some o1
theorem c_Fi_at (c : zY) (q : Nat → Nat) (x : zsF) (l1 : Int32) (l2 : Int32) {out : Int32} (h : k_Fi_at x l1 l2 = some out) : KM zy_Fi_at zb_Fi_at 3 (some .int) 1 c [.ref ((q 6)), .int l1, .int l2] (zwF c q x) (zwF c q x) (some (.int out)) := zK_of zp_Fi rfl (Nat.le_of_ble_eq_true rfl) (zq_Fi c q _ _) (fun X hX hR => by
  show Go X (zwF c q x) [(0, .ref ((q 6))), (1, .int l1), (2, .int l2)] 0 []
  rw [k_Fi_at] at h
  refine g_aload_n (pc := 0) hX d_Fi_at_0 rfl 0 rfl ?_
  refine gf_Fi_16 (pc := 1) (v := .ref ((q 7))) hX 6 rfl rfl d_Fi_at_1 ?_
  refine g_iload_n (pc := 4) hX d_Fi_at_4 rfl 1 rfl ?_
  refine g_iload_n (pc := 5) hX d_Fi_at_5 rfl 2 rfl ?_
  obtain ⟨o1, e1, h⟩ := zbind h
  refine g_cvI (pc := 6)  (st := []) (w' := (zwF c q x)) hX zk_Ta_get zs_Ta_get zL_Fi_36 (c_Ta_get c (q 7) (q 8) 13 104 x.2.1 l1 l2 e1) rfl rfl rfl rfl (sp_Fi_Ta_7 c q x) (sp_Fi_Ta_7 c q x).symm 7 6 rfl rfl rfl d_Fi_at_6 ?_
  cases h
  exact g_iret (pc := 9) hX hR d_Fi_at_9)
theorem d_Fi_put_0 : decode zb_Fi_put 0 = .ok (.aload_n 0, 1) := by decide +kernel
theorem d_Fi_put_1 : decode zb_Fi_put 1 = .ok (.getfield 16, 3) := by decide +kernel
theorem d_Fi_put_4 : decode zb_Fi_put 4 = .ok (.iload_n 1, 1) := by decide +kernel
theorem d_Fi_put_5 : decode zb_Fi_put 5 = .ok (.iload_n 2, 1) := by decide +kernel
theorem d_Fi_put_6 : decode zb_Fi_put 6 = .ok (.iload_n 3, 1) := by decide +kernel
theorem d_Fi_put_7 : decode zb_Fi_put 7 = .ok (.invokevirtual 40, 3) := by decide +kernel
theorem d_Fi_put_10 : decode zb_Fi_put 10 = .ok (.return_, 1) := by decide +kernel
def k_Fi_put (x : zsF) (l1 : Int32) (l2 : Int32) (l3 : Int32) : Option (zsF) := (k_Ta_set 13 104 x.2.1 l1 l2 l3).bind fun o1 => some ((x.1, o1, x.2.2))
theorem c_Fi_put (c : zY) (q : Nat → Nat) (x : zsF) (l1 : Int32) (l2 : Int32) (l3 : Int32) {out : zsF} (h : k_Fi_put x l1 l2 l3 = some out) : KM zy_Fi_put zb_Fi_put 4 none 1 c [.ref ((q 6)), .int l1, .int l2, .int l3] (zwF c q x) (zwF c q out) none := zK_of zp_Fi rfl (Nat.le_of_ble_eq_true rfl) (zq_Fi c q _ _) (fun X hX hR => by
  show Go X (zwF c q x) [(0, .ref ((q 6))), (1, .int l1), (2, .int l2), (3, .int l3)] 0 []
  rw [k_Fi_put] at h
  refine g_aload_n (pc := 0) hX d_Fi_put_0 rfl 0 rfl ?_
  refine gf_Fi_16 (pc := 1) (v := .ref ((q 7))) hX 6 rfl rfl d_Fi_put_1 ?_
  refine g_iload_n (pc := 4) hX d_Fi_put_4 rfl 1 rfl ?_
  refine g_iload_n (pc := 5) hX d_Fi_put_5 rfl 2 rfl ?_
  refine g_iload_n (pc := 6) hX d_Fi_put_6 rfl 3 rfl ?_
  obtain ⟨o1, e1, h⟩ := zbind h
  refine g_cvV (pc := 7)  (st := []) (w' := (zwF c q ((x.1, o1, x.2.2)))) hX zk_Ta_set zs_Ta_set zL_Fi_40 (c_Ta_set c (q 7) (q 8) 13 104 x.2.1 l1 l2 l3 e1) rfl rfl rfl rfl (sp_Fi_Ta_7 c q x) (sq_Fi_Ta_7 c q x o1) 7 6 rfl rfl rfl d_Fi_put_7 ?_
  cases h
  exact g_vret (pc := 10) hX hR d_Fi_put_10)
theorem d_Fi_join_0 : decode zb_Fi_join 0 = .ok (.aload_n 0, 1) := by decide +kernel
theorem d_Fi_join_1 : decode zb_Fi_join 1 = .ok (.getfield 16, 3) := by decide +kernel
theorem d_Fi_join_4 : decode zb_Fi_join 4 = .ok (.invokevirtual 43, 3) := by decide +kernel
theorem d_Fi_join_7 : decode zb_Fi_join 7 = .ok (.istore 6, 2) := by decide +kernel
theorem d_Fi_join_9 : decode zb_Fi_join 9 = .ok (.aload_n 0, 1) := by decide +kernel
theorem d_Fi_join_10 : decode zb_Fi_join 10 = .ok (.getfield 16, 3) := by decide +kernel
theorem d_Fi_join_13 : decode zb_Fi_join 13 = .ok (.iload 6, 2) := by decide +kernel
theorem d_Fi_join_15 : decode zb_Fi_join 15 = .ok (.iconst 0, 1) := by decide +kernel
theorem d_Fi_join_16 : decode zb_Fi_join 16 = .ok (.iload_n 1, 1) := by decide +kernel
theorem d_Fi_join_17 : decode zb_Fi_join 17 = .ok (.invokevirtual 40, 3) := by decide +kernel
theorem d_Fi_join_20 : decode zb_Fi_join 20 = .ok (.aload_n 0, 1) := by decide +kernel
theorem d_Fi_join_21 : decode zb_Fi_join 21 = .ok (.getfield 16, 3) := by decide +kernel
theorem d_Fi_join_24 : decode zb_Fi_join 24 = .ok (.iload 6, 2) := by decide +kernel
theorem d_Fi_join_26 : decode zb_Fi_join 26 = .ok (.iconst 1, 1) := by decide +kernel
theorem d_Fi_join_27 : decode zb_Fi_join 27 = .ok (.iload_n 2, 1) := by decide +kernel
theorem d_Fi_join_28 : decode zb_Fi_join 28 = .ok (.invokevirtual 40, 3) := by decide +kernel
theorem d_Fi_join_31 : decode zb_Fi_join 31 = .ok (.aload_n 0, 1) := by decide +kernel
theorem d_Fi_join_32 : decode zb_Fi_join 32 = .ok (.getfield 16, 3) := by decide +kernel
theorem d_Fi_join_35 : decode zb_Fi_join 35 = .ok (.iload 6, 2) := by decide +kernel
theorem d_Fi_join_37 : decode zb_Fi_join 37 = .ok (.iconst 2, 1) := by decide +kernel
theorem d_Fi_join_38 : decode zb_Fi_join 38 = .ok (.iload_n 3, 1) := by decide +kernel
theorem d_Fi_join_39 : decode zb_Fi_join 39 = .ok (.invokevirtual 40, 3) := by decide +kernel
theorem d_Fi_join_42 : decode zb_Fi_join 42 = .ok (.aload_n 0, 1) := by decide +kernel
theorem d_Fi_join_43 : decode zb_Fi_join 43 = .ok (.getfield 16, 3) := by decide +kernel
theorem d_Fi_join_46 : decode zb_Fi_join 46 = .ok (.iload 6, 2) := by decide +kernel
theorem d_Fi_join_48 : decode zb_Fi_join 48 = .ok (.iconst 3, 1) := by decide +kernel
theorem d_Fi_join_49 : decode zb_Fi_join 49 = .ok (.iload_n 3, 1) := by decide +kernel
theorem d_Fi_join_50 : decode zb_Fi_join 50 = .ok (.invokevirtual 40, 3) := by decide +kernel
theorem d_Fi_join_53 : decode zb_Fi_join 53 = .ok (.aload_n 0, 1) := by decide +kernel
theorem d_Fi_join_54 : decode zb_Fi_join 54 = .ok (.getfield 16, 3) := by decide +kernel
theorem d_Fi_join_57 : decode zb_Fi_join 57 = .ok (.iload 6, 2) := by decide +kernel
theorem d_Fi_join_59 : decode zb_Fi_join 59 = .ok (.iconst 4, 1) := by decide +kernel
theorem d_Fi_join_60 : decode zb_Fi_join 60 = .ok (.iload 4, 2) := by decide +kernel
theorem d_Fi_join_62 : decode zb_Fi_join 62 = .ok (.invokevirtual 40, 3) := by decide +kernel
theorem d_Fi_join_65 : decode zb_Fi_join 65 = .ok (.aload_n 0, 1) := by decide +kernel
theorem d_Fi_join_66 : decode zb_Fi_join 66 = .ok (.getfield 16, 3) := by decide +kernel
theorem d_Fi_join_69 : decode zb_Fi_join 69 = .ok (.iload 6, 2) := by decide +kernel
theorem d_Fi_join_71 : decode zb_Fi_join 71 = .ok (.iconst 5, 1) := by decide +kernel
theorem d_Fi_join_72 : decode zb_Fi_join 72 = .ok (.iload 5, 2) := by decide +kernel
theorem d_Fi_join_74 : decode zb_Fi_join 74 = .ok (.invokevirtual 40, 3) := by decide +kernel
theorem d_Fi_join_77 : decode zb_Fi_join 77 = .ok (.aload_n 0, 1) := by decide +kernel
theorem d_Fi_join_78 : decode zb_Fi_join 78 = .ok (.getfield 16, 3) := by decide +kernel
theorem d_Fi_join_81 : decode zb_Fi_join 81 = .ok (.iload 6, 2) := by decide +kernel
theorem d_Fi_join_83 : decode zb_Fi_join 83 = .ok (.bipush 6, 2) := by decide +kernel
theorem d_Fi_join_85 : decode zb_Fi_join 85 = .ok (.bipush (-5), 2) := by decide +kernel
theorem d_Fi_join_87 : decode zb_Fi_join 87 = .ok (.invokevirtual 40, 3) := by decide +kernel
theorem d_Fi_join_90 : decode zb_Fi_join 90 = .ok (.iconst 0, 1) := by decide +kernel
theorem d_Fi_join_91 : decode zb_Fi_join 91 = .ok (.istore 7, 2) := by decide +kernel
theorem d_Fi_join_93 : decode zb_Fi_join 93 = .ok (.iload 7, 2) := by decide +kernel
theorem d_Fi_join_95 : decode zb_Fi_join 95 = .ok (.iconst 3, 1) := by decide +kernel
theorem d_Fi_join_96 : decode zb_Fi_join 96 = .ok (.if_icmp .ge 63, 3) := by decide +kernel
theorem d_Fi_join_99 : decode zb_Fi_join 99 = .ok (.iload 7, 2) := by decide +kernel
theorem d_Fi_join_101 : decode zb_Fi_join 101 = .ok (.ifCond .ne 7, 3) := by decide +kernel
theorem d_Fi_join_104 : decode zb_Fi_join 104 = .ok (.iconst 2, 1) := by decide +kernel
theorem d_Fi_join_105 : decode zb_Fi_join 105 = .ok (.goto 14, 3) := by decide +kernel
theorem d_Fi_join_108 : decode zb_Fi_join 108 = .ok (.iload 7, 2) := by decide +kernel
theorem d_Fi_join_110 : decode zb_Fi_join 110 = .ok (.iconst 1, 1) := by decide +kernel
theorem d_Fi_join_111 : decode zb_Fi_join 111 = .ok (.if_icmp .ne 7, 3) := by decide +kernel
theorem d_Fi_join_114 : decode zb_Fi_join 114 = .ok (.iconst 3, 1) := by decide +kernel
theorem d_Fi_join_115 : decode zb_Fi_join 115 = .ok (.goto 4, 3) := by decide +kernel
theorem d_Fi_join_118 : decode zb_Fi_join 118 = .ok (.iconst 1, 1) := by decide +kernel
theorem d_Fi_join_119 : decode zb_Fi_join 119 = .ok (.istore 8, 2) := by decide +kernel
theorem d_Fi_join_121 : decode zb_Fi_join 121 = .ok (.aload_n 0, 1) := by decide +kernel
theorem d_Fi_join_122 : decode zb_Fi_join 122 = .ok (.getfield 16, 3) := by decide +kernel
theorem d_Fi_join_125 : decode zb_Fi_join 125 = .ok (.iload 6, 2) := by decide +kernel
theorem d_Fi_join_127 : decode zb_Fi_join 127 = .ok (.bipush 7, 2) := by decide +kernel
theorem d_Fi_join_129 : decode zb_Fi_join 129 = .ok (.iload 7, 2) := by decide +kernel
theorem d_Fi_join_131 : decode zb_Fi_join 131 = .ok (.iadd, 1) := by decide +kernel
theorem d_Fi_join_132 : decode zb_Fi_join 132 = .ok (.iload 8, 2) := by decide +kernel
theorem d_Fi_join_134 : decode zb_Fi_join 134 = .ok (.invokevirtual 40, 3) := by decide +kernel
theorem d_Fi_join_137 : decode zb_Fi_join 137 = .ok (.aload_n 0, 1) := by decide +kernel
theorem d_Fi_join_138 : decode zb_Fi_join 138 = .ok (.getfield 16, 3) := by decide +kernel
theorem d_Fi_join_141 : decode zb_Fi_join 141 = .ok (.iload 6, 2) := by decide +kernel
theorem d_Fi_join_143 : decode zb_Fi_join 143 = .ok (.bipush 10, 2) := by decide +kernel
theorem d_Fi_join_145 : decode zb_Fi_join 145 = .ok (.iload 7, 2) := by decide +kernel
theorem d_Fi_join_147 : decode zb_Fi_join 147 = .ok (.iadd, 1) := by decide +kernel
theorem d_Fi_join_148 : decode zb_Fi_join 148 = .ok (.iload 8, 2) := by decide +kernel
theorem d_Fi_join_150 : decode zb_Fi_join 150 = .ok (.invokevirtual 40, 3) := by decide +kernel
theorem d_Fi_join_153 : decode zb_Fi_join 153 = .ok (.iinc 7 1, 3) := by decide +kernel
theorem d_Fi_join_156 : decode zb_Fi_join 156 = .ok (.goto (-63), 3) := by decide +kernel
theorem d_Fi_join_159 : decode zb_Fi_join 159 = .ok (.aload_n 0, 1) := by decide +kernel
theorem d_Fi_join_160 : decode zb_Fi_join 160 = .ok (.getfield 24, 3) := by decide +kernel
theorem d_Fi_join_163 : decode zb_Fi_join 163 = .ok (.iconst 0, 1) := by decide +kernel
theorem d_Fi_join_164 : decode zb_Fi_join 164 = .ok (.iload 6, 2) := by decide +kernel
theorem d_Fi_join_166 : decode zb_Fi_join 166 = .ok (.iload_n 3, 1) := by decide +kernel
theorem d_Fi_join_167 : decode zb_Fi_join 167 = .ok (.invokevirtual 46, 3) := by decide +kernel
theorem d_Fi_join_170 : decode zb_Fi_join 170 = .ok (.iload 6, 2) := by decide +kernel
theorem d_Fi_join_172 : decode zb_Fi_join 172 = .ok (.ireturn, 1) := by decide +kernel
def k_Fi_join_119 (l1 : Int32) (l2 : Int32) (l3 : Int32) (l4 : Int32) (l5 : Int32) (kf_93 : Int32 → Int32 → zsF → Option (Int32 × zsF)) (l6 : Int32) (l7 : Int32) (s0 : Int32) (x : zsF) : Option (Int32 × zsF) := (k_Ta_set 13 104 x.2.1 l6 (((7 : Int32) + l7)) s0).bind fun o13 => (k_Ta_set 13 104 o13 l6 (((10 : Int32) + l7)) s0).bind fun o14 => kf_93 l6 ((l7 + (1 : Int32))) ((x.1, o14, x.2.2))
theorem w_Fi_join_119 {X : zX} {c : zY} {q : Nat → Nat} {l1 : Int32} {l2 : Int32} {l3 : Int32} {l4 : Int32} {l5 : Int32} {out : Int32 × zsF} {kf_93 : Int32 → Int32 → zsF → Option (Int32 × zsF)} (hX : Ok X zr_Fi zb_Fi_join 9 1 c) (hR : Rt X (some .int) (some (.int out.1)) (zwF c q out.2)) (hk_93 : ∀ (l6 : Int32) (l7 : Int32) (x : zsF), kf_93 l6 l7 x = some out → Go X (zwF c q x) [(0, .ref ((q 6))), (3, .int l3), (6, .int l6), (7, .int l7)] 93 []) : ∀ (l6 : Int32) (l7 : Int32) (s0 : Int32) (x : zsF), k_Fi_join_119 l1 l2 l3 l4 l5 kf_93 l6 l7 s0 x = some out → Go X (zwF c q x) [(0, .ref ((q 6))), (3, .int l3), (6, .int l6), (7, .int l7)] 119 [.int s0] := by
  intro l6 l7 s0 x h
  rw [k_Fi_join_119] at h
  refine g_istore (pc := 119) (L' := [(8, .int s0), (0, .ref ((q 6))), (3, .int l3), (6, .int l6), (7, .int l7)]) hX d_Fi_join_119 rfl rfl ?_
  refine g_aload_n (pc := 121) hX d_Fi_join_121 rfl 1 rfl ?_
  refine gf_Fi_16 (pc := 122) (v := .ref ((q 7))) hX 6 rfl rfl d_Fi_join_122 ?_
  refine g_iload (pc := 125) hX d_Fi_join_125 3 rfl ?_
  refine g_bipush (pc := 127) hX d_Fi_join_127 ze_7 ?_
  refine g_iload (pc := 129) hX d_Fi_join_129 4 rfl ?_
  refine g_iadd (pc := 131) hX d_Fi_join_131 ?_
  refine g_iload (pc := 132) hX d_Fi_join_132 0 rfl ?_
  obtain ⟨o13, e13, h⟩ := zbind h
  refine g_cvV (pc := 134)  (st := []) (w' := (zwF c q ((x.1, o13, x.2.2)))) hX zk_Ta_set zs_Ta_set zL_Fi_40 (c_Ta_set c (q 7) (q 8) 13 104 x.2.1 l6 (((7 : Int32) + l7)) s0 e13) rfl rfl rfl rfl (sp_Fi_Ta_7 c q x) (sq_Fi_Ta_7 c q x o13) 7 6 rfl rfl rfl d_Fi_join_134 ?_
  refine g_aload_n (pc := 137) hX d_Fi_join_137 rfl 1 rfl ?_
  refine gf_Fi_16 (pc := 138) (v := .ref ((q 7))) hX 6 rfl rfl d_Fi_join_138 ?_
  refine g_iload (pc := 141) hX d_Fi_join_141 3 rfl ?_
  refine g_bipush (pc := 143) hX d_Fi_join_143 ze_10 ?_
  refine g_iload (pc := 145) hX d_Fi_join_145 4 rfl ?_
  refine g_iadd (pc := 147) hX d_Fi_join_147 ?_
  refine g_iload (pc := 148) hX d_Fi_join_148 0 rfl ?_
  obtain ⟨o14, e14, h⟩ := zbind h
  refine g_cvV (pc := 150)  (st := []) (w' := (zwF c q ((x.1, o14, x.2.2)))) hX zk_Ta_set zs_Ta_set zL_Fi_40 (c_Ta_set c (q 7) (q 8) 13 104 o13 l6 (((10 : Int32) + l7)) s0 e14) rfl rfl rfl rfl (sp_Fi_Ta_7 c q ((x.1, o13, x.2.2))) (sq_Fi_Ta_7 c q ((x.1, o13, x.2.2)) o14) 7 6 rfl rfl rfl d_Fi_join_150 ?_
  refine g_iinc (pc := 153) (q := 4) (L' := [(7, .int ((l7 + (1 : Int32)))), (8, .int s0), (0, .ref ((q 6))), (3, .int l3), (6, .int l6)]) hX d_Fi_join_153 rfl zc_1 rfl rfl ?_
  refine g_goto (pc := 156) (tgt := 93) hX d_Fi_join_156 (by decide) ?_
  refine g_ls (L' := [(0, .ref ((q 6))), (3, .int l3), (6, .int l6), (7, .int ((l7 + (1 : Int32))))]) [2, 3, 4, 0] rfl ?_
  exact hk_93 _ _ _ h
def k_Fi_join_93 (l1 : Int32) (l2 : Int32) (l3 : Int32) (l4 : Int32) (l5 : Int32) : Nat → Int32 → Int32 → zsF → Option (Int32 × zsF)
  | 0, _, _, _ => none
  | fu + 1, l6, l7, x => (if l7 < (3 : Int32) then (if l7 = 0 then k_Fi_join_119 l1 l2 l3 l4 l5 (k_Fi_join_93 l1 l2 l3 l4 l5 fu) l6 l7 ((2 : Int32)) x else (if l7 = (1 : Int32) then k_Fi_join_119 l1 l2 l3 l4 l5 (k_Fi_join_93 l1 l2 l3 l4 l5 fu) l6 l7 ((3 : Int32)) x else k_Fi_join_119 l1 l2 l3 l4 l5 (k_Fi_join_93 l1 l2 l3 l4 l5 fu) l6 l7 ((1 : Int32)) x)) else (k_Jo_write x.1.1 ((0 : Int32)) l6 l3).bind fun o10 => some (l6, ((o10, x.1.2.1, x.1.2.2), x.2.1, x.2.2)))
theorem w_Fi_join_93 {X : zX} {c : zY} {q : Nat → Nat} {l1 : Int32} {l2 : Int32} {l3 : Int32} {l4 : Int32} {l5 : Int32} {out : Int32 × zsF} (hX : Ok X zr_Fi zb_Fi_join 9 1 c) (hR : Rt X (some .int) (some (.int out.1)) (zwF c q out.2)) : ∀ (fu : Nat) (l6 : Int32) (l7 : Int32) (x : zsF), k_Fi_join_93 l1 l2 l3 l4 l5 fu l6 l7 x = some out → Go X (zwF c q x) [(0, .ref ((q 6))), (3, .int l3), (6, .int l6), (7, .int l7)] 93 [] := by
  intro fu
  induction fu with
  | zero => intro l6 l7 x h; rw [k_Fi_join_93] at h; cases h
  | succ fu ih =>
    intro l6 l7 x h
    rw [k_Fi_join_93] at h
    refine g_iload (pc := 93) hX d_Fi_join_93 3 rfl ?_
    refine g_iconst (pc := 95) hX d_Fi_join_95 zc_3 ?_
    refine g_icmp_ge (pc := 96) (tgt := 159) hX d_Fi_join_96 (by decide) h (fun c9 h => ?_) (fun c9 h => ?_)
    · refine g_aload_n (pc := 159) hX d_Fi_join_159 rfl 0 rfl ?_
      refine gf_Fi_24 (pc := 160) (v := .ref ((q 0))) hX 6 rfl rfl d_Fi_join_160 ?_
      refine g_iconst (pc := 163) hX d_Fi_join_163 zc_0 ?_
      refine g_iload (pc := 164) hX d_Fi_join_164 2 rfl ?_
      refine g_iload_n (pc := 166) hX d_Fi_join_166 rfl 1 rfl ?_
      obtain ⟨o10, e10, h⟩ := zbind h
      refine g_cvV (pc := 167)  (st := []) (w' := (zwF c q (((o10, x.1.2.1, x.1.2.2), x.2.1, x.2.2)))) hX zk_Jo_write zs_Jo_write zL_Fi_46 (c_Jo_write c q x.1.1 ((0 : Int32)) l6 l3 e10) rfl rfl rfl rfl (sp_Fi_Jo_0 c q x) (sq_Fi_Jo_0 c q x o10) 0 4 rfl rfl rfl d_Fi_join_167 ?_
      refine g_iload (pc := 170) hX d_Fi_join_170 2 rfl ?_
      cases h
      exact g_iret (pc := 172) hX hR d_Fi_join_172
    · refine g_iload (pc := 99) hX d_Fi_join_99 3 rfl ?_
      refine g_if_ne (pc := 101) (tgt := 108) hX d_Fi_join_101 (by decide) h (fun c11 h => ?_) (fun c11 h => ?_)
      · refine g_iload (pc := 108) hX d_Fi_join_108 3 rfl ?_
        refine g_iconst (pc := 110) hX d_Fi_join_110 zc_1 ?_
        refine g_icmp_ne (pc := 111) (tgt := 118) hX d_Fi_join_111 (by decide) h (fun c12 h => ?_) (fun c12 h => ?_)
        · refine g_iconst (pc := 118) hX d_Fi_join_118 zc_1 ?_
          exact w_Fi_join_119 hX hR ih _ _ _ _ h
        · refine g_iconst (pc := 114) hX d_Fi_join_114 zc_3 ?_
          refine g_goto (pc := 115) (tgt := 119) hX d_Fi_join_115 (by decide) ?_
          exact w_Fi_join_119 hX hR ih _ _ _ _ h
      · refine g_iconst (pc := 104) hX d_Fi_join_104 zc_2 ?_
        refine g_goto (pc := 105) (tgt := 119) hX d_Fi_join_105 (by decide) ?_
        exact w_Fi_join_119 hX hR ih _ _ _ _ h
def k_Fi_join (x : zsF) (l1 : Int32) (l2 : Int32) (l3 : Int32) (l4 : Int32) (l5 : Int32) : Option (Int32 × zsF) := (k_Ta_append 13 104 x.2.1).bind fun o1 => (k_Ta_set 13 104 o1.2 o1.1 ((0 : Int32)) l1).bind fun o2 => (k_Ta_set 13 104 o2 o1.1 ((1 : Int32)) l2).bind fun o3 => (k_Ta_set 13 104 o3 o1.1 ((2 : Int32)) l3).bind fun o4 => (k_Ta_set 13 104 o4 o1.1 ((3 : Int32)) l3).bind fun o5 => (k_Ta_set 13 104 o5 o1.1 ((4 : Int32)) l4).bind fun o6 => (k_Ta_set 13 104 o6 o1.1 ((5 : Int32)) l5).bind fun o7 => (k_Ta_set 13 104 o7 o1.1 ((6 : Int32)) ((-5 : Int32))).bind fun o8 => k_Fi_join_93 l1 l2 l3 l4 l5 zFu o1.1 ((0 : Int32)) ((x.1, o8, x.2.2))
theorem c_Fi_join (c : zY) (q : Nat → Nat) (x : zsF) (l1 : Int32) (l2 : Int32) (l3 : Int32) (l4 : Int32) (l5 : Int32) {out : Int32 × zsF} (h : k_Fi_join x l1 l2 l3 l4 l5 = some out) : KM zy_Fi_join zb_Fi_join 9 (some .int) 1 c [.ref ((q 6)), .int l1, .int l2, .int l3, .int l4, .int l5] (zwF c q x) (zwF c q out.2) (some (.int out.1)) := zK_of zp_Fi rfl (Nat.le_of_ble_eq_true rfl) (zq_Fi c q _ _) (fun X hX hR => by
  show Go X (zwF c q x) [(0, .ref ((q 6))), (1, .int l1), (2, .int l2), (3, .int l3), (4, .int l4), (5, .int l5)] 0 []
  rw [k_Fi_join] at h
  refine g_aload_n (pc := 0) hX d_Fi_join_0 rfl 0 rfl ?_
  refine gf_Fi_16 (pc := 1) (v := .ref ((q 7))) hX 6 rfl rfl d_Fi_join_1 ?_
  obtain ⟨o1, e1, h⟩ := zbind h
  refine g_cvI (pc := 4)  (st := []) (w' := (zwF c q ((x.1, o1.2, x.2.2)))) hX zk_Ta_append zs_Ta_append zL_Fi_43 (c_Ta_append c (q 7) (q 8) 13 104 x.2.1 e1) rfl rfl rfl rfl (sp_Fi_Ta_7 c q x) (sq_Fi_Ta_7 c q x o1.2) 7 6 rfl rfl rfl d_Fi_join_4 ?_
  refine g_istore (pc := 7) (L' := [(6, .int o1.1), (0, .ref ((q 6))), (1, .int l1), (2, .int l2), (3, .int l3), (4, .int l4), (5, .int l5)]) hX d_Fi_join_7 rfl rfl ?_
  refine g_aload_n (pc := 9) hX d_Fi_join_9 rfl 1 rfl ?_
  refine gf_Fi_16 (pc := 10) (v := .ref ((q 7))) hX 6 rfl rfl d_Fi_join_10 ?_
  refine g_iload (pc := 13) hX d_Fi_join_13 0 rfl ?_
  refine g_iconst (pc := 15) hX d_Fi_join_15 zc_0 ?_
  refine g_iload_n (pc := 16) hX d_Fi_join_16 rfl 2 rfl ?_
  obtain ⟨o2, e2, h⟩ := zbind h
  refine g_cvV (pc := 17)  (st := []) (w' := (zwF c q ((x.1, o2, x.2.2)))) hX zk_Ta_set zs_Ta_set zL_Fi_40 (c_Ta_set c (q 7) (q 8) 13 104 o1.2 o1.1 ((0 : Int32)) l1 e2) rfl rfl rfl rfl (sp_Fi_Ta_7 c q ((x.1, o1.2, x.2.2))) (sq_Fi_Ta_7 c q ((x.1, o1.2, x.2.2)) o2) 7 6 rfl rfl rfl d_Fi_join_17 ?_
  refine g_aload_n (pc := 20) hX d_Fi_join_20 rfl 1 rfl ?_
  refine gf_Fi_16 (pc := 21) (v := .ref ((q 7))) hX 6 rfl rfl d_Fi_join_21 ?_
  refine g_iload (pc := 24) hX d_Fi_join_24 0 rfl ?_
  refine g_iconst (pc := 26) hX d_Fi_join_26 zc_1 ?_
  refine g_iload_n (pc := 27) hX d_Fi_join_27 rfl 3 rfl ?_
  obtain ⟨o3, e3, h⟩ := zbind h
  refine g_cvV (pc := 28)  (st := []) (w' := (zwF c q ((x.1, o3, x.2.2)))) hX zk_Ta_set zs_Ta_set zL_Fi_40 (c_Ta_set c (q 7) (q 8) 13 104 o2 o1.1 ((1 : Int32)) l2 e3) rfl rfl rfl rfl (sp_Fi_Ta_7 c q ((x.1, o2, x.2.2))) (sq_Fi_Ta_7 c q ((x.1, o2, x.2.2)) o3) 7 6 rfl rfl rfl d_Fi_join_28 ?_
  refine g_aload_n (pc := 31) hX d_Fi_join_31 rfl 1 rfl ?_
  refine gf_Fi_16 (pc := 32) (v := .ref ((q 7))) hX 6 rfl rfl d_Fi_join_32 ?_
  refine g_iload (pc := 35) hX d_Fi_join_35 0 rfl ?_
  refine g_iconst (pc := 37) hX d_Fi_join_37 zc_2 ?_
  refine g_iload_n (pc := 38) hX d_Fi_join_38 rfl 4 rfl ?_
  obtain ⟨o4, e4, h⟩ := zbind h
  refine g_cvV (pc := 39)  (st := []) (w' := (zwF c q ((x.1, o4, x.2.2)))) hX zk_Ta_set zs_Ta_set zL_Fi_40 (c_Ta_set c (q 7) (q 8) 13 104 o3 o1.1 ((2 : Int32)) l3 e4) rfl rfl rfl rfl (sp_Fi_Ta_7 c q ((x.1, o3, x.2.2))) (sq_Fi_Ta_7 c q ((x.1, o3, x.2.2)) o4) 7 6 rfl rfl rfl d_Fi_join_39 ?_
  refine g_aload_n (pc := 42) hX d_Fi_join_42 rfl 1 rfl ?_
  refine gf_Fi_16 (pc := 43) (v := .ref ((q 7))) hX 6 rfl rfl d_Fi_join_43 ?_
  refine g_iload (pc := 46) hX d_Fi_join_46 0 rfl ?_
  refine g_iconst (pc := 48) hX d_Fi_join_48 zc_3 ?_
  refine g_iload_n (pc := 49) hX d_Fi_join_49 rfl 4 rfl ?_
  obtain ⟨o5, e5, h⟩ := zbind h
  refine g_cvV (pc := 50)  (st := []) (w' := (zwF c q ((x.1, o5, x.2.2)))) hX zk_Ta_set zs_Ta_set zL_Fi_40 (c_Ta_set c (q 7) (q 8) 13 104 o4 o1.1 ((3 : Int32)) l3 e5) rfl rfl rfl rfl (sp_Fi_Ta_7 c q ((x.1, o4, x.2.2))) (sq_Fi_Ta_7 c q ((x.1, o4, x.2.2)) o5) 7 6 rfl rfl rfl d_Fi_join_50 ?_
  refine g_aload_n (pc := 53) hX d_Fi_join_53 rfl 1 rfl ?_
  refine gf_Fi_16 (pc := 54) (v := .ref ((q 7))) hX 6 rfl rfl d_Fi_join_54 ?_
  refine g_iload (pc := 57) hX d_Fi_join_57 0 rfl ?_
  refine g_iconst (pc := 59) hX d_Fi_join_59 zc_4 ?_
  refine g_iload (pc := 60) hX d_Fi_join_60 5 rfl ?_
  obtain ⟨o6, e6, h⟩ := zbind h
  refine g_cvV (pc := 62)  (st := []) (w' := (zwF c q ((x.1, o6, x.2.2)))) hX zk_Ta_set zs_Ta_set zL_Fi_40 (c_Ta_set c (q 7) (q 8) 13 104 o5 o1.1 ((4 : Int32)) l4 e6) rfl rfl rfl rfl (sp_Fi_Ta_7 c q ((x.1, o5, x.2.2))) (sq_Fi_Ta_7 c q ((x.1, o5, x.2.2)) o6) 7 6 rfl rfl rfl d_Fi_join_62 ?_
  refine g_aload_n (pc := 65) hX d_Fi_join_65 rfl 1 rfl ?_
  refine gf_Fi_16 (pc := 66) (v := .ref ((q 7))) hX 6 rfl rfl d_Fi_join_66 ?_
  refine g_iload (pc := 69) hX d_Fi_join_69 0 rfl ?_
  refine g_iconst (pc := 71) hX d_Fi_join_71 zc_5 ?_
  refine g_iload (pc := 72) hX d_Fi_join_72 6 rfl ?_
  obtain ⟨o7, e7, h⟩ := zbind h
  refine g_cvV (pc := 74)  (st := []) (w' := (zwF c q ((x.1, o7, x.2.2)))) hX zk_Ta_set zs_Ta_set zL_Fi_40 (c_Ta_set c (q 7) (q 8) 13 104 o6 o1.1 ((5 : Int32)) l5 e7) rfl rfl rfl rfl (sp_Fi_Ta_7 c q ((x.1, o6, x.2.2))) (sq_Fi_Ta_7 c q ((x.1, o6, x.2.2)) o7) 7 6 rfl rfl rfl d_Fi_join_74 ?_
  refine g_aload_n (pc := 77) hX d_Fi_join_77 rfl 1 rfl ?_
  refine gf_Fi_16 (pc := 78) (v := .ref ((q 7))) hX 6 rfl rfl d_Fi_join_78 ?_
  refine g_iload (pc := 81) hX d_Fi_join_81 0 rfl ?_
  refine g_bipush (pc := 83) hX d_Fi_join_83 ze_6 ?_
  refine g_bipush (pc := 85) hX d_Fi_join_85 ze_m5 ?_
  obtain ⟨o8, e8, h⟩ := zbind h
  refine g_cvV (pc := 87)  (st := []) (w' := (zwF c q ((x.1, o8, x.2.2)))) hX zk_Ta_set zs_Ta_set zL_Fi_40 (c_Ta_set c (q 7) (q 8) 13 104 o7 o1.1 ((6 : Int32)) ((-5 : Int32)) e8) rfl rfl rfl rfl (sp_Fi_Ta_7 c q ((x.1, o7, x.2.2))) (sq_Fi_Ta_7 c q ((x.1, o7, x.2.2)) o8) 7 6 rfl rfl rfl d_Fi_join_87 ?_
  refine g_iconst (pc := 90) hX d_Fi_join_90 zc_0 ?_
  refine g_istore (pc := 91) (L' := [(7, .int ((0 : Int32))), (6, .int o1.1), (0, .ref ((q 6))), (1, .int l1), (2, .int l2), (3, .int l3), (4, .int l4), (5, .int l5)]) hX d_Fi_join_91 rfl rfl ?_
  refine g_ls (L' := [(0, .ref ((q 6))), (3, .int l3), (6, .int o1.1), (7, .int ((0 : Int32)))]) [2, 5, 1, 0] rfl ?_
  exact w_Fi_join_93 hX hR _ _ _ _ h)
theorem d_Fi_standingOn_0 : decode zb_Fi_standingOn 0 = .ok (.iconst 0, 1) := by decide +kernel
theorem d_Fi_standingOn_1 : decode zb_Fi_standingOn 1 = .ok (.istore_n 2, 1) := by decide +kernel
theorem d_Fi_standingOn_2 : decode zb_Fi_standingOn 2 = .ok (.iload_n 2, 1) := by decide +kernel
theorem d_Fi_standingOn_3 : decode zb_Fi_standingOn 3 = .ok (.aload_n 0, 1) := by decide +kernel
theorem d_Fi_standingOn_4 : decode zb_Fi_standingOn 4 = .ok (.getfield 16, 3) := by decide +kernel
theorem d_Fi_standingOn_7 : decode zb_Fi_standingOn 7 = .ok (.invokevirtual 28, 3) := by decide +kernel
theorem d_Fi_standingOn_10 : decode zb_Fi_standingOn 10 = .ok (.if_icmp .ge 24, 3) := by decide +kernel
theorem d_Fi_standingOn_13 : decode zb_Fi_standingOn 13 = .ok (.aload_n 0, 1) := by decide +kernel
theorem d_Fi_standingOn_14 : decode zb_Fi_standingOn 14 = .ok (.getfield 16, 3) := by decide +kernel
theorem d_Fi_standingOn_17 : decode zb_Fi_standingOn 17 = .ok (.iload_n 2, 1) := by decide +kernel
theorem d_Fi_standingOn_18 : decode zb_Fi_standingOn 18 = .ok (.iconst 1, 1) := by decide +kernel
theorem d_Fi_standingOn_19 : decode zb_Fi_standingOn 19 = .ok (.invokevirtual 36, 3) := by decide +kernel
theorem d_Fi_standingOn_22 : decode zb_Fi_standingOn 22 = .ok (.iload_n 1, 1) := by decide +kernel
theorem d_Fi_standingOn_23 : decode zb_Fi_standingOn 23 = .ok (.if_icmp .ne 5, 3) := by decide +kernel
theorem d_Fi_standingOn_26 : decode zb_Fi_standingOn 26 = .ok (.iload_n 2, 1) := by decide +kernel
theorem d_Fi_standingOn_27 : decode zb_Fi_standingOn 27 = .ok (.ireturn, 1) := by decide +kernel
theorem d_Fi_standingOn_28 : decode zb_Fi_standingOn 28 = .ok (.iinc 2 1, 3) := by decide +kernel
theorem d_Fi_standingOn_31 : decode zb_Fi_standingOn 31 = .ok (.goto (-29), 3) := by decide +kernel
theorem d_Fi_standingOn_34 : decode zb_Fi_standingOn 34 = .ok (.iconst (-1), 1) := by decide +kernel
theorem d_Fi_standingOn_35 : decode zb_Fi_standingOn 35 = .ok (.ireturn, 1) := by decide +kernel
def k_Fi_standingOn_2 (x : zsF) (l1 : Int32) : Nat → Int32 → Option (Int32)
  | 0, _ => none
  | fu + 1, l2 => (k_Ta_used 13 104 x.2.1).bind fun o1 => (if l2 < o1 then (k_Ta_get 13 104 x.2.1 l2 ((1 : Int32))).bind fun o3 => (if o3 = l1 then some l2 else k_Fi_standingOn_2 x l1 fu ((l2 + (1 : Int32)))) else some ((-1 : Int32)))
theorem w_Fi_standingOn_2 {X : zX} {c : zY} {q : Nat → Nat} {x : zsF} {l1 : Int32} {out : Int32} (hX : Ok X zr_Fi zb_Fi_standingOn 3 1 c) (hR : Rt X (some .int) (some (.int out)) (zwF c q x)) : ∀ (fu : Nat) (l2 : Int32), k_Fi_standingOn_2 x l1 fu l2 = some out → Go X (zwF c q x) [(0, .ref ((q 6))), (1, .int l1), (2, .int l2)] 2 [] := by
  intro fu
  induction fu with
  | zero => intro l2 h; rw [k_Fi_standingOn_2] at h; cases h
  | succ fu ih =>
    intro l2 h
    rw [k_Fi_standingOn_2] at h
    refine g_iload_n (pc := 2) hX d_Fi_standingOn_2 rfl 2 rfl ?_
    refine g_aload_n (pc := 3) hX d_Fi_standingOn_3 rfl 0 rfl ?_
    refine gf_Fi_16 (pc := 4) (v := .ref ((q 7))) hX 6 rfl rfl d_Fi_standingOn_4 ?_
    obtain ⟨o1, e1, h⟩ := zbind h
    refine g_cvI (pc := 7)  (st := [.int l2]) (w' := (zwF c q x)) hX zk_Ta_used zs_Ta_used zL_Fi_28 (c_Ta_used c (q 7) (q 8) 13 104 x.2.1 e1) rfl rfl rfl rfl (sp_Fi_Ta_7 c q x) (sp_Fi_Ta_7 c q x).symm 7 6 rfl rfl rfl d_Fi_standingOn_7 ?_
    refine g_icmp_ge (pc := 10) (tgt := 34) hX d_Fi_standingOn_10 (by decide) h (fun c2 h => ?_) (fun c2 h => ?_)
    · refine g_iconst (pc := 34) hX d_Fi_standingOn_34 zc_m1 ?_
      cases h
      exact g_iret (pc := 35) hX hR d_Fi_standingOn_35
    · refine g_aload_n (pc := 13) hX d_Fi_standingOn_13 rfl 0 rfl ?_
      refine gf_Fi_16 (pc := 14) (v := .ref ((q 7))) hX 6 rfl rfl d_Fi_standingOn_14 ?_
      refine g_iload_n (pc := 17) hX d_Fi_standingOn_17 rfl 2 rfl ?_
      refine g_iconst (pc := 18) hX d_Fi_standingOn_18 zc_1 ?_
      obtain ⟨o3, e3, h⟩ := zbind h
      refine g_cvI (pc := 19)  (st := []) (w' := (zwF c q x)) hX zk_Ta_get zs_Ta_get zL_Fi_36 (c_Ta_get c (q 7) (q 8) 13 104 x.2.1 l2 ((1 : Int32)) e3) rfl rfl rfl rfl (sp_Fi_Ta_7 c q x) (sp_Fi_Ta_7 c q x).symm 7 6 rfl rfl rfl d_Fi_standingOn_19 ?_
      refine g_iload_n (pc := 22) hX d_Fi_standingOn_22 rfl 1 rfl ?_
      refine g_icmp_ne (pc := 23) (tgt := 28) hX d_Fi_standingOn_23 (by decide) h (fun c4 h => ?_) (fun c4 h => ?_)
      · refine g_iinc (pc := 28) (q := 2) (L' := [(2, .int ((l2 + (1 : Int32)))), (0, .ref ((q 6))), (1, .int l1)]) hX d_Fi_standingOn_28 rfl zc_1 rfl rfl ?_
        refine g_goto (pc := 31) (tgt := 2) hX d_Fi_standingOn_31 (by decide) ?_
        refine g_ls (L' := [(0, .ref ((q 6))), (1, .int l1), (2, .int ((l2 + (1 : Int32))))]) [1, 2, 0] rfl ?_
        exact ih _ h
      · refine g_iload_n (pc := 26) hX d_Fi_standingOn_26 rfl 2 rfl ?_
        cases h
        exact g_iret (pc := 27) hX hR d_Fi_standingOn_27
def k_Fi_standingOn (x : zsF) (l1 : Int32) : Option (Int32) := k_Fi_standingOn_2 x l1 zFu ((0 : Int32))
theorem c_Fi_standingOn (c : zY) (q : Nat → Nat) (x : zsF) (l1 : Int32) {out : Int32} (h : k_Fi_standingOn x l1 = some out) : KM zy_Fi_standingOn zb_Fi_standingOn 3 (some .int) 1 c [.ref ((q 6)), .int l1] (zwF c q x) (zwF c q x) (some (.int out)) := zK_of zp_Fi rfl (Nat.le_of_ble_eq_true rfl) (zq_Fi c q _ _) (fun X hX hR => by
  show Go X (zwF c q x) [(0, .ref ((q 6))), (1, .int l1)] 0 []
  rw [k_Fi_standingOn] at h
  refine g_iconst (pc := 0) hX d_Fi_standingOn_0 zc_0 ?_
  refine g_istore_n (pc := 1) (L' := [(2, .int ((0 : Int32))), (0, .ref ((q 6))), (1, .int l1)]) hX d_Fi_standingOn_1 rfl rfl rfl ?_
  refine g_ls (L' := [(0, .ref ((q 6))), (1, .int l1), (2, .int ((0 : Int32)))]) [1, 2, 0] rfl ?_
  exact w_Fi_standingOn_2 hX hR _ _ h)
theorem d_Fi_isDown_0 : decode zb_Fi_isDown 0 = .ok (.aload_n 0, 1) := by decide +kernel
theorem d_Fi_isDown_1 : decode zb_Fi_isDown 1 = .ok (.getfield 16, 3) := by decide +kernel
theorem d_Fi_isDown_4 : decode zb_Fi_isDown 4 = .ok (.iload_n 1, 1) := by decide +kernel
theorem d_Fi_isDown_5 : decode zb_Fi_isDown 5 = .ok (.iconst 2, 1) := by decide +kernel
theorem d_Fi_isDown_6 : decode zb_Fi_isDown 6 = .ok (.invokevirtual 36, 3) := by decide +kernel
theorem d_Fi_isDown_9 : decode zb_Fi_isDown 9 = .ok (.ifCond .ne 7, 3) := by decide +kernel
theorem d_Fi_isDown_12 : decode zb_Fi_isDown 12 = .ok (.iconst 1, 1) := by decide +kernel
theorem d_Fi_isDown_13 : decode zb_Fi_isDown 13 = .ok (.goto 4, 3) := by decide +kernel
theorem d_Fi_isDown_16 : decode zb_Fi_isDown 16 = .ok (.iconst 0, 1) := by decide +kernel
theorem d_Fi_isDown_17 : decode zb_Fi_isDown 17 = .ok (.ireturn, 1) := by decide +kernel
def k_Fi_isDown (x : zsF) (l1 : Int32) : Option (Int32) := (k_Ta_get 13 104 x.2.1 l1 ((2 : Int32))).bind fun o1 => (if o1 = 0 then some ((1 : Int32)) else some ((0 : Int32)))
theorem c_Fi_isDown (c : zY) (q : Nat → Nat) (x : zsF) (l1 : Int32) {out : Int32} (h : k_Fi_isDown x l1 = some out) : KM zy_Fi_isDown zb_Fi_isDown 2 (some .boolean) 1 c [.ref ((q 6)), .int l1] (zwF c q x) (zwF c q x) (some (.int out)) := zK_of zp_Fi rfl (Nat.le_of_ble_eq_true rfl) (zq_Fi c q _ _) (fun X hX hR => by
  show Go X (zwF c q x) [(0, .ref ((q 6))), (1, .int l1)] 0 []
  rw [k_Fi_isDown] at h
  refine g_aload_n (pc := 0) hX d_Fi_isDown_0 rfl 0 rfl ?_
  refine gf_Fi_16 (pc := 1) (v := .ref ((q 7))) hX 6 rfl rfl d_Fi_isDown_1 ?_
  refine g_iload_n (pc := 4) hX d_Fi_isDown_4 rfl 1 rfl ?_
  refine g_iconst (pc := 5) hX d_Fi_isDown_5 zc_2 ?_
  obtain ⟨o1, e1, h⟩ := zbind h
  refine g_cvI (pc := 6)  (st := []) (w' := (zwF c q x)) hX zk_Ta_get zs_Ta_get zL_Fi_36 (c_Ta_get c (q 7) (q 8) 13 104 x.2.1 l1 ((2 : Int32)) e1) rfl rfl rfl rfl (sp_Fi_Ta_7 c q x) (sp_Fi_Ta_7 c q x).symm 7 6 rfl rfl rfl d_Fi_isDown_6 ?_
  refine g_if_ne (pc := 9) (tgt := 16) hX d_Fi_isDown_9 (by decide) h (fun c2 h => ?_) (fun c2 h => ?_)
  · refine g_iconst (pc := 16) hX d_Fi_isDown_16 zc_0 ?_
    cases h
    exact g_zret (pc := 17) hX hR (Or.inl rfl) d_Fi_isDown_17
  · refine g_iconst (pc := 12) hX d_Fi_isDown_12 zc_1 ?_
    refine g_goto (pc := 13) (tgt := 17) hX d_Fi_isDown_13 (by decide) ?_
    cases h
    exact g_zret (pc := 17) hX hR (Or.inr rfl) d_Fi_isDown_17)
theorem d_Fi_canAct_0 : decode zb_Fi_canAct 0 = .ok (.aload_n 0, 1) := by decide +kernel
theorem d_Fi_canAct_1 : decode zb_Fi_canAct 1 = .ok (.iload_n 1, 1) := by decide +kernel
theorem d_Fi_canAct_2 : decode zb_Fi_canAct 2 = .ok (.invokevirtual 51, 3) := by decide +kernel
theorem d_Fi_canAct_5 : decode zb_Fi_canAct 5 = .ok (.ifCond .ne 31, 3) := by decide +kernel
theorem d_Fi_canAct_8 : decode zb_Fi_canAct 8 = .ok (.aload_n 0, 1) := by decide +kernel
theorem d_Fi_canAct_9 : decode zb_Fi_canAct 9 = .ok (.getfield 20, 3) := by decide +kernel
theorem d_Fi_canAct_12 : decode zb_Fi_canAct 12 = .ok (.iload_n 1, 1) := by decide +kernel
theorem d_Fi_canAct_13 : decode zb_Fi_canAct 13 = .ok (.iconst 1, 1) := by decide +kernel
theorem d_Fi_canAct_14 : decode zb_Fi_canAct 14 = .ok (.invokevirtual 54, 3) := by decide +kernel
theorem d_Fi_canAct_17 : decode zb_Fi_canAct 17 = .ok (.ifCond .ne 19, 3) := by decide +kernel
theorem d_Fi_canAct_20 : decode zb_Fi_canAct 20 = .ok (.aload_n 0, 1) := by decide +kernel
theorem d_Fi_canAct_21 : decode zb_Fi_canAct 21 = .ok (.getfield 20, 3) := by decide +kernel
theorem d_Fi_canAct_24 : decode zb_Fi_canAct 24 = .ok (.iload_n 1, 1) := by decide +kernel
theorem d_Fi_canAct_25 : decode zb_Fi_canAct 25 = .ok (.iconst 5, 1) := by decide +kernel
theorem d_Fi_canAct_26 : decode zb_Fi_canAct 26 = .ok (.invokevirtual 54, 3) := by decide +kernel
theorem d_Fi_canAct_29 : decode zb_Fi_canAct 29 = .ok (.ifCond .ne 7, 3) := by decide +kernel
theorem d_Fi_canAct_32 : decode zb_Fi_canAct 32 = .ok (.iconst 1, 1) := by decide +kernel
theorem d_Fi_canAct_33 : decode zb_Fi_canAct 33 = .ok (.goto 4, 3) := by decide +kernel
theorem d_Fi_canAct_36 : decode zb_Fi_canAct 36 = .ok (.iconst 0, 1) := by decide +kernel
theorem d_Fi_canAct_37 : decode zb_Fi_canAct 37 = .ok (.ireturn, 1) := by decide +kernel
def k_Fi_canAct (x : zsF) (l1 : Int32) : Option (Int32) := (k_Fi_isDown x l1).bind fun o1 => (if o1 = 0 then (k_Co_sumOf x.1 l1 ((1 : Int32))).bind fun o3 => (if o3 = 0 then (k_Co_sumOf x.1 l1 ((5 : Int32))).bind fun o5 => (if o5 = 0 then some ((1 : Int32)) else some ((0 : Int32))) else some ((0 : Int32))) else some ((0 : Int32)))
theorem c_Fi_canAct (c : zY) (q : Nat → Nat) (x : zsF) (l1 : Int32) {out : Int32} (h : k_Fi_canAct x l1 = some out) : KM zy_Fi_canAct zb_Fi_canAct 2 (some .boolean) 2 c [.ref ((q 6)), .int l1] (zwF c q x) (zwF c q x) (some (.int out)) := zK_of zp_Fi rfl (Nat.le_of_ble_eq_true rfl) (zq_Fi c q _ _) (fun X hX hR => by
  show Go X (zwF c q x) [(0, .ref ((q 6))), (1, .int l1)] 0 []
  rw [k_Fi_canAct] at h
  refine g_aload_n (pc := 0) hX d_Fi_canAct_0 rfl 0 rfl ?_
  refine g_iload_n (pc := 1) hX d_Fi_canAct_1 rfl 1 rfl ?_
  obtain ⟨o1, e1, h⟩ := zbind h
  refine g_cvI (pc := 2) (w1 := []) (w2 := []) (st := []) (w' := (zwF c q x)) hX zk_Fi_isDown zs_Fi_isDown zL_Fi_51 (c_Fi_isDown c q x l1 e1) rfl rfl rfl rfl (zself _) (zself _).symm 6 3 rfl rfl rfl d_Fi_canAct_2 ?_
  refine g_if_ne (pc := 5) (tgt := 36) hX d_Fi_canAct_5 (by decide) h (fun c2 h => ?_) (fun c2 h => ?_)
  · refine g_iconst (pc := 36) hX d_Fi_canAct_36 zc_0 ?_
    cases h
    exact g_zret (pc := 37) hX hR (Or.inl rfl) d_Fi_canAct_37
  · refine g_aload_n (pc := 8) hX d_Fi_canAct_8 rfl 0 rfl ?_
    refine gf_Fi_20 (pc := 9) (v := .ref ((q 2))) hX 6 rfl rfl d_Fi_canAct_9 ?_
    refine g_iload_n (pc := 12) hX d_Fi_canAct_12 rfl 1 rfl ?_
    refine g_iconst (pc := 13) hX d_Fi_canAct_13 zc_1 ?_
    obtain ⟨o3, e3, h⟩ := zbind h
    refine g_cvI (pc := 14)  (st := []) (w' := (zwF c q x)) hX zk_Co_sumOf zs_Co_sumOf zL_Fi_54 (c_Co_sumOf c q x.1 l1 ((1 : Int32)) e3) rfl rfl rfl rfl (sp_Fi_Co_0 c q x) (sp_Fi_Co_0 c q x).symm 2 1 rfl rfl rfl d_Fi_canAct_14 ?_
    refine g_if_ne (pc := 17) (tgt := 36) hX d_Fi_canAct_17 (by decide) h (fun c4 h => ?_) (fun c4 h => ?_)
    · refine g_iconst (pc := 36) hX d_Fi_canAct_36 zc_0 ?_
      cases h
      exact g_zret (pc := 37) hX hR (Or.inl rfl) d_Fi_canAct_37
    · refine g_aload_n (pc := 20) hX d_Fi_canAct_20 rfl 0 rfl ?_
      refine gf_Fi_20 (pc := 21) (v := .ref ((q 2))) hX 6 rfl rfl d_Fi_canAct_21 ?_
      refine g_iload_n (pc := 24) hX d_Fi_canAct_24 rfl 1 rfl ?_
      refine g_iconst (pc := 25) hX d_Fi_canAct_25 zc_5 ?_
      obtain ⟨o5, e5, h⟩ := zbind h
      refine g_cvI (pc := 26)  (st := []) (w' := (zwF c q x)) hX zk_Co_sumOf zs_Co_sumOf zL_Fi_54 (c_Co_sumOf c q x.1 l1 ((5 : Int32)) e5) rfl rfl rfl rfl (sp_Fi_Co_0 c q x) (sp_Fi_Co_0 c q x).symm 2 1 rfl rfl rfl d_Fi_canAct_26 ?_
      refine g_if_ne (pc := 29) (tgt := 36) hX d_Fi_canAct_29 (by decide) h (fun c6 h => ?_) (fun c6 h => ?_)
      · refine g_iconst (pc := 36) hX d_Fi_canAct_36 zc_0 ?_
        cases h
        exact g_zret (pc := 37) hX hR (Or.inl rfl) d_Fi_canAct_37
      · refine g_iconst (pc := 32) hX d_Fi_canAct_32 zc_1 ?_
        refine g_goto (pc := 33) (tgt := 37) hX d_Fi_canAct_33 (by decide) ?_
        cases h
        exact g_zret (pc := 37) hX hR (Or.inr rfl) d_Fi_canAct_37)
theorem d_Fi_areFoes_0 : decode zb_Fi_areFoes 0 = .ok (.aload_n 0, 1) := by decide +kernel
theorem d_Fi_areFoes_1 : decode zb_Fi_areFoes 1 = .ok (.getfield 16, 3) := by decide +kernel
theorem d_Fi_areFoes_4 : decode zb_Fi_areFoes 4 = .ok (.iload_n 1, 1) := by decide +kernel
theorem d_Fi_areFoes_5 : decode zb_Fi_areFoes 5 = .ok (.iconst 0, 1) := by decide +kernel
theorem d_Fi_areFoes_6 : decode zb_Fi_areFoes 6 = .ok (.invokevirtual 36, 3) := by decide +kernel
theorem d_Fi_areFoes_9 : decode zb_Fi_areFoes 9 = .ok (.aload_n 0, 1) := by decide +kernel
theorem d_Fi_areFoes_10 : decode zb_Fi_areFoes 10 = .ok (.getfield 16, 3) := by decide +kernel
theorem d_Fi_areFoes_13 : decode zb_Fi_areFoes 13 = .ok (.iload_n 2, 1) := by decide +kernel
theorem d_Fi_areFoes_14 : decode zb_Fi_areFoes 14 = .ok (.iconst 0, 1) := by decide +kernel
theorem d_Fi_areFoes_15 : decode zb_Fi_areFoes 15 = .ok (.invokevirtual 36, 3) := by decide +kernel
theorem d_Fi_areFoes_18 : decode zb_Fi_areFoes 18 = .ok (.if_icmp .eq 7, 3) := by decide +kernel
theorem d_Fi_areFoes_21 : decode zb_Fi_areFoes 21 = .ok (.iconst 1, 1) := by decide +kernel
theorem d_Fi_areFoes_22 : decode zb_Fi_areFoes 22 = .ok (.goto 4, 3) := by decide +kernel
theorem d_Fi_areFoes_25 : decode zb_Fi_areFoes 25 = .ok (.iconst 0, 1) := by decide +kernel
theorem d_Fi_areFoes_26 : decode zb_Fi_areFoes 26 = .ok (.ireturn, 1) := by decide +kernel
def k_Fi_areFoes (x : zsF) (l1 : Int32) (l2 : Int32) : Option (Int32) := (k_Ta_get 13 104 x.2.1 l1 ((0 : Int32))).bind fun o1 => (k_Ta_get 13 104 x.2.1 l2 ((0 : Int32))).bind fun o2 => (if o1 = o2 then some ((0 : Int32)) else some ((1 : Int32)))
theorem c_Fi_areFoes (c : zY) (q : Nat → Nat) (x : zsF) (l1 : Int32) (l2 : Int32) {out : Int32} (h : k_Fi_areFoes x l1 l2 = some out) : KM zy_Fi_areFoes zb_Fi_areFoes 3 (some .boolean) 1 c [.ref ((q 6)), .int l1, .int l2] (zwF c q x) (zwF c q x) (some (.int out)) := zK_of zp_Fi rfl (Nat.le_of_ble_eq_true rfl) (zq_Fi c q _ _) (fun X hX hR => by
  show Go X (zwF c q x) [(0, .ref ((q 6))), (1, .int l1), (2, .int l2)] 0 []
  rw [k_Fi_areFoes] at h
  refine g_aload_n (pc := 0) hX d_Fi_areFoes_0 rfl 0 rfl ?_
  refine gf_Fi_16 (pc := 1) (v := .ref ((q 7))) hX 6 rfl rfl d_Fi_areFoes_1 ?_
  refine g_iload_n (pc := 4) hX d_Fi_areFoes_4 rfl 1 rfl ?_
  refine g_iconst (pc := 5) hX d_Fi_areFoes_5 zc_0 ?_
  obtain ⟨o1, e1, h⟩ := zbind h
  refine g_cvI (pc := 6)  (st := []) (w' := (zwF c q x)) hX zk_Ta_get zs_Ta_get zL_Fi_36 (c_Ta_get c (q 7) (q 8) 13 104 x.2.1 l1 ((0 : Int32)) e1) rfl rfl rfl rfl (sp_Fi_Ta_7 c q x) (sp_Fi_Ta_7 c q x).symm 7 6 rfl rfl rfl d_Fi_areFoes_6 ?_
  refine g_aload_n (pc := 9) hX d_Fi_areFoes_9 rfl 0 rfl ?_
  refine gf_Fi_16 (pc := 10) (v := .ref ((q 7))) hX 6 rfl rfl d_Fi_areFoes_10 ?_
  refine g_iload_n (pc := 13) hX d_Fi_areFoes_13 rfl 2 rfl ?_
  refine g_iconst (pc := 14) hX d_Fi_areFoes_14 zc_0 ?_
  obtain ⟨o2, e2, h⟩ := zbind h
  refine g_cvI (pc := 15)  (st := [.int o1]) (w' := (zwF c q x)) hX zk_Ta_get zs_Ta_get zL_Fi_36 (c_Ta_get c (q 7) (q 8) 13 104 x.2.1 l2 ((0 : Int32)) e2) rfl rfl rfl rfl (sp_Fi_Ta_7 c q x) (sp_Fi_Ta_7 c q x).symm 7 6 rfl rfl rfl d_Fi_areFoes_15 ?_
  refine g_icmp_eq (pc := 18) (tgt := 25) hX d_Fi_areFoes_18 (by decide) h (fun c3 h => ?_) (fun c3 h => ?_)
  · refine g_iconst (pc := 25) hX d_Fi_areFoes_25 zc_0 ?_
    cases h
    exact g_zret (pc := 26) hX hR (Or.inl rfl) d_Fi_areFoes_26
  · refine g_iconst (pc := 21) hX d_Fi_areFoes_21 zc_1 ?_
    refine g_goto (pc := 22) (tgt := 26) hX d_Fi_areFoes_22 (by decide) ?_
    cases h
    exact g_zret (pc := 26) hX hR (Or.inr rfl) d_Fi_areFoes_26)
theorem d_Fi_numberDown_0 : decode zb_Fi_numberDown 0 = .ok (.iconst 0, 1) := by decide +kernel
theorem d_Fi_numberDown_1 : decode zb_Fi_numberDown 1 = .ok (.istore_n 1, 1) := by decide +kernel
theorem d_Fi_numberDown_2 : decode zb_Fi_numberDown 2 = .ok (.iconst 0, 1) := by decide +kernel
theorem d_Fi_numberDown_3 : decode zb_Fi_numberDown 3 = .ok (.istore_n 2, 1) := by decide +kernel
theorem d_Fi_numberDown_4 : decode zb_Fi_numberDown 4 = .ok (.iload_n 2, 1) := by decide +kernel
theorem d_Fi_numberDown_5 : decode zb_Fi_numberDown 5 = .ok (.aload_n 0, 1) := by decide +kernel
theorem d_Fi_numberDown_6 : decode zb_Fi_numberDown 6 = .ok (.getfield 16, 3) := by decide +kernel
theorem d_Fi_numberDown_9 : decode zb_Fi_numberDown 9 = .ok (.invokevirtual 28, 3) := by decide +kernel
theorem d_Fi_numberDown_12 : decode zb_Fi_numberDown 12 = .ok (.if_icmp .ge 20, 3) := by decide +kernel
theorem d_Fi_numberDown_15 : decode zb_Fi_numberDown 15 = .ok (.aload_n 0, 1) := by decide +kernel
theorem d_Fi_numberDown_16 : decode zb_Fi_numberDown 16 = .ok (.iload_n 2, 1) := by decide +kernel
theorem d_Fi_numberDown_17 : decode zb_Fi_numberDown 17 = .ok (.invokevirtual 51, 3) := by decide +kernel
theorem d_Fi_numberDown_20 : decode zb_Fi_numberDown 20 = .ok (.ifCond .eq 6, 3) := by decide +kernel
theorem d_Fi_numberDown_23 : decode zb_Fi_numberDown 23 = .ok (.iinc 1 1, 3) := by decide +kernel
theorem d_Fi_numberDown_26 : decode zb_Fi_numberDown 26 = .ok (.iinc 2 1, 3) := by decide +kernel
theorem d_Fi_numberDown_29 : decode zb_Fi_numberDown 29 = .ok (.goto (-25), 3) := by decide +kernel
theorem d_Fi_numberDown_32 : decode zb_Fi_numberDown 32 = .ok (.iload_n 1, 1) := by decide +kernel
theorem d_Fi_numberDown_33 : decode zb_Fi_numberDown 33 = .ok (.ireturn, 1) := by decide +kernel
def k_Fi_numberDown_4 (x : zsF) : Nat → Int32 → Int32 → Option (Int32)
  | 0, _, _ => none
  | fu + 1, l1, l2 => (k_Ta_used 13 104 x.2.1).bind fun o1 => (if l2 < o1 then (k_Fi_isDown x l2).bind fun o3 => (if o3 = 0 then k_Fi_numberDown_4 x fu l1 ((l2 + (1 : Int32))) else k_Fi_numberDown_4 x fu ((l1 + (1 : Int32))) ((l2 + (1 : Int32)))) else some l1)
theorem w_Fi_numberDown_4 {X : zX} {c : zY} {q : Nat → Nat} {x : zsF} {out : Int32} (hX : Ok X zr_Fi zb_Fi_numberDown 3 2 c) (hR : Rt X (some .int) (some (.int out)) (zwF c q x)) : ∀ (fu : Nat) (l1 : Int32) (l2 : Int32), k_Fi_numberDown_4 x fu l1 l2 = some out → Go X (zwF c q x) [(0, .ref ((q 6))), (1, .int l1), (2, .int l2)] 4 [] := by
  intro fu
  induction fu with
  | zero => intro l1 l2 h; rw [k_Fi_numberDown_4] at h; cases h
  | succ fu ih =>
    intro l1 l2 h
    rw [k_Fi_numberDown_4] at h
    refine g_iload_n (pc := 4) hX d_Fi_numberDown_4 rfl 2 rfl ?_
    refine g_aload_n (pc := 5) hX d_Fi_numberDown_5 rfl 0 rfl ?_
    refine gf_Fi_16 (pc := 6) (v := .ref ((q 7))) hX 6 rfl rfl d_Fi_numberDown_6 ?_
    obtain ⟨o1, e1, h⟩ := zbind h
    refine g_cvI (pc := 9)  (st := [.int l2]) (w' := (zwF c q x)) hX zk_Ta_used zs_Ta_used zL_Fi_28 (c_Ta_used c (q 7) (q 8) 13 104 x.2.1 e1) rfl rfl rfl rfl (sp_Fi_Ta_7 c q x) (sp_Fi_Ta_7 c q x).symm 7 6 rfl rfl rfl d_Fi_numberDown_9 ?_
    refine g_icmp_ge (pc := 12) (tgt := 32) hX d_Fi_numberDown_12 (by decide) h (fun c2 h => ?_) (fun c2 h => ?_)
    · refine g_iload_n (pc := 32) hX d_Fi_numberDown_32 rfl 1 rfl ?_
      cases h
      exact g_iret (pc := 33) hX hR d_Fi_numberDown_33
    · refine g_aload_n (pc := 15) hX d_Fi_numberDown_15 rfl 0 rfl ?_
      refine g_iload_n (pc := 16) hX d_Fi_numberDown_16 rfl 2 rfl ?_
      obtain ⟨o3, e3, h⟩ := zbind h
      refine g_cvI (pc := 17) (w1 := []) (w2 := []) (st := []) (w' := (zwF c q x)) hX zk_Fi_isDown zs_Fi_isDown zL_Fi_51 (c_Fi_isDown c q x l2 e3) rfl rfl rfl rfl (zself _) (zself _).symm 6 3 rfl rfl rfl d_Fi_numberDown_17 ?_
      refine g_if_eq (pc := 20) (tgt := 26) hX d_Fi_numberDown_20 (by decide) h (fun c4 h => ?_) (fun c4 h => ?_)
      · refine g_iinc (pc := 26) (q := 2) (L' := [(2, .int ((l2 + (1 : Int32)))), (0, .ref ((q 6))), (1, .int l1)]) hX d_Fi_numberDown_26 rfl zc_1 rfl rfl ?_
        refine g_goto (pc := 29) (tgt := 4) hX d_Fi_numberDown_29 (by decide) ?_
        refine g_ls (L' := [(0, .ref ((q 6))), (1, .int l1), (2, .int ((l2 + (1 : Int32))))]) [1, 2, 0] rfl ?_
        exact ih _ _ h
      · refine g_iinc (pc := 23) (q := 1) (L' := [(1, .int ((l1 + (1 : Int32)))), (0, .ref ((q 6))), (2, .int l2)]) hX d_Fi_numberDown_23 rfl zc_1 rfl rfl ?_
        refine g_iinc (pc := 26) (q := 2) (L' := [(2, .int ((l2 + (1 : Int32)))), (1, .int ((l1 + (1 : Int32)))), (0, .ref ((q 6)))]) hX d_Fi_numberDown_26 rfl zc_1 rfl rfl ?_
        refine g_goto (pc := 29) (tgt := 4) hX d_Fi_numberDown_29 (by decide) ?_
        refine g_ls (L' := [(0, .ref ((q 6))), (1, .int ((l1 + (1 : Int32)))), (2, .int ((l2 + (1 : Int32))))]) [2, 1, 0] rfl ?_
        exact ih _ _ h
def k_Fi_numberDown (x : zsF) : Option (Int32) := k_Fi_numberDown_4 x zFu ((0 : Int32)) ((0 : Int32))
theorem c_Fi_numberDown (c : zY) (q : Nat → Nat) (x : zsF) {out : Int32} (h : k_Fi_numberDown x = some out) : KM zy_Fi_numberDown zb_Fi_numberDown 3 (some .int) 2 c [.ref ((q 6))] (zwF c q x) (zwF c q x) (some (.int out)) := zK_of zp_Fi rfl (Nat.le_of_ble_eq_true rfl) (zq_Fi c q _ _) (fun X hX hR => by
  show Go X (zwF c q x) [(0, .ref ((q 6)))] 0 []
  rw [k_Fi_numberDown] at h
  refine g_iconst (pc := 0) hX d_Fi_numberDown_0 zc_0 ?_
  refine g_istore_n (pc := 1) (L' := [(1, .int ((0 : Int32))), (0, .ref ((q 6)))]) hX d_Fi_numberDown_1 rfl rfl rfl ?_
  refine g_iconst (pc := 2) hX d_Fi_numberDown_2 zc_0 ?_
  refine g_istore_n (pc := 3) (L' := [(2, .int ((0 : Int32))), (1, .int ((0 : Int32))), (0, .ref ((q 6)))]) hX d_Fi_numberDown_3 rfl rfl rfl ?_
  refine g_ls (L' := [(0, .ref ((q 6))), (1, .int ((0 : Int32))), (2, .int ((0 : Int32)))]) [2, 1, 0] rfl ?_
  exact w_Fi_numberDown_4 hX hR _ _ _ h)
theorem d_Fi_livesOf_0 : decode zb_Fi_livesOf 0 = .ok (.iconst 0, 1) := by decide +kernel
theorem d_Fi_livesOf_1 : decode zb_Fi_livesOf 1 = .ok (.istore_n 2, 1) := by decide +kernel
theorem d_Fi_livesOf_2 : decode zb_Fi_livesOf 2 = .ok (.iconst 0, 1) := by decide +kernel
theorem d_Fi_livesOf_3 : decode zb_Fi_livesOf 3 = .ok (.istore_n 3, 1) := by decide +kernel
theorem d_Fi_livesOf_4 : decode zb_Fi_livesOf 4 = .ok (.iload_n 3, 1) := by decide +kernel
theorem d_Fi_livesOf_5 : decode zb_Fi_livesOf 5 = .ok (.aload_n 0, 1) := by decide +kernel
theorem d_Fi_livesOf_6 : decode zb_Fi_livesOf 6 = .ok (.getfield 16, 3) := by decide +kernel
theorem d_Fi_livesOf_9 : decode zb_Fi_livesOf 9 = .ok (.invokevirtual 28, 3) := by decide +kernel
theorem d_Fi_livesOf_12 : decode zb_Fi_livesOf 12 = .ok (.if_icmp .ge 34, 3) := by decide +kernel
theorem d_Fi_livesOf_15 : decode zb_Fi_livesOf 15 = .ok (.aload_n 0, 1) := by decide +kernel
theorem d_Fi_livesOf_16 : decode zb_Fi_livesOf 16 = .ok (.getfield 16, 3) := by decide +kernel
theorem d_Fi_livesOf_19 : decode zb_Fi_livesOf 19 = .ok (.iload_n 3, 1) := by decide +kernel
theorem d_Fi_livesOf_20 : decode zb_Fi_livesOf 20 = .ok (.iconst 0, 1) := by decide +kernel
theorem d_Fi_livesOf_21 : decode zb_Fi_livesOf 21 = .ok (.invokevirtual 36, 3) := by decide +kernel
theorem d_Fi_livesOf_24 : decode zb_Fi_livesOf 24 = .ok (.iload_n 1, 1) := by decide +kernel
theorem d_Fi_livesOf_25 : decode zb_Fi_livesOf 25 = .ok (.if_icmp .ne 15, 3) := by decide +kernel
theorem d_Fi_livesOf_28 : decode zb_Fi_livesOf 28 = .ok (.iload_n 2, 1) := by decide +kernel
theorem d_Fi_livesOf_29 : decode zb_Fi_livesOf 29 = .ok (.aload_n 0, 1) := by decide +kernel
theorem d_Fi_livesOf_30 : decode zb_Fi_livesOf 30 = .ok (.getfield 16, 3) := by decide +kernel
theorem d_Fi_livesOf_33 : decode zb_Fi_livesOf 33 = .ok (.iload_n 3, 1) := by decide +kernel
theorem d_Fi_livesOf_34 : decode zb_Fi_livesOf 34 = .ok (.iconst 2, 1) := by decide +kernel
theorem d_Fi_livesOf_35 : decode zb_Fi_livesOf 35 = .ok (.invokevirtual 36, 3) := by decide +kernel
theorem d_Fi_livesOf_38 : decode zb_Fi_livesOf 38 = .ok (.iadd, 1) := by decide +kernel
theorem d_Fi_livesOf_39 : decode zb_Fi_livesOf 39 = .ok (.istore_n 2, 1) := by decide +kernel
theorem d_Fi_livesOf_40 : decode zb_Fi_livesOf 40 = .ok (.iinc 3 1, 3) := by decide +kernel
theorem d_Fi_livesOf_43 : decode zb_Fi_livesOf 43 = .ok (.goto (-39), 3) := by decide +kernel
theorem d_Fi_livesOf_46 : decode zb_Fi_livesOf 46 = .ok (.iload_n 2, 1) := by decide +kernel
theorem d_Fi_livesOf_47 : decode zb_Fi_livesOf 47 = .ok (.ireturn, 1) := by decide +kernel
def k_Fi_livesOf_4 (x : zsF) (l1 : Int32) : Nat → Int32 → Int32 → Option (Int32)
  | 0, _, _ => none
  | fu + 1, l2, l3 => (k_Ta_used 13 104 x.2.1).bind fun o1 => (if l3 < o1 then (k_Ta_get 13 104 x.2.1 l3 ((0 : Int32))).bind fun o3 => (if o3 = l1 then (k_Ta_get 13 104 x.2.1 l3 ((2 : Int32))).bind fun o5 => k_Fi_livesOf_4 x l1 fu ((l2 + o5)) ((l3 + (1 : Int32))) else k_Fi_livesOf_4 x l1 fu l2 ((l3 + (1 : Int32)))) else some l2)
theorem w_Fi_livesOf_4 {X : zX} {c : zY} {q : Nat → Nat} {x : zsF} {l1 : Int32} {out : Int32} (hX : Ok X zr_Fi zb_Fi_livesOf 4 1 c) (hR : Rt X (some .int) (some (.int out)) (zwF c q x)) : ∀ (fu : Nat) (l2 : Int32) (l3 : Int32), k_Fi_livesOf_4 x l1 fu l2 l3 = some out → Go X (zwF c q x) [(0, .ref ((q 6))), (1, .int l1), (2, .int l2), (3, .int l3)] 4 [] := by
  intro fu
  induction fu with
  | zero => intro l2 l3 h; rw [k_Fi_livesOf_4] at h; cases h
  | succ fu ih =>
    intro l2 l3 h
    rw [k_Fi_livesOf_4] at h
    refine g_iload_n (pc := 4) hX d_Fi_livesOf_4 rfl 3 rfl ?_
    refine g_aload_n (pc := 5) hX d_Fi_livesOf_5 rfl 0 rfl ?_
    refine gf_Fi_16 (pc := 6) (v := .ref ((q 7))) hX 6 rfl rfl d_Fi_livesOf_6 ?_
    obtain ⟨o1, e1, h⟩ := zbind h
    refine g_cvI (pc := 9)  (st := [.int l3]) (w' := (zwF c q x)) hX zk_Ta_used zs_Ta_used zL_Fi_28 (c_Ta_used c (q 7) (q 8) 13 104 x.2.1 e1) rfl rfl rfl rfl (sp_Fi_Ta_7 c q x) (sp_Fi_Ta_7 c q x).symm 7 6 rfl rfl rfl d_Fi_livesOf_9 ?_
    refine g_icmp_ge (pc := 12) (tgt := 46) hX d_Fi_livesOf_12 (by decide) h (fun c2 h => ?_) (fun c2 h => ?_)
    · refine g_iload_n (pc := 46) hX d_Fi_livesOf_46 rfl 2 rfl ?_
      cases h
      exact g_iret (pc := 47) hX hR d_Fi_livesOf_47
    · refine g_aload_n (pc := 15) hX d_Fi_livesOf_15 rfl 0 rfl ?_
      refine gf_Fi_16 (pc := 16) (v := .ref ((q 7))) hX 6 rfl rfl d_Fi_livesOf_16 ?_
      refine g_iload_n (pc := 19) hX d_Fi_livesOf_19 rfl 3 rfl ?_
      refine g_iconst (pc := 20) hX d_Fi_livesOf_20 zc_0 ?_
      obtain ⟨o3, e3, h⟩ := zbind h
      refine g_cvI (pc := 21)  (st := []) (w' := (zwF c q x)) hX zk_Ta_get zs_Ta_get zL_Fi_36 (c_Ta_get c (q 7) (q 8) 13 104 x.2.1 l3 ((0 : Int32)) e3) rfl rfl rfl rfl (sp_Fi_Ta_7 c q x) (sp_Fi_Ta_7 c q x).symm 7 6 rfl rfl rfl d_Fi_livesOf_21 ?_
      refine g_iload_n (pc := 24) hX d_Fi_livesOf_24 rfl 1 rfl ?_
      refine g_icmp_ne (pc := 25) (tgt := 40) hX d_Fi_livesOf_25 (by decide) h (fun c4 h => ?_) (fun c4 h => ?_)
      · refine g_iinc (pc := 40) (q := 3) (L' := [(3, .int ((l3 + (1 : Int32)))), (0, .ref ((q 6))), (1, .int l1), (2, .int l2)]) hX d_Fi_livesOf_40 rfl zc_1 rfl rfl ?_
        refine g_goto (pc := 43) (tgt := 4) hX d_Fi_livesOf_43 (by decide) ?_
        refine g_ls (L' := [(0, .ref ((q 6))), (1, .int l1), (2, .int l2), (3, .int ((l3 + (1 : Int32))))]) [1, 2, 3, 0] rfl ?_
        exact ih _ _ h
      · refine g_iload_n (pc := 28) hX d_Fi_livesOf_28 rfl 2 rfl ?_
        refine g_aload_n (pc := 29) hX d_Fi_livesOf_29 rfl 0 rfl ?_
        refine gf_Fi_16 (pc := 30) (v := .ref ((q 7))) hX 6 rfl rfl d_Fi_livesOf_30 ?_
        refine g_iload_n (pc := 33) hX d_Fi_livesOf_33 rfl 3 rfl ?_
        refine g_iconst (pc := 34) hX d_Fi_livesOf_34 zc_2 ?_
        obtain ⟨o5, e5, h⟩ := zbind h
        refine g_cvI (pc := 35)  (st := [.int l2]) (w' := (zwF c q x)) hX zk_Ta_get zs_Ta_get zL_Fi_36 (c_Ta_get c (q 7) (q 8) 13 104 x.2.1 l3 ((2 : Int32)) e5) rfl rfl rfl rfl (sp_Fi_Ta_7 c q x) (sp_Fi_Ta_7 c q x).symm 7 6 rfl rfl rfl d_Fi_livesOf_35 ?_
        refine g_iadd (pc := 38) hX d_Fi_livesOf_38 ?_
        refine g_istore_n (pc := 39) (L' := [(2, .int ((l2 + o5))), (0, .ref ((q 6))), (1, .int l1), (3, .int l3)]) hX d_Fi_livesOf_39 rfl rfl rfl ?_
        refine g_iinc (pc := 40) (q := 3) (L' := [(3, .int ((l3 + (1 : Int32)))), (2, .int ((l2 + o5))), (0, .ref ((q 6))), (1, .int l1)]) hX d_Fi_livesOf_40 rfl zc_1 rfl rfl ?_
        refine g_goto (pc := 43) (tgt := 4) hX d_Fi_livesOf_43 (by decide) ?_
        refine g_ls (L' := [(0, .ref ((q 6))), (1, .int l1), (2, .int ((l2 + o5))), (3, .int ((l3 + (1 : Int32))))]) [2, 3, 1, 0] rfl ?_
        exact ih _ _ h
def k_Fi_livesOf (x : zsF) (l1 : Int32) : Option (Int32) := k_Fi_livesOf_4 x l1 zFu ((0 : Int32)) ((0 : Int32))
theorem c_Fi_livesOf (c : zY) (q : Nat → Nat) (x : zsF) (l1 : Int32) {out : Int32} (h : k_Fi_livesOf x l1 = some out) : KM zy_Fi_livesOf zb_Fi_livesOf 4 (some .int) 1 c [.ref ((q 6)), .int l1] (zwF c q x) (zwF c q x) (some (.int out)) := zK_of zp_Fi rfl (Nat.le_of_ble_eq_true rfl) (zq_Fi c q _ _) (fun X hX hR => by
  show Go X (zwF c q x) [(0, .ref ((q 6))), (1, .int l1)] 0 []
  rw [k_Fi_livesOf] at h
  refine g_iconst (pc := 0) hX d_Fi_livesOf_0 zc_0 ?_
  refine g_istore_n (pc := 1) (L' := [(2, .int ((0 : Int32))), (0, .ref ((q 6))), (1, .int l1)]) hX d_Fi_livesOf_1 rfl rfl rfl ?_
  refine g_iconst (pc := 2) hX d_Fi_livesOf_2 zc_0 ?_
  refine g_istore_n (pc := 3) (L' := [(3, .int ((0 : Int32))), (2, .int ((0 : Int32))), (0, .ref ((q 6))), (1, .int l1)]) hX d_Fi_livesOf_3 rfl rfl rfl ?_
  refine g_ls (L' := [(0, .ref ((q 6))), (1, .int l1), (2, .int ((0 : Int32))), (3, .int ((0 : Int32)))]) [2, 3, 1, 0] rfl ?_
  exact w_Fi_livesOf_4 hX hR _ _ _ h)
theorem d_Fi_moveTo_0 : decode zb_Fi_moveTo 0 = .ok (.aload_n 0, 1) := by decide +kernel
theorem d_Fi_moveTo_1 : decode zb_Fi_moveTo 1 = .ok (.getfield 16, 3) := by decide +kernel
theorem d_Fi_moveTo_4 : decode zb_Fi_moveTo 4 = .ok (.iload_n 1, 1) := by decide +kernel
theorem d_Fi_moveTo_5 : decode zb_Fi_moveTo 5 = .ok (.iconst 1, 1) := by decide +kernel
theorem d_Fi_moveTo_6 : decode zb_Fi_moveTo 6 = .ok (.iload_n 2, 1) := by decide +kernel
theorem d_Fi_moveTo_7 : decode zb_Fi_moveTo 7 = .ok (.invokevirtual 40, 3) := by decide +kernel
theorem d_Fi_moveTo_10 : decode zb_Fi_moveTo 10 = .ok (.aload_n 0, 1) := by decide +kernel
theorem d_Fi_moveTo_11 : decode zb_Fi_moveTo 11 = .ok (.getfield 24, 3) := by decide +kernel
theorem d_Fi_moveTo_14 : decode zb_Fi_moveTo 14 = .ok (.bipush 7, 2) := by decide +kernel
theorem d_Fi_moveTo_16 : decode zb_Fi_moveTo 16 = .ok (.iload_n 1, 1) := by decide +kernel
theorem d_Fi_moveTo_17 : decode zb_Fi_moveTo 17 = .ok (.iload_n 2, 1) := by decide +kernel
theorem d_Fi_moveTo_18 : decode zb_Fi_moveTo 18 = .ok (.invokevirtual 46, 3) := by decide +kernel
theorem d_Fi_moveTo_21 : decode zb_Fi_moveTo 21 = .ok (.return_, 1) := by decide +kernel
def k_Fi_moveTo (x : zsF) (l1 : Int32) (l2 : Int32) : Option (zsF) := (k_Ta_set 13 104 x.2.1 l1 ((1 : Int32)) l2).bind fun o1 => (k_Jo_write x.1.1 ((7 : Int32)) l1 l2).bind fun o2 => some (((o2, x.1.2.1, x.1.2.2), o1, x.2.2))
theorem c_Fi_moveTo (c : zY) (q : Nat → Nat) (x : zsF) (l1 : Int32) (l2 : Int32) {out : zsF} (h : k_Fi_moveTo x l1 l2 = some out) : KM zy_Fi_moveTo zb_Fi_moveTo 3 none 1 c [.ref ((q 6)), .int l1, .int l2] (zwF c q x) (zwF c q out) none := zK_of zp_Fi rfl (Nat.le_of_ble_eq_true rfl) (zq_Fi c q _ _) (fun X hX hR => by
  show Go X (zwF c q x) [(0, .ref ((q 6))), (1, .int l1), (2, .int l2)] 0 []
  rw [k_Fi_moveTo] at h
  refine g_aload_n (pc := 0) hX d_Fi_moveTo_0 rfl 0 rfl ?_
  refine gf_Fi_16 (pc := 1) (v := .ref ((q 7))) hX 6 rfl rfl d_Fi_moveTo_1 ?_
  refine g_iload_n (pc := 4) hX d_Fi_moveTo_4 rfl 1 rfl ?_
  refine g_iconst (pc := 5) hX d_Fi_moveTo_5 zc_1 ?_
  refine g_iload_n (pc := 6) hX d_Fi_moveTo_6 rfl 2 rfl ?_
  obtain ⟨o1, e1, h⟩ := zbind h
  refine g_cvV (pc := 7)  (st := []) (w' := (zwF c q ((x.1, o1, x.2.2)))) hX zk_Ta_set zs_Ta_set zL_Fi_40 (c_Ta_set c (q 7) (q 8) 13 104 x.2.1 l1 ((1 : Int32)) l2 e1) rfl rfl rfl rfl (sp_Fi_Ta_7 c q x) (sq_Fi_Ta_7 c q x o1) 7 6 rfl rfl rfl d_Fi_moveTo_7 ?_
  refine g_aload_n (pc := 10) hX d_Fi_moveTo_10 rfl 0 rfl ?_
  refine gf_Fi_24 (pc := 11) (v := .ref ((q 0))) hX 6 rfl rfl d_Fi_moveTo_11 ?_
  refine g_bipush (pc := 14) hX d_Fi_moveTo_14 ze_7 ?_
  refine g_iload_n (pc := 16) hX d_Fi_moveTo_16 rfl 1 rfl ?_
  refine g_iload_n (pc := 17) hX d_Fi_moveTo_17 rfl 2 rfl ?_
  obtain ⟨o2, e2, h⟩ := zbind h
  refine g_cvV (pc := 18)  (st := []) (w' := (zwF c q (((o2, x.1.2.1, x.1.2.2), o1, x.2.2)))) hX zk_Jo_write zs_Jo_write zL_Fi_46 (c_Jo_write c q x.1.1 ((7 : Int32)) l1 l2 e2) rfl rfl rfl rfl (sp_Fi_Jo_0 c q ((x.1, o1, x.2.2))) (sq_Fi_Jo_0 c q ((x.1, o1, x.2.2)) o2) 0 4 rfl rfl rfl d_Fi_moveTo_18 ?_
  cases h
  exact g_vret (pc := 21) hX hR d_Fi_moveTo_21)
theorem d_Fi_lose_0 : decode zb_Fi_lose 0 = .ok (.aload_n 0, 1) := by decide +kernel
theorem d_Fi_lose_1 : decode zb_Fi_lose 1 = .ok (.getfield 16, 3) := by decide +kernel
theorem d_Fi_lose_4 : decode zb_Fi_lose 4 = .ok (.iload_n 1, 1) := by decide +kernel
theorem d_Fi_lose_5 : decode zb_Fi_lose 5 = .ok (.iconst 2, 1) := by decide +kernel
theorem d_Fi_lose_6 : decode zb_Fi_lose 6 = .ok (.invokevirtual 36, 3) := by decide +kernel
theorem d_Fi_lose_9 : decode zb_Fi_lose 9 = .ok (.istore_n 3, 1) := by decide +kernel
theorem d_Fi_lose_10 : decode zb_Fi_lose 10 = .ok (.iload_n 3, 1) := by decide +kernel
theorem d_Fi_lose_11 : decode zb_Fi_lose 11 = .ok (.iload_n 2, 1) := by decide +kernel
theorem d_Fi_lose_12 : decode zb_Fi_lose 12 = .ok (.invokestatic 62, 3) := by decide +kernel
theorem d_Fi_lose_15 : decode zb_Fi_lose 15 = .ok (.istore 4, 2) := by decide +kernel
theorem d_Fi_lose_17 : decode zb_Fi_lose 17 = .ok (.iload 4, 2) := by decide +kernel
theorem d_Fi_lose_19 : decode zb_Fi_lose 19 = .ok (.ifCond .gt 5, 3) := by decide +kernel
theorem d_Fi_lose_22 : decode zb_Fi_lose 22 = .ok (.iconst 0, 1) := by decide +kernel
theorem d_Fi_lose_23 : decode zb_Fi_lose 23 = .ok (.ireturn, 1) := by decide +kernel
theorem d_Fi_lose_24 : decode zb_Fi_lose 24 = .ok (.aload_n 0, 1) := by decide +kernel
theorem d_Fi_lose_25 : decode zb_Fi_lose 25 = .ok (.getfield 16, 3) := by decide +kernel
theorem d_Fi_lose_28 : decode zb_Fi_lose 28 = .ok (.iload_n 1, 1) := by decide +kernel
theorem d_Fi_lose_29 : decode zb_Fi_lose 29 = .ok (.iconst 2, 1) := by decide +kernel
theorem d_Fi_lose_30 : decode zb_Fi_lose 30 = .ok (.iload_n 3, 1) := by decide +kernel
theorem d_Fi_lose_31 : decode zb_Fi_lose 31 = .ok (.iload 4, 2) := by decide +kernel
theorem d_Fi_lose_33 : decode zb_Fi_lose 33 = .ok (.isub, 1) := by decide +kernel
theorem d_Fi_lose_34 : decode zb_Fi_lose 34 = .ok (.invokevirtual 40, 3) := by decide +kernel
theorem d_Fi_lose_37 : decode zb_Fi_lose 37 = .ok (.aload_n 0, 1) := by decide +kernel
theorem d_Fi_lose_38 : decode zb_Fi_lose 38 = .ok (.dup, 1) := by decide +kernel
theorem d_Fi_lose_39 : decode zb_Fi_lose 39 = .ok (.getfield 67, 3) := by decide +kernel
theorem d_Fi_lose_42 : decode zb_Fi_lose 42 = .ok (.iload 4, 2) := by decide +kernel
theorem d_Fi_lose_44 : decode zb_Fi_lose 44 = .ok (.iadd, 1) := by decide +kernel
theorem d_Fi_lose_45 : decode zb_Fi_lose 45 = .ok (.putfield 67, 3) := by decide +kernel
theorem d_Fi_lose_48 : decode zb_Fi_lose 48 = .ok (.aload_n 0, 1) := by decide +kernel
theorem d_Fi_lose_49 : decode zb_Fi_lose 49 = .ok (.getfield 24, 3) := by decide +kernel
theorem d_Fi_lose_52 : decode zb_Fi_lose 52 = .ok (.iconst 1, 1) := by decide +kernel
theorem d_Fi_lose_53 : decode zb_Fi_lose 53 = .ok (.iload_n 1, 1) := by decide +kernel
theorem d_Fi_lose_54 : decode zb_Fi_lose 54 = .ok (.iload 4, 2) := by decide +kernel
theorem d_Fi_lose_56 : decode zb_Fi_lose 56 = .ok (.invokevirtual 46, 3) := by decide +kernel
theorem d_Fi_lose_59 : decode zb_Fi_lose 59 = .ok (.iload 4, 2) := by decide +kernel
theorem d_Fi_lose_61 : decode zb_Fi_lose 61 = .ok (.iload_n 3, 1) := by decide +kernel
theorem d_Fi_lose_62 : decode zb_Fi_lose 62 = .ok (.if_icmp .ne 14, 3) := by decide +kernel
theorem d_Fi_lose_65 : decode zb_Fi_lose 65 = .ok (.aload_n 0, 1) := by decide +kernel
theorem d_Fi_lose_66 : decode zb_Fi_lose 66 = .ok (.getfield 20, 3) := by decide +kernel
theorem d_Fi_lose_69 : decode zb_Fi_lose 69 = .ok (.iload_n 1, 1) := by decide +kernel
theorem d_Fi_lose_70 : decode zb_Fi_lose 70 = .ok (.invokevirtual 71, 3) := by decide +kernel
theorem d_Fi_lose_73 : decode zb_Fi_lose 73 = .ok (.goto 11, 3) := by decide +kernel
theorem d_Fi_lose_76 : decode zb_Fi_lose 76 = .ok (.aload_n 0, 1) := by decide +kernel
theorem d_Fi_lose_77 : decode zb_Fi_lose 77 = .ok (.getfield 20, 3) := by decide +kernel
theorem d_Fi_lose_80 : decode zb_Fi_lose 80 = .ok (.iload_n 1, 1) := by decide +kernel
theorem d_Fi_lose_81 : decode zb_Fi_lose 81 = .ok (.invokevirtual 75, 3) := by decide +kernel
theorem d_Fi_lose_84 : decode zb_Fi_lose 84 = .ok (.iload 4, 2) := by decide +kernel
theorem d_Fi_lose_86 : decode zb_Fi_lose 86 = .ok (.ireturn, 1) := by decide +kernel
def k_Fi_lose (x : zsF) (l1 : Int32) (l2 : Int32) : Option (Int32 × zsF) := (k_Ta_get 13 104 x.2.1 l1 ((2 : Int32))).bind fun o1 => (if 0 < (zmin o1 l2) then (k_Ta_set 13 104 x.2.1 l1 ((2 : Int32)) ((o1 - (zmin o1 l2)))).bind fun o3 => (k_Jo_write x.1.1 ((1 : Int32)) l1 ((zmin o1 l2))).bind fun o4 => (if (zmin o1 l2) = o1 then (k_Co_endAllOf ((o4, x.1.2.1, x.1.2.2)) l1).bind fun o7 => some ((zmin o1 l2), (o7, o3, (upd x.2.2 3 (((x.2.2 3) + (zmin o1 l2)))))) else (k_Co_endHarmedOf ((o4, x.1.2.1, x.1.2.2)) l1).bind fun o6 => some ((zmin o1 l2), (o6, o3, (upd x.2.2 3 (((x.2.2 3) + (zmin o1 l2))))))) else some ((0 : Int32), x))
theorem c_Fi_lose (c : zY) (q : Nat → Nat) (x : zsF) (l1 : Int32) (l2 : Int32) {out : Int32 × zsF} (h : k_Fi_lose x l1 l2 = some out) : KM zy_Fi_lose zb_Fi_lose 5 (some .int) 4 c [.ref ((q 6)), .int l1, .int l2] (zwF c q x) (zwF c q out.2) (some (.int out.1)) := zK_of zp_Fi rfl (Nat.le_of_ble_eq_true rfl) (zq_Fi c q _ _) (fun X hX hR => by
  show Go X (zwF c q x) [(0, .ref ((q 6))), (1, .int l1), (2, .int l2)] 0 []
  rw [k_Fi_lose] at h
  refine g_aload_n (pc := 0) hX d_Fi_lose_0 rfl 0 rfl ?_
  refine gf_Fi_16 (pc := 1) (v := .ref ((q 7))) hX 6 rfl rfl d_Fi_lose_1 ?_
  refine g_iload_n (pc := 4) hX d_Fi_lose_4 rfl 1 rfl ?_
  refine g_iconst (pc := 5) hX d_Fi_lose_5 zc_2 ?_
  obtain ⟨o1, e1, h⟩ := zbind h
  refine g_cvI (pc := 6)  (st := []) (w' := (zwF c q x)) hX zk_Ta_get zs_Ta_get zL_Fi_36 (c_Ta_get c (q 7) (q 8) 13 104 x.2.1 l1 ((2 : Int32)) e1) rfl rfl rfl rfl (sp_Fi_Ta_7 c q x) (sp_Fi_Ta_7 c q x).symm 7 6 rfl rfl rfl d_Fi_lose_6 ?_
  refine g_istore_n (pc := 9) (L' := [(3, .int o1), (0, .ref ((q 6))), (1, .int l1), (2, .int l2)]) hX d_Fi_lose_9 rfl rfl rfl ?_
  refine g_iload_n (pc := 10) hX d_Fi_lose_10 rfl 0 rfl ?_
  refine g_iload_n (pc := 11) hX d_Fi_lose_11 rfl 3 rfl ?_
  refine g_mmin (pc := 12) hX zL_Fi_62 rfl rfl d_Fi_lose_12 ?_
  refine g_istore (pc := 15) (L' := [(4, .int ((zmin o1 l2))), (3, .int o1), (0, .ref ((q 6))), (1, .int l1), (2, .int l2)]) hX d_Fi_lose_15 rfl rfl ?_
  refine g_iload (pc := 17) hX d_Fi_lose_17 0 rfl ?_
  refine g_if_gt (pc := 19) (tgt := 24) hX d_Fi_lose_19 (by decide) h (fun c2 h => ?_) (fun c2 h => ?_)
  · refine g_aload_n (pc := 24) hX d_Fi_lose_24 rfl 2 rfl ?_
    refine gf_Fi_16 (pc := 25) (v := .ref ((q 7))) hX 6 rfl rfl d_Fi_lose_25 ?_
    refine g_iload_n (pc := 28) hX d_Fi_lose_28 rfl 3 rfl ?_
    refine g_iconst (pc := 29) hX d_Fi_lose_29 zc_2 ?_
    refine g_iload_n (pc := 30) hX d_Fi_lose_30 rfl 1 rfl ?_
    refine g_iload (pc := 31) hX d_Fi_lose_31 0 rfl ?_
    refine g_isub (pc := 33) hX d_Fi_lose_33 ?_
    obtain ⟨o3, e3, h⟩ := zbind h
    refine g_cvV (pc := 34)  (st := []) (w' := (zwF c q ((x.1, o3, x.2.2)))) hX zk_Ta_set zs_Ta_set zL_Fi_40 (c_Ta_set c (q 7) (q 8) 13 104 x.2.1 l1 ((2 : Int32)) ((o1 - (zmin o1 l2))) e3) rfl rfl rfl rfl (sp_Fi_Ta_7 c q x) (sq_Fi_Ta_7 c q x o3) 7 6 rfl rfl rfl d_Fi_lose_34 ?_
    refine g_aload_n (pc := 37) hX d_Fi_lose_37 rfl 2 rfl ?_
    refine g_dup (pc := 38) hX d_Fi_lose_38 rfl ?_
    refine gf_Fi_67 (pc := 39) (v := .int ((x.2.2 3))) hX 6 rfl rfl d_Fi_lose_39 ?_
    refine g_iload (pc := 42) hX d_Fi_lose_42 0 rfl ?_
    refine g_iadd (pc := 44) hX d_Fi_lose_44 ?_
    refine pf_Fi_67 (pc := 45) (w2 := (zwF c q ((x.1, o3, (upd x.2.2 3 (((x.2.2 3) + (zmin o1 l2)))))))) hX 6 rfl rfl (su_Fi_6_3 c q ((x.1, o3, x.2.2)) (((x.2.2 3) + (zmin o1 l2)))) d_Fi_lose_45 ?_
    refine g_aload_n (pc := 48) hX d_Fi_lose_48 rfl 2 rfl ?_
    refine gf_Fi_24 (pc := 49) (v := .ref ((q 0))) hX 6 rfl rfl d_Fi_lose_49 ?_
    refine g_iconst (pc := 52) hX d_Fi_lose_52 zc_1 ?_
    refine g_iload_n (pc := 53) hX d_Fi_lose_53 rfl 3 rfl ?_
    refine g_iload (pc := 54) hX d_Fi_lose_54 0 rfl ?_
    obtain ⟨o4, e4, h⟩ := zbind h
    refine g_cvV (pc := 56)  (st := []) (w' := (zwF c q (((o4, x.1.2.1, x.1.2.2), o3, (upd x.2.2 3 (((x.2.2 3) + (zmin o1 l2)))))))) hX zk_Jo_write zs_Jo_write zL_Fi_46 (c_Jo_write c q x.1.1 ((1 : Int32)) l1 ((zmin o1 l2)) e4) rfl rfl rfl rfl (sp_Fi_Jo_0 c q ((x.1, o3, (upd x.2.2 3 (((x.2.2 3) + (zmin o1 l2))))))) (sq_Fi_Jo_0 c q ((x.1, o3, (upd x.2.2 3 (((x.2.2 3) + (zmin o1 l2)))))) o4) 0 4 rfl rfl rfl d_Fi_lose_56 ?_
    refine g_iload (pc := 59) hX d_Fi_lose_59 0 rfl ?_
    refine g_iload_n (pc := 61) hX d_Fi_lose_61 rfl 1 rfl ?_
    refine g_icmp_ne (pc := 62) (tgt := 76) hX d_Fi_lose_62 (by decide) h (fun c5 h => ?_) (fun c5 h => ?_)
    · refine g_aload_n (pc := 76) hX d_Fi_lose_76 rfl 2 rfl ?_
      refine gf_Fi_20 (pc := 77) (v := .ref ((q 2))) hX 6 rfl rfl d_Fi_lose_77 ?_
      refine g_iload_n (pc := 80) hX d_Fi_lose_80 rfl 3 rfl ?_
      obtain ⟨o6, e6, h⟩ := zbind h
      refine g_cvV (pc := 81)  (st := []) (w' := (zwF c q ((o6, o3, (upd x.2.2 3 (((x.2.2 3) + (zmin o1 l2)))))))) hX zk_Co_endHarmedOf zs_Co_endHarmedOf zL_Fi_75 (c_Co_endHarmedOf c q ((o4, x.1.2.1, x.1.2.2)) l1 e6) rfl rfl rfl rfl (sp_Fi_Co_0 c q (((o4, x.1.2.1, x.1.2.2), o3, (upd x.2.2 3 (((x.2.2 3) + (zmin o1 l2))))))) (sq_Fi_Co_0 c q (((o4, x.1.2.1, x.1.2.2), o3, (upd x.2.2 3 (((x.2.2 3) + (zmin o1 l2)))))) o6) 2 1 rfl rfl rfl d_Fi_lose_81 ?_
      refine g_iload (pc := 84) hX d_Fi_lose_84 0 rfl ?_
      cases h
      exact g_iret (pc := 86) hX hR d_Fi_lose_86
    · refine g_aload_n (pc := 65) hX d_Fi_lose_65 rfl 2 rfl ?_
      refine gf_Fi_20 (pc := 66) (v := .ref ((q 2))) hX 6 rfl rfl d_Fi_lose_66 ?_
      refine g_iload_n (pc := 69) hX d_Fi_lose_69 rfl 3 rfl ?_
      obtain ⟨o7, e7, h⟩ := zbind h
      refine g_cvV (pc := 70)  (st := []) (w' := (zwF c q ((o7, o3, (upd x.2.2 3 (((x.2.2 3) + (zmin o1 l2)))))))) hX zk_Co_endAllOf zs_Co_endAllOf zL_Fi_71 (c_Co_endAllOf c q ((o4, x.1.2.1, x.1.2.2)) l1 e7) rfl rfl rfl rfl (sp_Fi_Co_0 c q (((o4, x.1.2.1, x.1.2.2), o3, (upd x.2.2 3 (((x.2.2 3) + (zmin o1 l2))))))) (sq_Fi_Co_0 c q (((o4, x.1.2.1, x.1.2.2), o3, (upd x.2.2 3 (((x.2.2 3) + (zmin o1 l2)))))) o7) 2 1 rfl rfl rfl d_Fi_lose_70 ?_
      refine g_goto (pc := 73) (tgt := 84) hX d_Fi_lose_73 (by decide) ?_
      refine g_iload (pc := 84) hX d_Fi_lose_84 0 rfl ?_
      cases h
      exact g_iret (pc := 86) hX hR d_Fi_lose_86
  · refine g_iconst (pc := 22) hX d_Fi_lose_22 zc_0 ?_
    cases h
    exact g_iret (pc := 23) hX hR d_Fi_lose_23)
theorem d_Fi_hurt_0 : decode zb_Fi_hurt 0 = .ok (.aload_n 0, 1) := by decide +kernel
theorem d_Fi_hurt_1 : decode zb_Fi_hurt 1 = .ok (.iload_n 1, 1) := by decide +kernel
theorem d_Fi_hurt_2 : decode zb_Fi_hurt 2 = .ok (.iload_n 2, 1) := by decide +kernel
theorem d_Fi_hurt_3 : decode zb_Fi_hurt 3 = .ok (.aload_n 0, 1) := by decide +kernel
theorem d_Fi_hurt_4 : decode zb_Fi_hurt 4 = .ok (.getfield 20, 3) := by decide +kernel
theorem d_Fi_hurt_7 : decode zb_Fi_hurt 7 = .ok (.iload_n 1, 1) := by decide +kernel
theorem d_Fi_hurt_8 : decode zb_Fi_hurt 8 = .ok (.iconst 4, 1) := by decide +kernel
theorem d_Fi_hurt_9 : decode zb_Fi_hurt 9 = .ok (.invokevirtual 54, 3) := by decide +kernel
theorem d_Fi_hurt_12 : decode zb_Fi_hurt 12 = .ok (.iadd, 1) := by decide +kernel
theorem d_Fi_hurt_13 : decode zb_Fi_hurt 13 = .ok (.aload_n 0, 1) := by decide +kernel
theorem d_Fi_hurt_14 : decode zb_Fi_hurt 14 = .ok (.getfield 20, 3) := by decide +kernel
theorem d_Fi_hurt_17 : decode zb_Fi_hurt 17 = .ok (.iload_n 1, 1) := by decide +kernel
theorem d_Fi_hurt_18 : decode zb_Fi_hurt 18 = .ok (.iconst 2, 1) := by decide +kernel
theorem d_Fi_hurt_19 : decode zb_Fi_hurt 19 = .ok (.invokevirtual 54, 3) := by decide +kernel
theorem d_Fi_hurt_22 : decode zb_Fi_hurt 22 = .ok (.isub, 1) := by decide +kernel
theorem d_Fi_hurt_23 : decode zb_Fi_hurt 23 = .ok (.invokevirtual 59, 3) := by decide +kernel
theorem d_Fi_hurt_26 : decode zb_Fi_hurt 26 = .ok (.ireturn, 1) := by decide +kernel
def k_Fi_hurt (x : zsF) (l1 : Int32) (l2 : Int32) : Option (Int32 × zsF) := (k_Co_sumOf x.1 l1 ((4 : Int32))).bind fun o1 => (k_Co_sumOf x.1 l1 ((2 : Int32))).bind fun o2 => (k_Fi_lose x l1 (((l2 + o1) - o2))).bind fun o3 => some (o3.1, o3.2)
theorem c_Fi_hurt (c : zY) (q : Nat → Nat) (x : zsF) (l1 : Int32) (l2 : Int32) {out : Int32 × zsF} (h : k_Fi_hurt x l1 l2 = some out) : KM zy_Fi_hurt zb_Fi_hurt 3 (some .int) 5 c [.ref ((q 6)), .int l1, .int l2] (zwF c q x) (zwF c q out.2) (some (.int out.1)) := zK_of zp_Fi rfl (Nat.le_of_ble_eq_true rfl) (zq_Fi c q _ _) (fun X hX hR => by
  show Go X (zwF c q x) [(0, .ref ((q 6))), (1, .int l1), (2, .int l2)] 0 []
  rw [k_Fi_hurt] at h
  refine g_aload_n (pc := 0) hX d_Fi_hurt_0 rfl 0 rfl ?_
  refine g_iload_n (pc := 1) hX d_Fi_hurt_1 rfl 1 rfl ?_
  refine g_iload_n (pc := 2) hX d_Fi_hurt_2 rfl 2 rfl ?_
  refine g_aload_n (pc := 3) hX d_Fi_hurt_3 rfl 0 rfl ?_
  refine gf_Fi_20 (pc := 4) (v := .ref ((q 2))) hX 6 rfl rfl d_Fi_hurt_4 ?_
  refine g_iload_n (pc := 7) hX d_Fi_hurt_7 rfl 1 rfl ?_
  refine g_iconst (pc := 8) hX d_Fi_hurt_8 zc_4 ?_
  obtain ⟨o1, e1, h⟩ := zbind h
  refine g_cvI (pc := 9)  (st := [.int l2, .int l1, .ref ((q 6))]) (w' := (zwF c q x)) hX zk_Co_sumOf zs_Co_sumOf zL_Fi_54 (c_Co_sumOf c q x.1 l1 ((4 : Int32)) e1) rfl rfl rfl rfl (sp_Fi_Co_0 c q x) (sp_Fi_Co_0 c q x).symm 2 1 rfl rfl rfl d_Fi_hurt_9 ?_
  refine g_iadd (pc := 12) hX d_Fi_hurt_12 ?_
  refine g_aload_n (pc := 13) hX d_Fi_hurt_13 rfl 0 rfl ?_
  refine gf_Fi_20 (pc := 14) (v := .ref ((q 2))) hX 6 rfl rfl d_Fi_hurt_14 ?_
  refine g_iload_n (pc := 17) hX d_Fi_hurt_17 rfl 1 rfl ?_
  refine g_iconst (pc := 18) hX d_Fi_hurt_18 zc_2 ?_
  obtain ⟨o2, e2, h⟩ := zbind h
  refine g_cvI (pc := 19)  (st := [.int ((l2 + o1)), .int l1, .ref ((q 6))]) (w' := (zwF c q x)) hX zk_Co_sumOf zs_Co_sumOf zL_Fi_54 (c_Co_sumOf c q x.1 l1 ((2 : Int32)) e2) rfl rfl rfl rfl (sp_Fi_Co_0 c q x) (sp_Fi_Co_0 c q x).symm 2 1 rfl rfl rfl d_Fi_hurt_19 ?_
  refine g_isub (pc := 22) hX d_Fi_hurt_22 ?_
  obtain ⟨o3, e3, h⟩ := zbind h
  refine g_cvI (pc := 23) (w1 := []) (w2 := []) (st := []) (w' := (zwF c q o3.2)) hX zk_Fi_lose zs_Fi_lose zL_Fi_59 (c_Fi_lose c q x l1 (((l2 + o1) - o2)) e3) rfl rfl rfl rfl (zself _) (zself _).symm 6 3 rfl rfl rfl d_Fi_hurt_23 ?_
  cases h
  exact g_iret (pc := 26) hX hR d_Fi_hurt_26)
theorem d_Fi_sufferPoisons_0 : decode zb_Fi_sufferPoisons 0 = .ok (.aload_n 0, 1) := by decide +kernel
theorem d_Fi_sufferPoisons_1 : decode zb_Fi_sufferPoisons 1 = .ok (.getfield 20, 3) := by decide +kernel
theorem d_Fi_sufferPoisons_4 : decode zb_Fi_sufferPoisons 4 = .ok (.iload_n 1, 1) := by decide +kernel
theorem d_Fi_sufferPoisons_5 : decode zb_Fi_sufferPoisons 5 = .ok (.invokevirtual 78, 3) := by decide +kernel
theorem d_Fi_sufferPoisons_8 : decode zb_Fi_sufferPoisons 8 = .ok (.istore_n 2, 1) := by decide +kernel
theorem d_Fi_sufferPoisons_9 : decode zb_Fi_sufferPoisons 9 = .ok (.iconst 0, 1) := by decide +kernel
theorem d_Fi_sufferPoisons_10 : decode zb_Fi_sufferPoisons 10 = .ok (.istore_n 3, 1) := by decide +kernel
theorem d_Fi_sufferPoisons_11 : decode zb_Fi_sufferPoisons 11 = .ok (.iload_n 3, 1) := by decide +kernel
theorem d_Fi_sufferPoisons_12 : decode zb_Fi_sufferPoisons 12 = .ok (.iload_n 2, 1) := by decide +kernel
theorem d_Fi_sufferPoisons_13 : decode zb_Fi_sufferPoisons 13 = .ok (.if_icmp .ge 24, 3) := by decide +kernel
theorem d_Fi_sufferPoisons_16 : decode zb_Fi_sufferPoisons 16 = .ok (.aload_n 0, 1) := by decide +kernel
theorem d_Fi_sufferPoisons_17 : decode zb_Fi_sufferPoisons 17 = .ok (.iload_n 1, 1) := by decide +kernel
theorem d_Fi_sufferPoisons_18 : decode zb_Fi_sufferPoisons 18 = .ok (.aload_n 0, 1) := by decide +kernel
theorem d_Fi_sufferPoisons_19 : decode zb_Fi_sufferPoisons 19 = .ok (.getfield 20, 3) := by decide +kernel
theorem d_Fi_sufferPoisons_22 : decode zb_Fi_sufferPoisons 22 = .ok (.iload_n 3, 1) := by decide +kernel
theorem d_Fi_sufferPoisons_23 : decode zb_Fi_sufferPoisons 23 = .ok (.iload_n 1, 1) := by decide +kernel
theorem d_Fi_sufferPoisons_24 : decode zb_Fi_sufferPoisons 24 = .ok (.invokevirtual 82, 3) := by decide +kernel
theorem d_Fi_sufferPoisons_27 : decode zb_Fi_sufferPoisons 27 = .ok (.invokevirtual 59, 3) := by decide +kernel
theorem d_Fi_sufferPoisons_30 : decode zb_Fi_sufferPoisons 30 = .ok (.pop, 1) := by decide +kernel
theorem d_Fi_sufferPoisons_31 : decode zb_Fi_sufferPoisons 31 = .ok (.iinc 3 1, 3) := by decide +kernel
theorem d_Fi_sufferPoisons_34 : decode zb_Fi_sufferPoisons 34 = .ok (.goto (-23), 3) := by decide +kernel
theorem d_Fi_sufferPoisons_37 : decode zb_Fi_sufferPoisons 37 = .ok (.return_, 1) := by decide +kernel
def k_Fi_sufferPoisons_11 (l1 : Int32) : Nat → Int32 → Int32 → zsF → Option (zsF)
  | 0, _, _, _ => none
  | fu + 1, l2, l3, x => (if l3 < l2 then (k_Co_poisonBy x.1 l3 l1).bind fun o3 => (k_Fi_lose x l1 o3).bind fun o4 => k_Fi_sufferPoisons_11 l1 fu l2 ((l3 + (1 : Int32))) o4.2 else some x)
theorem w_Fi_sufferPoisons_11 {X : zX} {c : zY} {q : Nat → Nat} {l1 : Int32} {out : zsF} (hX : Ok X zr_Fi zb_Fi_sufferPoisons 4 5 c) (hR : Rt X none none (zwF c q out)) : ∀ (fu : Nat) (l2 : Int32) (l3 : Int32) (x : zsF), k_Fi_sufferPoisons_11 l1 fu l2 l3 x = some out → Go X (zwF c q x) [(0, .ref ((q 6))), (1, .int l1), (2, .int l2), (3, .int l3)] 11 [] := by
  intro fu
  induction fu with
  | zero => intro l2 l3 x h; rw [k_Fi_sufferPoisons_11] at h; cases h
  | succ fu ih =>
    intro l2 l3 x h
    rw [k_Fi_sufferPoisons_11] at h
    refine g_iload_n (pc := 11) hX d_Fi_sufferPoisons_11 rfl 3 rfl ?_
    refine g_iload_n (pc := 12) hX d_Fi_sufferPoisons_12 rfl 2 rfl ?_
    refine g_icmp_ge (pc := 13) (tgt := 37) hX d_Fi_sufferPoisons_13 (by decide) h (fun c2 h => ?_) (fun c2 h => ?_)
    · cases h
      exact g_vret (pc := 37) hX hR d_Fi_sufferPoisons_37
    · refine g_aload_n (pc := 16) hX d_Fi_sufferPoisons_16 rfl 0 rfl ?_
      refine g_iload_n (pc := 17) hX d_Fi_sufferPoisons_17 rfl 1 rfl ?_
      refine g_aload_n (pc := 18) hX d_Fi_sufferPoisons_18 rfl 0 rfl ?_
      refine gf_Fi_20 (pc := 19) (v := .ref ((q 2))) hX 6 rfl rfl d_Fi_sufferPoisons_19 ?_
      refine g_iload_n (pc := 22) hX d_Fi_sufferPoisons_22 rfl 3 rfl ?_
      refine g_iload_n (pc := 23) hX d_Fi_sufferPoisons_23 rfl 1 rfl ?_
      obtain ⟨o3, e3, h⟩ := zbind h
      refine g_cvI (pc := 24)  (st := [.int l1, .ref ((q 6))]) (w' := (zwF c q x)) hX zk_Co_poisonBy zs_Co_poisonBy zL_Fi_82 (c_Co_poisonBy c q x.1 l3 l1 e3) rfl rfl rfl rfl (sp_Fi_Co_0 c q x) (sp_Fi_Co_0 c q x).symm 2 1 rfl rfl rfl d_Fi_sufferPoisons_24 ?_
      obtain ⟨o4, e4, h⟩ := zbind h
      refine g_cvI (pc := 27) (w1 := []) (w2 := []) (st := []) (w' := (zwF c q o4.2)) hX zk_Fi_lose zs_Fi_lose zL_Fi_59 (c_Fi_lose c q x l1 o3 e4) rfl rfl rfl rfl (zself _) (zself _).symm 6 3 rfl rfl rfl d_Fi_sufferPoisons_27 ?_
      refine g_pop (pc := 30) hX d_Fi_sufferPoisons_30 rfl ?_
      refine g_iinc (pc := 31) (q := 3) (L' := [(3, .int ((l3 + (1 : Int32)))), (0, .ref ((q 6))), (1, .int l1), (2, .int l2)]) hX d_Fi_sufferPoisons_31 rfl zc_1 rfl rfl ?_
      refine g_goto (pc := 34) (tgt := 11) hX d_Fi_sufferPoisons_34 (by decide) ?_
      refine g_ls (L' := [(0, .ref ((q 6))), (1, .int l1), (2, .int l2), (3, .int ((l3 + (1 : Int32))))]) [1, 2, 3, 0] rfl ?_
      exact ih _ _ _ h
def k_Fi_sufferPoisons (x : zsF) (l1 : Int32) : Option (zsF) := (k_Co_listPoisoners x.1 l1).bind fun o1 => k_Fi_sufferPoisons_11 l1 zFu o1.1 ((0 : Int32)) ((o1.2, x.2.1, x.2.2))
theorem c_Fi_sufferPoisons (c : zY) (q : Nat → Nat) (x : zsF) (l1 : Int32) {out : zsF} (h : k_Fi_sufferPoisons x l1 = some out) : KM zy_Fi_sufferPoisons zb_Fi_sufferPoisons 4 none 5 c [.ref ((q 6)), .int l1] (zwF c q x) (zwF c q out) none := zK_of zp_Fi rfl (Nat.le_of_ble_eq_true rfl) (zq_Fi c q _ _) (fun X hX hR => by
  show Go X (zwF c q x) [(0, .ref ((q 6))), (1, .int l1)] 0 []
  rw [k_Fi_sufferPoisons] at h
  refine g_aload_n (pc := 0) hX d_Fi_sufferPoisons_0 rfl 0 rfl ?_
  refine gf_Fi_20 (pc := 1) (v := .ref ((q 2))) hX 6 rfl rfl d_Fi_sufferPoisons_1 ?_
  refine g_iload_n (pc := 4) hX d_Fi_sufferPoisons_4 rfl 1 rfl ?_
  obtain ⟨o1, e1, h⟩ := zbind h
  refine g_cvI (pc := 5)  (st := []) (w' := (zwF c q ((o1.2, x.2.1, x.2.2)))) hX zk_Co_listPoisoners zs_Co_listPoisoners zL_Fi_78 (c_Co_listPoisoners c q x.1 l1 e1) rfl rfl rfl rfl (sp_Fi_Co_0 c q x) (sq_Fi_Co_0 c q x o1.2) 2 1 rfl rfl rfl d_Fi_sufferPoisons_5 ?_
  refine g_istore_n (pc := 8) (L' := [(2, .int o1.1), (0, .ref ((q 6))), (1, .int l1)]) hX d_Fi_sufferPoisons_8 rfl rfl rfl ?_
  refine g_iconst (pc := 9) hX d_Fi_sufferPoisons_9 zc_0 ?_
  refine g_istore_n (pc := 10) (L' := [(3, .int ((0 : Int32))), (2, .int o1.1), (0, .ref ((q 6))), (1, .int l1)]) hX d_Fi_sufferPoisons_10 rfl rfl rfl ?_
  refine g_ls (L' := [(0, .ref ((q 6))), (1, .int l1), (2, .int o1.1), (3, .int ((0 : Int32)))]) [2, 3, 1, 0] rfl ?_
  exact w_Fi_sufferPoisons_11 hX hR _ _ _ _ h)
theorem d_Fi_mend_0 : decode zb_Fi_mend 0 = .ok (.aload_n 0, 1) := by decide +kernel
theorem d_Fi_mend_1 : decode zb_Fi_mend 1 = .ok (.getfield 16, 3) := by decide +kernel
theorem d_Fi_mend_4 : decode zb_Fi_mend 4 = .ok (.iload_n 1, 1) := by decide +kernel
theorem d_Fi_mend_5 : decode zb_Fi_mend 5 = .ok (.iconst 2, 1) := by decide +kernel
theorem d_Fi_mend_6 : decode zb_Fi_mend 6 = .ok (.invokevirtual 36, 3) := by decide +kernel
theorem d_Fi_mend_9 : decode zb_Fi_mend 9 = .ok (.istore_n 3, 1) := by decide +kernel
theorem d_Fi_mend_10 : decode zb_Fi_mend 10 = .ok (.iload_n 2, 1) := by decide +kernel
theorem d_Fi_mend_11 : decode zb_Fi_mend 11 = .ok (.aload_n 0, 1) := by decide +kernel
theorem d_Fi_mend_12 : decode zb_Fi_mend 12 = .ok (.getfield 16, 3) := by decide +kernel
theorem d_Fi_mend_15 : decode zb_Fi_mend 15 = .ok (.iload_n 1, 1) := by decide +kernel
theorem d_Fi_mend_16 : decode zb_Fi_mend 16 = .ok (.iconst 3, 1) := by decide +kernel
theorem d_Fi_mend_17 : decode zb_Fi_mend 17 = .ok (.invokevirtual 36, 3) := by decide +kernel
theorem d_Fi_mend_20 : decode zb_Fi_mend 20 = .ok (.iload_n 3, 1) := by decide +kernel
theorem d_Fi_mend_21 : decode zb_Fi_mend 21 = .ok (.isub, 1) := by decide +kernel
theorem d_Fi_mend_22 : decode zb_Fi_mend 22 = .ok (.invokestatic 62, 3) := by decide +kernel
theorem d_Fi_mend_25 : decode zb_Fi_mend 25 = .ok (.istore 4, 2) := by decide +kernel
theorem d_Fi_mend_27 : decode zb_Fi_mend 27 = .ok (.iload 4, 2) := by decide +kernel
theorem d_Fi_mend_29 : decode zb_Fi_mend 29 = .ok (.ifCond .gt 5, 3) := by decide +kernel
theorem d_Fi_mend_32 : decode zb_Fi_mend 32 = .ok (.iconst 0, 1) := by decide +kernel
theorem d_Fi_mend_33 : decode zb_Fi_mend 33 = .ok (.ireturn, 1) := by decide +kernel
theorem d_Fi_mend_34 : decode zb_Fi_mend 34 = .ok (.aload_n 0, 1) := by decide +kernel
theorem d_Fi_mend_35 : decode zb_Fi_mend 35 = .ok (.getfield 16, 3) := by decide +kernel
theorem d_Fi_mend_38 : decode zb_Fi_mend 38 = .ok (.iload_n 1, 1) := by decide +kernel
theorem d_Fi_mend_39 : decode zb_Fi_mend 39 = .ok (.iconst 2, 1) := by decide +kernel
theorem d_Fi_mend_40 : decode zb_Fi_mend 40 = .ok (.iload_n 3, 1) := by decide +kernel
theorem d_Fi_mend_41 : decode zb_Fi_mend 41 = .ok (.iload 4, 2) := by decide +kernel
theorem d_Fi_mend_43 : decode zb_Fi_mend 43 = .ok (.iadd, 1) := by decide +kernel
theorem d_Fi_mend_44 : decode zb_Fi_mend 44 = .ok (.invokevirtual 40, 3) := by decide +kernel
theorem d_Fi_mend_47 : decode zb_Fi_mend 47 = .ok (.aload_n 0, 1) := by decide +kernel
theorem d_Fi_mend_48 : decode zb_Fi_mend 48 = .ok (.dup, 1) := by decide +kernel
theorem d_Fi_mend_49 : decode zb_Fi_mend 49 = .ok (.getfield 85, 3) := by decide +kernel
theorem d_Fi_mend_52 : decode zb_Fi_mend 52 = .ok (.iload 4, 2) := by decide +kernel
theorem d_Fi_mend_54 : decode zb_Fi_mend 54 = .ok (.iadd, 1) := by decide +kernel
theorem d_Fi_mend_55 : decode zb_Fi_mend 55 = .ok (.putfield 85, 3) := by decide +kernel
theorem d_Fi_mend_58 : decode zb_Fi_mend 58 = .ok (.aload_n 0, 1) := by decide +kernel
theorem d_Fi_mend_59 : decode zb_Fi_mend 59 = .ok (.getfield 24, 3) := by decide +kernel
theorem d_Fi_mend_62 : decode zb_Fi_mend 62 = .ok (.iconst 2, 1) := by decide +kernel
theorem d_Fi_mend_63 : decode zb_Fi_mend 63 = .ok (.iload_n 1, 1) := by decide +kernel
theorem d_Fi_mend_64 : decode zb_Fi_mend 64 = .ok (.iload 4, 2) := by decide +kernel
theorem d_Fi_mend_66 : decode zb_Fi_mend 66 = .ok (.invokevirtual 46, 3) := by decide +kernel
theorem d_Fi_mend_69 : decode zb_Fi_mend 69 = .ok (.iload 4, 2) := by decide +kernel
theorem d_Fi_mend_71 : decode zb_Fi_mend 71 = .ok (.ireturn, 1) := by decide +kernel
def k_Fi_mend (x : zsF) (l1 : Int32) (l2 : Int32) : Option (Int32 × zsF) := (k_Ta_get 13 104 x.2.1 l1 ((2 : Int32))).bind fun o1 => (k_Ta_get 13 104 x.2.1 l1 ((3 : Int32))).bind fun o2 => (if 0 < (zmin l2 ((o2 - o1))) then (k_Ta_set 13 104 x.2.1 l1 ((2 : Int32)) ((o1 + (zmin l2 ((o2 - o1)))))).bind fun o4 => (k_Jo_write x.1.1 ((2 : Int32)) l1 ((zmin l2 ((o2 - o1))))).bind fun o5 => some ((zmin l2 ((o2 - o1))), ((o5, x.1.2.1, x.1.2.2), o4, (upd x.2.2 4 (((x.2.2 4) + (zmin l2 ((o2 - o1)))))))) else some ((0 : Int32), x))
theorem c_Fi_mend (c : zY) (q : Nat → Nat) (x : zsF) (l1 : Int32) (l2 : Int32) {out : Int32 × zsF} (h : k_Fi_mend x l1 l2 = some out) : KM zy_Fi_mend zb_Fi_mend 5 (some .int) 1 c [.ref ((q 6)), .int l1, .int l2] (zwF c q x) (zwF c q out.2) (some (.int out.1)) := zK_of zp_Fi rfl (Nat.le_of_ble_eq_true rfl) (zq_Fi c q _ _) (fun X hX hR => by
  show Go X (zwF c q x) [(0, .ref ((q 6))), (1, .int l1), (2, .int l2)] 0 []
  rw [k_Fi_mend] at h
  refine g_aload_n (pc := 0) hX d_Fi_mend_0 rfl 0 rfl ?_
  refine gf_Fi_16 (pc := 1) (v := .ref ((q 7))) hX 6 rfl rfl d_Fi_mend_1 ?_
  refine g_iload_n (pc := 4) hX d_Fi_mend_4 rfl 1 rfl ?_
  refine g_iconst (pc := 5) hX d_Fi_mend_5 zc_2 ?_
  obtain ⟨o1, e1, h⟩ := zbind h
  refine g_cvI (pc := 6)  (st := []) (w' := (zwF c q x)) hX zk_Ta_get zs_Ta_get zL_Fi_36 (c_Ta_get c (q 7) (q 8) 13 104 x.2.1 l1 ((2 : Int32)) e1) rfl rfl rfl rfl (sp_Fi_Ta_7 c q x) (sp_Fi_Ta_7 c q x).symm 7 6 rfl rfl rfl d_Fi_mend_6 ?_
  refine g_istore_n (pc := 9) (L' := [(3, .int o1), (0, .ref ((q 6))), (1, .int l1), (2, .int l2)]) hX d_Fi_mend_9 rfl rfl rfl ?_
  refine g_iload_n (pc := 10) hX d_Fi_mend_10 rfl 3 rfl ?_
  refine g_aload_n (pc := 11) hX d_Fi_mend_11 rfl 1 rfl ?_
  refine gf_Fi_16 (pc := 12) (v := .ref ((q 7))) hX 6 rfl rfl d_Fi_mend_12 ?_
  refine g_iload_n (pc := 15) hX d_Fi_mend_15 rfl 2 rfl ?_
  refine g_iconst (pc := 16) hX d_Fi_mend_16 zc_3 ?_
  obtain ⟨o2, e2, h⟩ := zbind h
  refine g_cvI (pc := 17)  (st := [.int l2]) (w' := (zwF c q x)) hX zk_Ta_get zs_Ta_get zL_Fi_36 (c_Ta_get c (q 7) (q 8) 13 104 x.2.1 l1 ((3 : Int32)) e2) rfl rfl rfl rfl (sp_Fi_Ta_7 c q x) (sp_Fi_Ta_7 c q x).symm 7 6 rfl rfl rfl d_Fi_mend_17 ?_
  refine g_iload_n (pc := 20) hX d_Fi_mend_20 rfl 0 rfl ?_
  refine g_isub (pc := 21) hX d_Fi_mend_21 ?_
  refine g_mmin (pc := 22) hX zL_Fi_62 rfl rfl d_Fi_mend_22 ?_
  refine g_istore (pc := 25) (L' := [(4, .int ((zmin l2 ((o2 - o1))))), (3, .int o1), (0, .ref ((q 6))), (1, .int l1), (2, .int l2)]) hX d_Fi_mend_25 rfl rfl ?_
  refine g_iload (pc := 27) hX d_Fi_mend_27 0 rfl ?_
  refine g_if_gt (pc := 29) (tgt := 34) hX d_Fi_mend_29 (by decide) h (fun c3 h => ?_) (fun c3 h => ?_)
  · refine g_aload_n (pc := 34) hX d_Fi_mend_34 rfl 2 rfl ?_
    refine gf_Fi_16 (pc := 35) (v := .ref ((q 7))) hX 6 rfl rfl d_Fi_mend_35 ?_
    refine g_iload_n (pc := 38) hX d_Fi_mend_38 rfl 3 rfl ?_
    refine g_iconst (pc := 39) hX d_Fi_mend_39 zc_2 ?_
    refine g_iload_n (pc := 40) hX d_Fi_mend_40 rfl 1 rfl ?_
    refine g_iload (pc := 41) hX d_Fi_mend_41 0 rfl ?_
    refine g_iadd (pc := 43) hX d_Fi_mend_43 ?_
    obtain ⟨o4, e4, h⟩ := zbind h
    refine g_cvV (pc := 44)  (st := []) (w' := (zwF c q ((x.1, o4, x.2.2)))) hX zk_Ta_set zs_Ta_set zL_Fi_40 (c_Ta_set c (q 7) (q 8) 13 104 x.2.1 l1 ((2 : Int32)) ((o1 + (zmin l2 ((o2 - o1))))) e4) rfl rfl rfl rfl (sp_Fi_Ta_7 c q x) (sq_Fi_Ta_7 c q x o4) 7 6 rfl rfl rfl d_Fi_mend_44 ?_
    refine g_aload_n (pc := 47) hX d_Fi_mend_47 rfl 2 rfl ?_
    refine g_dup (pc := 48) hX d_Fi_mend_48 rfl ?_
    refine gf_Fi_85 (pc := 49) (v := .int ((x.2.2 4))) hX 6 rfl rfl d_Fi_mend_49 ?_
    refine g_iload (pc := 52) hX d_Fi_mend_52 0 rfl ?_
    refine g_iadd (pc := 54) hX d_Fi_mend_54 ?_
    refine pf_Fi_85 (pc := 55) (w2 := (zwF c q ((x.1, o4, (upd x.2.2 4 (((x.2.2 4) + (zmin l2 ((o2 - o1)))))))))) hX 6 rfl rfl (su_Fi_6_4 c q ((x.1, o4, x.2.2)) (((x.2.2 4) + (zmin l2 ((o2 - o1)))))) d_Fi_mend_55 ?_
    refine g_aload_n (pc := 58) hX d_Fi_mend_58 rfl 2 rfl ?_
    refine gf_Fi_24 (pc := 59) (v := .ref ((q 0))) hX 6 rfl rfl d_Fi_mend_59 ?_
    refine g_iconst (pc := 62) hX d_Fi_mend_62 zc_2 ?_
    refine g_iload_n (pc := 63) hX d_Fi_mend_63 rfl 3 rfl ?_
    refine g_iload (pc := 64) hX d_Fi_mend_64 0 rfl ?_
    obtain ⟨o5, e5, h⟩ := zbind h
    refine g_cvV (pc := 66)  (st := []) (w' := (zwF c q (((o5, x.1.2.1, x.1.2.2), o4, (upd x.2.2 4 (((x.2.2 4) + (zmin l2 ((o2 - o1)))))))))) hX zk_Jo_write zs_Jo_write zL_Fi_46 (c_Jo_write c q x.1.1 ((2 : Int32)) l1 ((zmin l2 ((o2 - o1)))) e5) rfl rfl rfl rfl (sp_Fi_Jo_0 c q ((x.1, o4, (upd x.2.2 4 (((x.2.2 4) + (zmin l2 ((o2 - o1))))))))) (sq_Fi_Jo_0 c q ((x.1, o4, (upd x.2.2 4 (((x.2.2 4) + (zmin l2 ((o2 - o1)))))))) o5) 0 4 rfl rfl rfl d_Fi_mend_66 ?_
    refine g_iload (pc := 69) hX d_Fi_mend_69 0 rfl ?_
    cases h
    exact g_iret (pc := 71) hX hR d_Fi_mend_71
  · refine g_iconst (pc := 32) hX d_Fi_mend_32 zc_0 ?_
    cases h
    exact g_iret (pc := 33) hX hR d_Fi_mend_33)
theorem d_Fi_spend_0 : decode zb_Fi_spend 0 = .ok (.iload_n 3, 1) := by decide +kernel
theorem d_Fi_spend_1 : decode zb_Fi_spend 1 = .ok (.ifCond .le 44, 3) := by decide +kernel
theorem d_Fi_spend_4 : decode zb_Fi_spend 4 = .ok (.aload_n 0, 1) := by decide +kernel
theorem d_Fi_spend_5 : decode zb_Fi_spend 5 = .ok (.getfield 16, 3) := by decide +kernel
theorem d_Fi_spend_8 : decode zb_Fi_spend 8 = .ok (.iload_n 1, 1) := by decide +kernel
theorem d_Fi_spend_9 : decode zb_Fi_spend 9 = .ok (.bipush 7, 2) := by decide +kernel
theorem d_Fi_spend_11 : decode zb_Fi_spend 11 = .ok (.iload_n 2, 1) := by decide +kernel
theorem d_Fi_spend_12 : decode zb_Fi_spend 12 = .ok (.iadd, 1) := by decide +kernel
theorem d_Fi_spend_13 : decode zb_Fi_spend 13 = .ok (.aload_n 0, 1) := by decide +kernel
theorem d_Fi_spend_14 : decode zb_Fi_spend 14 = .ok (.getfield 16, 3) := by decide +kernel
theorem d_Fi_spend_17 : decode zb_Fi_spend 17 = .ok (.iload_n 1, 1) := by decide +kernel
theorem d_Fi_spend_18 : decode zb_Fi_spend 18 = .ok (.bipush 7, 2) := by decide +kernel
theorem d_Fi_spend_20 : decode zb_Fi_spend 20 = .ok (.iload_n 2, 1) := by decide +kernel
theorem d_Fi_spend_21 : decode zb_Fi_spend 21 = .ok (.iadd, 1) := by decide +kernel
theorem d_Fi_spend_22 : decode zb_Fi_spend 22 = .ok (.invokevirtual 36, 3) := by decide +kernel
theorem d_Fi_spend_25 : decode zb_Fi_spend 25 = .ok (.iload_n 3, 1) := by decide +kernel
theorem d_Fi_spend_26 : decode zb_Fi_spend 26 = .ok (.isub, 1) := by decide +kernel
theorem d_Fi_spend_27 : decode zb_Fi_spend 27 = .ok (.invokevirtual 40, 3) := by decide +kernel
theorem d_Fi_spend_30 : decode zb_Fi_spend 30 = .ok (.aload_n 0, 1) := by decide +kernel
theorem d_Fi_spend_31 : decode zb_Fi_spend 31 = .ok (.getfield 24, 3) := by decide +kernel
theorem d_Fi_spend_34 : decode zb_Fi_spend 34 = .ok (.iconst 5, 1) := by decide +kernel
theorem d_Fi_spend_35 : decode zb_Fi_spend 35 = .ok (.iload_n 1, 1) := by decide +kernel
theorem d_Fi_spend_36 : decode zb_Fi_spend 36 = .ok (.bipush 10, 2) := by decide +kernel
theorem d_Fi_spend_38 : decode zb_Fi_spend 38 = .ok (.iload_n 2, 1) := by decide +kernel
theorem d_Fi_spend_39 : decode zb_Fi_spend 39 = .ok (.imul, 1) := by decide +kernel
theorem d_Fi_spend_40 : decode zb_Fi_spend 40 = .ok (.iload_n 3, 1) := by decide +kernel
theorem d_Fi_spend_41 : decode zb_Fi_spend 41 = .ok (.iadd, 1) := by decide +kernel
theorem d_Fi_spend_42 : decode zb_Fi_spend 42 = .ok (.invokevirtual 46, 3) := by decide +kernel
theorem d_Fi_spend_45 : decode zb_Fi_spend 45 = .ok (.return_, 1) := by decide +kernel
def k_Fi_spend (x : zsF) (l1 : Int32) (l2 : Int32) (l3 : Int32) : Option (zsF) := (if 0 < l3 then (k_Ta_get 13 104 x.2.1 l1 (((7 : Int32) + l2))).bind fun o2 => (k_Ta_set 13 104 x.2.1 l1 (((7 : Int32) + l2)) ((o2 - l3))).bind fun o3 => (k_Jo_write x.1.1 ((5 : Int32)) l1 ((((10 : Int32) * l2) + l3))).bind fun o4 => some (((o4, x.1.2.1, x.1.2.2), o3, x.2.2)) else some x)
theorem c_Fi_spend (c : zY) (q : Nat → Nat) (x : zsF) (l1 : Int32) (l2 : Int32) (l3 : Int32) {out : zsF} (h : k_Fi_spend x l1 l2 l3 = some out) : KM zy_Fi_spend zb_Fi_spend 4 none 1 c [.ref ((q 6)), .int l1, .int l2, .int l3] (zwF c q x) (zwF c q out) none := zK_of zp_Fi rfl (Nat.le_of_ble_eq_true rfl) (zq_Fi c q _ _) (fun X hX hR => by
  show Go X (zwF c q x) [(0, .ref ((q 6))), (1, .int l1), (2, .int l2), (3, .int l3)] 0 []
  rw [k_Fi_spend] at h
  refine g_iload_n (pc := 0) hX d_Fi_spend_0 rfl 3 rfl ?_
  refine g_if_le (pc := 1) (tgt := 45) hX d_Fi_spend_1 (by decide) h (fun c1 h => ?_) (fun c1 h => ?_)
  · cases h
    exact g_vret (pc := 45) hX hR d_Fi_spend_45
  · refine g_aload_n (pc := 4) hX d_Fi_spend_4 rfl 0 rfl ?_
    refine gf_Fi_16 (pc := 5) (v := .ref ((q 7))) hX 6 rfl rfl d_Fi_spend_5 ?_
    refine g_iload_n (pc := 8) hX d_Fi_spend_8 rfl 1 rfl ?_
    refine g_bipush (pc := 9) hX d_Fi_spend_9 ze_7 ?_
    refine g_iload_n (pc := 11) hX d_Fi_spend_11 rfl 2 rfl ?_
    refine g_iadd (pc := 12) hX d_Fi_spend_12 ?_
    refine g_aload_n (pc := 13) hX d_Fi_spend_13 rfl 0 rfl ?_
    refine gf_Fi_16 (pc := 14) (v := .ref ((q 7))) hX 6 rfl rfl d_Fi_spend_14 ?_
    refine g_iload_n (pc := 17) hX d_Fi_spend_17 rfl 1 rfl ?_
    refine g_bipush (pc := 18) hX d_Fi_spend_18 ze_7 ?_
    refine g_iload_n (pc := 20) hX d_Fi_spend_20 rfl 2 rfl ?_
    refine g_iadd (pc := 21) hX d_Fi_spend_21 ?_
    obtain ⟨o2, e2, h⟩ := zbind h
    refine g_cvI (pc := 22)  (st := [.int (((7 : Int32) + l2)), .int l1, .ref ((q 7))]) (w' := (zwF c q x)) hX zk_Ta_get zs_Ta_get zL_Fi_36 (c_Ta_get c (q 7) (q 8) 13 104 x.2.1 l1 (((7 : Int32) + l2)) e2) rfl rfl rfl rfl (sp_Fi_Ta_7 c q x) (sp_Fi_Ta_7 c q x).symm 7 6 rfl rfl rfl d_Fi_spend_22 ?_
    refine g_iload_n (pc := 25) hX d_Fi_spend_25 rfl 3 rfl ?_
    refine g_isub (pc := 26) hX d_Fi_spend_26 ?_
    obtain ⟨o3, e3, h⟩ := zbind h
    refine g_cvV (pc := 27)  (st := []) (w' := (zwF c q ((x.1, o3, x.2.2)))) hX zk_Ta_set zs_Ta_set zL_Fi_40 (c_Ta_set c (q 7) (q 8) 13 104 x.2.1 l1 (((7 : Int32) + l2)) ((o2 - l3)) e3) rfl rfl rfl rfl (sp_Fi_Ta_7 c q x) (sq_Fi_Ta_7 c q x o3) 7 6 rfl rfl rfl d_Fi_spend_27 ?_
    refine g_aload_n (pc := 30) hX d_Fi_spend_30 rfl 0 rfl ?_
    refine gf_Fi_24 (pc := 31) (v := .ref ((q 0))) hX 6 rfl rfl d_Fi_spend_31 ?_
    refine g_iconst (pc := 34) hX d_Fi_spend_34 zc_5 ?_
    refine g_iload_n (pc := 35) hX d_Fi_spend_35 rfl 1 rfl ?_
    refine g_bipush (pc := 36) hX d_Fi_spend_36 ze_10 ?_
    refine g_iload_n (pc := 38) hX d_Fi_spend_38 rfl 2 rfl ?_
    refine g_imul (pc := 39) hX d_Fi_spend_39 ?_
    refine g_iload_n (pc := 40) hX d_Fi_spend_40 rfl 3 rfl ?_
    refine g_iadd (pc := 41) hX d_Fi_spend_41 ?_
    obtain ⟨o4, e4, h⟩ := zbind h
    refine g_cvV (pc := 42)  (st := []) (w' := (zwF c q (((o4, x.1.2.1, x.1.2.2), o3, x.2.2)))) hX zk_Jo_write zs_Jo_write zL_Fi_46 (c_Jo_write c q x.1.1 ((5 : Int32)) l1 ((((10 : Int32) * l2) + l3)) e4) rfl rfl rfl rfl (sp_Fi_Jo_0 c q ((x.1, o3, x.2.2))) (sq_Fi_Jo_0 c q ((x.1, o3, x.2.2)) o4) 0 4 rfl rfl rfl d_Fi_spend_42 ?_
    cases h
    exact g_vret (pc := 45) hX hR d_Fi_spend_45)
theorem d_Fi_refill_0 : decode zb_Fi_refill 0 = .ok (.aload_n 0, 1) := by decide +kernel
theorem d_Fi_refill_1 : decode zb_Fi_refill 1 = .ok (.getfield 16, 3) := by decide +kernel
theorem d_Fi_refill_4 : decode zb_Fi_refill 4 = .ok (.iload_n 1, 1) := by decide +kernel
theorem d_Fi_refill_5 : decode zb_Fi_refill 5 = .ok (.bipush 10, 2) := by decide +kernel
theorem d_Fi_refill_7 : decode zb_Fi_refill 7 = .ok (.iload_n 2, 1) := by decide +kernel
theorem d_Fi_refill_8 : decode zb_Fi_refill 8 = .ok (.iadd, 1) := by decide +kernel
theorem d_Fi_refill_9 : decode zb_Fi_refill 9 = .ok (.invokevirtual 36, 3) := by decide +kernel
theorem d_Fi_refill_12 : decode zb_Fi_refill 12 = .ok (.istore_n 3, 1) := by decide +kernel
theorem d_Fi_refill_13 : decode zb_Fi_refill 13 = .ok (.iload_n 3, 1) := by decide +kernel
theorem d_Fi_refill_14 : decode zb_Fi_refill 14 = .ok (.aload_n 0, 1) := by decide +kernel
theorem d_Fi_refill_15 : decode zb_Fi_refill 15 = .ok (.getfield 16, 3) := by decide +kernel
theorem d_Fi_refill_18 : decode zb_Fi_refill 18 = .ok (.iload_n 1, 1) := by decide +kernel
theorem d_Fi_refill_19 : decode zb_Fi_refill 19 = .ok (.bipush 7, 2) := by decide +kernel
theorem d_Fi_refill_21 : decode zb_Fi_refill 21 = .ok (.iload_n 2, 1) := by decide +kernel
theorem d_Fi_refill_22 : decode zb_Fi_refill 22 = .ok (.iadd, 1) := by decide +kernel
theorem d_Fi_refill_23 : decode zb_Fi_refill 23 = .ok (.invokevirtual 36, 3) := by decide +kernel
theorem d_Fi_refill_26 : decode zb_Fi_refill 26 = .ok (.isub, 1) := by decide +kernel
theorem d_Fi_refill_27 : decode zb_Fi_refill 27 = .ok (.istore 4, 2) := by decide +kernel
theorem d_Fi_refill_29 : decode zb_Fi_refill 29 = .ok (.iload 4, 2) := by decide +kernel
theorem d_Fi_refill_31 : decode zb_Fi_refill 31 = .ok (.ifCond .le 33, 3) := by decide +kernel
theorem d_Fi_refill_34 : decode zb_Fi_refill 34 = .ok (.aload_n 0, 1) := by decide +kernel
theorem d_Fi_refill_35 : decode zb_Fi_refill 35 = .ok (.getfield 16, 3) := by decide +kernel
theorem d_Fi_refill_38 : decode zb_Fi_refill 38 = .ok (.iload_n 1, 1) := by decide +kernel
theorem d_Fi_refill_39 : decode zb_Fi_refill 39 = .ok (.bipush 7, 2) := by decide +kernel
theorem d_Fi_refill_41 : decode zb_Fi_refill 41 = .ok (.iload_n 2, 1) := by decide +kernel
theorem d_Fi_refill_42 : decode zb_Fi_refill 42 = .ok (.iadd, 1) := by decide +kernel
theorem d_Fi_refill_43 : decode zb_Fi_refill 43 = .ok (.iload_n 3, 1) := by decide +kernel
theorem d_Fi_refill_44 : decode zb_Fi_refill 44 = .ok (.invokevirtual 40, 3) := by decide +kernel
theorem d_Fi_refill_47 : decode zb_Fi_refill 47 = .ok (.aload_n 0, 1) := by decide +kernel
theorem d_Fi_refill_48 : decode zb_Fi_refill 48 = .ok (.getfield 24, 3) := by decide +kernel
theorem d_Fi_refill_51 : decode zb_Fi_refill 51 = .ok (.bipush 6, 2) := by decide +kernel
theorem d_Fi_refill_53 : decode zb_Fi_refill 53 = .ok (.iload_n 1, 1) := by decide +kernel
theorem d_Fi_refill_54 : decode zb_Fi_refill 54 = .ok (.bipush 10, 2) := by decide +kernel
theorem d_Fi_refill_56 : decode zb_Fi_refill 56 = .ok (.iload_n 2, 1) := by decide +kernel
theorem d_Fi_refill_57 : decode zb_Fi_refill 57 = .ok (.imul, 1) := by decide +kernel
theorem d_Fi_refill_58 : decode zb_Fi_refill 58 = .ok (.iload 4, 2) := by decide +kernel
theorem d_Fi_refill_60 : decode zb_Fi_refill 60 = .ok (.iadd, 1) := by decide +kernel
theorem d_Fi_refill_61 : decode zb_Fi_refill 61 = .ok (.invokevirtual 46, 3) := by decide +kernel
theorem d_Fi_refill_64 : decode zb_Fi_refill 64 = .ok (.return_, 1) := by decide +kernel
def k_Fi_refill (x : zsF) (l1 : Int32) (l2 : Int32) : Option (zsF) := (k_Ta_get 13 104 x.2.1 l1 (((10 : Int32) + l2))).bind fun o1 => (k_Ta_get 13 104 x.2.1 l1 (((7 : Int32) + l2))).bind fun o2 => (if 0 < (o1 - o2) then (k_Ta_set 13 104 x.2.1 l1 (((7 : Int32) + l2)) o1).bind fun o4 => (k_Jo_write x.1.1 ((6 : Int32)) l1 ((((10 : Int32) * l2) + (o1 - o2)))).bind fun o5 => some (((o5, x.1.2.1, x.1.2.2), o4, x.2.2)) else some x)
theorem c_Fi_refill (c : zY) (q : Nat → Nat) (x : zsF) (l1 : Int32) (l2 : Int32) {out : zsF} (h : k_Fi_refill x l1 l2 = some out) : KM zy_Fi_refill zb_Fi_refill 5 none 1 c [.ref ((q 6)), .int l1, .int l2] (zwF c q x) (zwF c q out) none := zK_of zp_Fi rfl (Nat.le_of_ble_eq_true rfl) (zq_Fi c q _ _) (fun X hX hR => by
  show Go X (zwF c q x) [(0, .ref ((q 6))), (1, .int l1), (2, .int l2)] 0 []
  rw [k_Fi_refill] at h
  refine g_aload_n (pc := 0) hX d_Fi_refill_0 rfl 0 rfl ?_
  refine gf_Fi_16 (pc := 1) (v := .ref ((q 7))) hX 6 rfl rfl d_Fi_refill_1 ?_
  refine g_iload_n (pc := 4) hX d_Fi_refill_4 rfl 1 rfl ?_
  refine g_bipush (pc := 5) hX d_Fi_refill_5 ze_10 ?_
  refine g_iload_n (pc := 7) hX d_Fi_refill_7 rfl 2 rfl ?_
  refine g_iadd (pc := 8) hX d_Fi_refill_8 ?_
  obtain ⟨o1, e1, h⟩ := zbind h
  refine g_cvI (pc := 9)  (st := []) (w' := (zwF c q x)) hX zk_Ta_get zs_Ta_get zL_Fi_36 (c_Ta_get c (q 7) (q 8) 13 104 x.2.1 l1 (((10 : Int32) + l2)) e1) rfl rfl rfl rfl (sp_Fi_Ta_7 c q x) (sp_Fi_Ta_7 c q x).symm 7 6 rfl rfl rfl d_Fi_refill_9 ?_
  refine g_istore_n (pc := 12) (L' := [(3, .int o1), (0, .ref ((q 6))), (1, .int l1), (2, .int l2)]) hX d_Fi_refill_12 rfl rfl rfl ?_
  refine g_iload_n (pc := 13) hX d_Fi_refill_13 rfl 0 rfl ?_
  refine g_aload_n (pc := 14) hX d_Fi_refill_14 rfl 1 rfl ?_
  refine gf_Fi_16 (pc := 15) (v := .ref ((q 7))) hX 6 rfl rfl d_Fi_refill_15 ?_
  refine g_iload_n (pc := 18) hX d_Fi_refill_18 rfl 2 rfl ?_
  refine g_bipush (pc := 19) hX d_Fi_refill_19 ze_7 ?_
  refine g_iload_n (pc := 21) hX d_Fi_refill_21 rfl 3 rfl ?_
  refine g_iadd (pc := 22) hX d_Fi_refill_22 ?_
  obtain ⟨o2, e2, h⟩ := zbind h
  refine g_cvI (pc := 23)  (st := [.int o1]) (w' := (zwF c q x)) hX zk_Ta_get zs_Ta_get zL_Fi_36 (c_Ta_get c (q 7) (q 8) 13 104 x.2.1 l1 (((7 : Int32) + l2)) e2) rfl rfl rfl rfl (sp_Fi_Ta_7 c q x) (sp_Fi_Ta_7 c q x).symm 7 6 rfl rfl rfl d_Fi_refill_23 ?_
  refine g_isub (pc := 26) hX d_Fi_refill_26 ?_
  refine g_istore (pc := 27) (L' := [(4, .int ((o1 - o2))), (3, .int o1), (0, .ref ((q 6))), (1, .int l1), (2, .int l2)]) hX d_Fi_refill_27 rfl rfl ?_
  refine g_iload (pc := 29) hX d_Fi_refill_29 0 rfl ?_
  refine g_if_le (pc := 31) (tgt := 64) hX d_Fi_refill_31 (by decide) h (fun c3 h => ?_) (fun c3 h => ?_)
  · cases h
    exact g_vret (pc := 64) hX hR d_Fi_refill_64
  · refine g_aload_n (pc := 34) hX d_Fi_refill_34 rfl 2 rfl ?_
    refine gf_Fi_16 (pc := 35) (v := .ref ((q 7))) hX 6 rfl rfl d_Fi_refill_35 ?_
    refine g_iload_n (pc := 38) hX d_Fi_refill_38 rfl 3 rfl ?_
    refine g_bipush (pc := 39) hX d_Fi_refill_39 ze_7 ?_
    refine g_iload_n (pc := 41) hX d_Fi_refill_41 rfl 4 rfl ?_
    refine g_iadd (pc := 42) hX d_Fi_refill_42 ?_
    refine g_iload_n (pc := 43) hX d_Fi_refill_43 rfl 1 rfl ?_
    obtain ⟨o4, e4, h⟩ := zbind h
    refine g_cvV (pc := 44)  (st := []) (w' := (zwF c q ((x.1, o4, x.2.2)))) hX zk_Ta_set zs_Ta_set zL_Fi_40 (c_Ta_set c (q 7) (q 8) 13 104 x.2.1 l1 (((7 : Int32) + l2)) o1 e4) rfl rfl rfl rfl (sp_Fi_Ta_7 c q x) (sq_Fi_Ta_7 c q x o4) 7 6 rfl rfl rfl d_Fi_refill_44 ?_
    refine g_aload_n (pc := 47) hX d_Fi_refill_47 rfl 2 rfl ?_
    refine gf_Fi_24 (pc := 48) (v := .ref ((q 0))) hX 6 rfl rfl d_Fi_refill_48 ?_
    refine g_bipush (pc := 51) hX d_Fi_refill_51 ze_6 ?_
    refine g_iload_n (pc := 53) hX d_Fi_refill_53 rfl 3 rfl ?_
    refine g_bipush (pc := 54) hX d_Fi_refill_54 ze_10 ?_
    refine g_iload_n (pc := 56) hX d_Fi_refill_56 rfl 4 rfl ?_
    refine g_imul (pc := 57) hX d_Fi_refill_57 ?_
    refine g_iload (pc := 58) hX d_Fi_refill_58 0 rfl ?_
    refine g_iadd (pc := 60) hX d_Fi_refill_60 ?_
    obtain ⟨o5, e5, h⟩ := zbind h
    refine g_cvV (pc := 61)  (st := []) (w' := (zwF c q (((o5, x.1.2.1, x.1.2.2), o4, x.2.2)))) hX zk_Jo_write zs_Jo_write zL_Fi_46 (c_Jo_write c q x.1.1 ((6 : Int32)) l1 ((((10 : Int32) * l2) + (o1 - o2))) e5) rfl rfl rfl rfl (sp_Fi_Jo_0 c q ((x.1, o4, x.2.2))) (sq_Fi_Jo_0 c q ((x.1, o4, x.2.2)) o5) 0 4 rfl rfl rfl d_Fi_refill_61 ?_
    cases h
    exact g_vret (pc := 64) hX hR d_Fi_refill_64)
theorem d_Fi_restShort_0 : decode zb_Fi_restShort 0 = .ok (.aload_n 0, 1) := by decide +kernel
theorem d_Fi_restShort_1 : decode zb_Fi_restShort 1 = .ok (.iload_n 1, 1) := by decide +kernel
theorem d_Fi_restShort_2 : decode zb_Fi_restShort 2 = .ok (.invokevirtual 51, 3) := by decide +kernel
theorem d_Fi_restShort_5 : decode zb_Fi_restShort 5 = .ok (.ifCond .eq 7, 3) := by decide +kernel
theorem d_Fi_restShort_8 : decode zb_Fi_restShort 8 = .ok (.iconst 0, 1) := by decide +kernel
theorem d_Fi_restShort_9 : decode zb_Fi_restShort 9 = .ok (.goto 21, 3) := by decide +kernel
theorem d_Fi_restShort_12 : decode zb_Fi_restShort 12 = .ok (.aload_n 0, 1) := by decide +kernel
theorem d_Fi_restShort_13 : decode zb_Fi_restShort 13 = .ok (.iload_n 1, 1) := by decide +kernel
theorem d_Fi_restShort_14 : decode zb_Fi_restShort 14 = .ok (.aload_n 0, 1) := by decide +kernel
theorem d_Fi_restShort_15 : decode zb_Fi_restShort 15 = .ok (.getfield 16, 3) := by decide +kernel
theorem d_Fi_restShort_18 : decode zb_Fi_restShort 18 = .ok (.iload_n 1, 1) := by decide +kernel
theorem d_Fi_restShort_19 : decode zb_Fi_restShort 19 = .ok (.iconst 3, 1) := by decide +kernel
theorem d_Fi_restShort_20 : decode zb_Fi_restShort 20 = .ok (.invokevirtual 36, 3) := by decide +kernel
theorem d_Fi_restShort_23 : decode zb_Fi_restShort 23 = .ok (.iconst 1, 1) := by decide +kernel
theorem d_Fi_restShort_24 : decode zb_Fi_restShort 24 = .ok (.iadd, 1) := by decide +kernel
theorem d_Fi_restShort_25 : decode zb_Fi_restShort 25 = .ok (.iconst 2, 1) := by decide +kernel
theorem d_Fi_restShort_26 : decode zb_Fi_restShort 26 = .ok (.idiv, 1) := by decide +kernel
theorem d_Fi_restShort_27 : decode zb_Fi_restShort 27 = .ok (.invokevirtual 88, 3) := by decide +kernel
theorem d_Fi_restShort_30 : decode zb_Fi_restShort 30 = .ok (.istore_n 2, 1) := by decide +kernel
theorem d_Fi_restShort_31 : decode zb_Fi_restShort 31 = .ok (.aload_n 0, 1) := by decide +kernel
theorem d_Fi_restShort_32 : decode zb_Fi_restShort 32 = .ok (.iload_n 1, 1) := by decide +kernel
theorem d_Fi_restShort_33 : decode zb_Fi_restShort 33 = .ok (.iconst 0, 1) := by decide +kernel
theorem d_Fi_restShort_34 : decode zb_Fi_restShort 34 = .ok (.invokevirtual 91, 3) := by decide +kernel
theorem d_Fi_restShort_37 : decode zb_Fi_restShort 37 = .ok (.iload_n 2, 1) := by decide +kernel
theorem d_Fi_restShort_38 : decode zb_Fi_restShort 38 = .ok (.ireturn, 1) := by decide +kernel
def k_Fi_restShort (x : zsF) (l1 : Int32) : Option (Int32 × zsF) := (k_Fi_isDown x l1).bind fun o1 => (if o1 = 0 then (k_Ta_get 13 104 x.2.1 l1 ((3 : Int32))).bind fun o3 => (k_Fi_mend x l1 (((o3 + (1 : Int32)) / (2 : Int32)))).bind fun o4 => (k_Fi_refill o4.2 l1 ((0 : Int32))).bind fun o5 => some (o4.1, o5) else (k_Fi_refill x l1 ((0 : Int32))).bind fun o6 => some ((0 : Int32), o6))
theorem c_Fi_restShort (c : zY) (q : Nat → Nat) (x : zsF) (l1 : Int32) {out : Int32 × zsF} (h : k_Fi_restShort x l1 = some out) : KM zy_Fi_restShort zb_Fi_restShort 3 (some .int) 2 c [.ref ((q 6)), .int l1] (zwF c q x) (zwF c q out.2) (some (.int out.1)) := zK_of zp_Fi rfl (Nat.le_of_ble_eq_true rfl) (zq_Fi c q _ _) (fun X hX hR => by
  show Go X (zwF c q x) [(0, .ref ((q 6))), (1, .int l1)] 0 []
  rw [k_Fi_restShort] at h
  refine g_aload_n (pc := 0) hX d_Fi_restShort_0 rfl 0 rfl ?_
  refine g_iload_n (pc := 1) hX d_Fi_restShort_1 rfl 1 rfl ?_
  obtain ⟨o1, e1, h⟩ := zbind h
  refine g_cvI (pc := 2) (w1 := []) (w2 := []) (st := []) (w' := (zwF c q x)) hX zk_Fi_isDown zs_Fi_isDown zL_Fi_51 (c_Fi_isDown c q x l1 e1) rfl rfl rfl rfl (zself _) (zself _).symm 6 3 rfl rfl rfl d_Fi_restShort_2 ?_
  refine g_if_eq (pc := 5) (tgt := 12) hX d_Fi_restShort_5 (by decide) h (fun c2 h => ?_) (fun c2 h => ?_)
  · refine g_aload_n (pc := 12) hX d_Fi_restShort_12 rfl 0 rfl ?_
    refine g_iload_n (pc := 13) hX d_Fi_restShort_13 rfl 1 rfl ?_
    refine g_aload_n (pc := 14) hX d_Fi_restShort_14 rfl 0 rfl ?_
    refine gf_Fi_16 (pc := 15) (v := .ref ((q 7))) hX 6 rfl rfl d_Fi_restShort_15 ?_
    refine g_iload_n (pc := 18) hX d_Fi_restShort_18 rfl 1 rfl ?_
    refine g_iconst (pc := 19) hX d_Fi_restShort_19 zc_3 ?_
    obtain ⟨o3, e3, h⟩ := zbind h
    refine g_cvI (pc := 20)  (st := [.int l1, .ref ((q 6))]) (w' := (zwF c q x)) hX zk_Ta_get zs_Ta_get zL_Fi_36 (c_Ta_get c (q 7) (q 8) 13 104 x.2.1 l1 ((3 : Int32)) e3) rfl rfl rfl rfl (sp_Fi_Ta_7 c q x) (sp_Fi_Ta_7 c q x).symm 7 6 rfl rfl rfl d_Fi_restShort_20 ?_
    refine g_iconst (pc := 23) hX d_Fi_restShort_23 zc_1 ?_
    refine g_iadd (pc := 24) hX d_Fi_restShort_24 ?_
    refine g_iconst (pc := 25) hX d_Fi_restShort_25 zc_2 ?_
    refine g_idiv (pc := 26) hX d_Fi_restShort_26 (by decide) ?_
    obtain ⟨o4, e4, h⟩ := zbind h
    refine g_cvI (pc := 27) (w1 := []) (w2 := []) (st := []) (w' := (zwF c q o4.2)) hX zk_Fi_mend zs_Fi_mend zL_Fi_88 (c_Fi_mend c q x l1 (((o3 + (1 : Int32)) / (2 : Int32))) e4) rfl rfl rfl rfl (zself _) (zself _).symm 6 3 rfl rfl rfl d_Fi_restShort_27 ?_
    refine g_istore_n (pc := 30) (L' := [(2, .int o4.1), (0, .ref ((q 6))), (1, .int l1)]) hX d_Fi_restShort_30 rfl rfl rfl ?_
    refine g_aload_n (pc := 31) hX d_Fi_restShort_31 rfl 1 rfl ?_
    refine g_iload_n (pc := 32) hX d_Fi_restShort_32 rfl 2 rfl ?_
    refine g_iconst (pc := 33) hX d_Fi_restShort_33 zc_0 ?_
    obtain ⟨o5, e5, h⟩ := zbind h
    refine g_cvV (pc := 34) (w1 := []) (w2 := []) (st := []) (w' := (zwF c q o5)) hX zk_Fi_refill zs_Fi_refill zL_Fi_91 (c_Fi_refill c q o4.2 l1 ((0 : Int32)) e5) rfl rfl rfl rfl (zself _) (zself _).symm 6 3 rfl rfl rfl d_Fi_restShort_34 ?_
    refine g_iload_n (pc := 37) hX d_Fi_restShort_37 rfl 0 rfl ?_
    cases h
    exact g_iret (pc := 38) hX hR d_Fi_restShort_38
  · refine g_iconst (pc := 8) hX d_Fi_restShort_8 zc_0 ?_
    refine g_goto (pc := 9) (tgt := 30) hX d_Fi_restShort_9 (by decide) ?_
    refine g_istore_n (pc := 30) (L' := [(2, .int ((0 : Int32))), (0, .ref ((q 6))), (1, .int l1)]) hX d_Fi_restShort_30 rfl rfl rfl ?_
    refine g_aload_n (pc := 31) hX d_Fi_restShort_31 rfl 1 rfl ?_
    refine g_iload_n (pc := 32) hX d_Fi_restShort_32 rfl 2 rfl ?_
    refine g_iconst (pc := 33) hX d_Fi_restShort_33 zc_0 ?_
    obtain ⟨o6, e6, h⟩ := zbind h
    refine g_cvV (pc := 34) (w1 := []) (w2 := []) (st := []) (w' := (zwF c q o6)) hX zk_Fi_refill zs_Fi_refill zL_Fi_91 (c_Fi_refill c q x l1 ((0 : Int32)) e6) rfl rfl rfl rfl (zself _) (zself _).symm 6 3 rfl rfl rfl d_Fi_restShort_34 ?_
    refine g_iload_n (pc := 37) hX d_Fi_restShort_37 rfl 0 rfl ?_
    cases h
    exact g_iret (pc := 38) hX hR d_Fi_restShort_38)
theorem d_Fi_restLong_0 : decode zb_Fi_restLong 0 = .ok (.aload_n 0, 1) := by decide +kernel
theorem d_Fi_restLong_1 : decode zb_Fi_restLong 1 = .ok (.iload_n 1, 1) := by decide +kernel
theorem d_Fi_restLong_2 : decode zb_Fi_restLong 2 = .ok (.aload_n 0, 1) := by decide +kernel
theorem d_Fi_restLong_3 : decode zb_Fi_restLong 3 = .ok (.getfield 16, 3) := by decide +kernel
theorem d_Fi_restLong_6 : decode zb_Fi_restLong 6 = .ok (.iload_n 1, 1) := by decide +kernel
theorem d_Fi_restLong_7 : decode zb_Fi_restLong 7 = .ok (.iconst 3, 1) := by decide +kernel
theorem d_Fi_restLong_8 : decode zb_Fi_restLong 8 = .ok (.invokevirtual 36, 3) := by decide +kernel
theorem d_Fi_restLong_11 : decode zb_Fi_restLong 11 = .ok (.invokevirtual 88, 3) := by decide +kernel
theorem d_Fi_restLong_14 : decode zb_Fi_restLong 14 = .ok (.istore_n 2, 1) := by decide +kernel
theorem d_Fi_restLong_15 : decode zb_Fi_restLong 15 = .ok (.iconst 0, 1) := by decide +kernel
theorem d_Fi_restLong_16 : decode zb_Fi_restLong 16 = .ok (.istore_n 3, 1) := by decide +kernel
theorem d_Fi_restLong_17 : decode zb_Fi_restLong 17 = .ok (.iload_n 3, 1) := by decide +kernel
theorem d_Fi_restLong_18 : decode zb_Fi_restLong 18 = .ok (.iconst 3, 1) := by decide +kernel
theorem d_Fi_restLong_19 : decode zb_Fi_restLong 19 = .ok (.if_icmp .ge 15, 3) := by decide +kernel
theorem d_Fi_restLong_22 : decode zb_Fi_restLong 22 = .ok (.aload_n 0, 1) := by decide +kernel
theorem d_Fi_restLong_23 : decode zb_Fi_restLong 23 = .ok (.iload_n 1, 1) := by decide +kernel
theorem d_Fi_restLong_24 : decode zb_Fi_restLong 24 = .ok (.iload_n 3, 1) := by decide +kernel
theorem d_Fi_restLong_25 : decode zb_Fi_restLong 25 = .ok (.invokevirtual 91, 3) := by decide +kernel
theorem d_Fi_restLong_28 : decode zb_Fi_restLong 28 = .ok (.iinc 3 1, 3) := by decide +kernel
theorem d_Fi_restLong_31 : decode zb_Fi_restLong 31 = .ok (.goto (-14), 3) := by decide +kernel
theorem d_Fi_restLong_34 : decode zb_Fi_restLong 34 = .ok (.iload_n 2, 1) := by decide +kernel
theorem d_Fi_restLong_35 : decode zb_Fi_restLong 35 = .ok (.ireturn, 1) := by decide +kernel
def k_Fi_restLong_17 (l1 : Int32) : Nat → Int32 → Int32 → zsF → Option (Int32 × zsF)
  | 0, _, _, _ => none
  | fu + 1, l2, l3, x => (if l3 < (3 : Int32) then (k_Fi_refill x l1 l3).bind fun o4 => k_Fi_restLong_17 l1 fu l2 ((l3 + (1 : Int32))) o4 else some (l2, x))
theorem w_Fi_restLong_17 {X : zX} {c : zY} {q : Nat → Nat} {l1 : Int32} {out : Int32 × zsF} (hX : Ok X zr_Fi zb_Fi_restLong 4 2 c) (hR : Rt X (some .int) (some (.int out.1)) (zwF c q out.2)) : ∀ (fu : Nat) (l2 : Int32) (l3 : Int32) (x : zsF), k_Fi_restLong_17 l1 fu l2 l3 x = some out → Go X (zwF c q x) [(0, .ref ((q 6))), (1, .int l1), (2, .int l2), (3, .int l3)] 17 [] := by
  intro fu
  induction fu with
  | zero => intro l2 l3 x h; rw [k_Fi_restLong_17] at h; cases h
  | succ fu ih =>
    intro l2 l3 x h
    rw [k_Fi_restLong_17] at h
    refine g_iload_n (pc := 17) hX d_Fi_restLong_17 rfl 3 rfl ?_
    refine g_iconst (pc := 18) hX d_Fi_restLong_18 zc_3 ?_
    refine g_icmp_ge (pc := 19) (tgt := 34) hX d_Fi_restLong_19 (by decide) h (fun c3 h => ?_) (fun c3 h => ?_)
    · refine g_iload_n (pc := 34) hX d_Fi_restLong_34 rfl 2 rfl ?_
      cases h
      exact g_iret (pc := 35) hX hR d_Fi_restLong_35
    · refine g_aload_n (pc := 22) hX d_Fi_restLong_22 rfl 0 rfl ?_
      refine g_iload_n (pc := 23) hX d_Fi_restLong_23 rfl 1 rfl ?_
      refine g_iload_n (pc := 24) hX d_Fi_restLong_24 rfl 3 rfl ?_
      obtain ⟨o4, e4, h⟩ := zbind h
      refine g_cvV (pc := 25) (w1 := []) (w2 := []) (st := []) (w' := (zwF c q o4)) hX zk_Fi_refill zs_Fi_refill zL_Fi_91 (c_Fi_refill c q x l1 l3 e4) rfl rfl rfl rfl (zself _) (zself _).symm 6 3 rfl rfl rfl d_Fi_restLong_25 ?_
      refine g_iinc (pc := 28) (q := 3) (L' := [(3, .int ((l3 + (1 : Int32)))), (0, .ref ((q 6))), (1, .int l1), (2, .int l2)]) hX d_Fi_restLong_28 rfl zc_1 rfl rfl ?_
      refine g_goto (pc := 31) (tgt := 17) hX d_Fi_restLong_31 (by decide) ?_
      refine g_ls (L' := [(0, .ref ((q 6))), (1, .int l1), (2, .int l2), (3, .int ((l3 + (1 : Int32))))]) [1, 2, 3, 0] rfl ?_
      exact ih _ _ _ h
def k_Fi_restLong (x : zsF) (l1 : Int32) : Option (Int32 × zsF) := (k_Ta_get 13 104 x.2.1 l1 ((3 : Int32))).bind fun o1 => (k_Fi_mend x l1 o1).bind fun o2 => k_Fi_restLong_17 l1 zFu o2.1 ((0 : Int32)) o2.2
theorem c_Fi_restLong (c : zY) (q : Nat → Nat) (x : zsF) (l1 : Int32) {out : Int32 × zsF} (h : k_Fi_restLong x l1 = some out) : KM zy_Fi_restLong zb_Fi_restLong 4 (some .int) 2 c [.ref ((q 6)), .int l1] (zwF c q x) (zwF c q out.2) (some (.int out.1)) := zK_of zp_Fi rfl (Nat.le_of_ble_eq_true rfl) (zq_Fi c q _ _) (fun X hX hR => by
  show Go X (zwF c q x) [(0, .ref ((q 6))), (1, .int l1)] 0 []
  rw [k_Fi_restLong] at h
  refine g_aload_n (pc := 0) hX d_Fi_restLong_0 rfl 0 rfl ?_
  refine g_iload_n (pc := 1) hX d_Fi_restLong_1 rfl 1 rfl ?_
  refine g_aload_n (pc := 2) hX d_Fi_restLong_2 rfl 0 rfl ?_
  refine gf_Fi_16 (pc := 3) (v := .ref ((q 7))) hX 6 rfl rfl d_Fi_restLong_3 ?_
  refine g_iload_n (pc := 6) hX d_Fi_restLong_6 rfl 1 rfl ?_
  refine g_iconst (pc := 7) hX d_Fi_restLong_7 zc_3 ?_
  obtain ⟨o1, e1, h⟩ := zbind h
  refine g_cvI (pc := 8)  (st := [.int l1, .ref ((q 6))]) (w' := (zwF c q x)) hX zk_Ta_get zs_Ta_get zL_Fi_36 (c_Ta_get c (q 7) (q 8) 13 104 x.2.1 l1 ((3 : Int32)) e1) rfl rfl rfl rfl (sp_Fi_Ta_7 c q x) (sp_Fi_Ta_7 c q x).symm 7 6 rfl rfl rfl d_Fi_restLong_8 ?_
  obtain ⟨o2, e2, h⟩ := zbind h
  refine g_cvI (pc := 11) (w1 := []) (w2 := []) (st := []) (w' := (zwF c q o2.2)) hX zk_Fi_mend zs_Fi_mend zL_Fi_88 (c_Fi_mend c q x l1 o1 e2) rfl rfl rfl rfl (zself _) (zself _).symm 6 3 rfl rfl rfl d_Fi_restLong_11 ?_
  refine g_istore_n (pc := 14) (L' := [(2, .int o2.1), (0, .ref ((q 6))), (1, .int l1)]) hX d_Fi_restLong_14 rfl rfl rfl ?_
  refine g_iconst (pc := 15) hX d_Fi_restLong_15 zc_0 ?_
  refine g_istore_n (pc := 16) (L' := [(3, .int ((0 : Int32))), (2, .int o2.1), (0, .ref ((q 6))), (1, .int l1)]) hX d_Fi_restLong_16 rfl rfl rfl ?_
  refine g_ls (L' := [(0, .ref ((q 6))), (1, .int l1), (2, .int o2.1), (3, .int ((0 : Int32)))]) [2, 3, 1, 0] rfl ?_
  exact w_Fi_restLong_17 hX hR _ _ _ _ h)
end
section
theorem d_En_isOn_0 : decode zb_En_isOn 0 = .ok (.aload_n 0, 1) := by decide +kernel
theorem d_En_isOn_1 : decode zb_En_isOn 1 = .ok (.getfield 32, 3) := by decide +kernel
theorem d_En_isOn_4 : decode zb_En_isOn 4 = .ok (.ifCond .le 7, 3) := by decide +kernel
theorem d_En_isOn_7 : decode zb_En_isOn 7 = .ok (.iconst 1, 1) := by decide +kernel
theorem d_En_isOn_8 : decode zb_En_isOn 8 = .ok (.goto 4, 3) := by decide +kernel
theorem d_En_isOn_11 : decode zb_En_isOn 11 = .ok (.iconst 0, 1) := by decide +kernel
theorem d_En_isOn_12 : decode zb_En_isOn 12 = .ok (.ireturn, 1) := by decide +kernel
def k_En_isOn (x : zsE) : Option (Int32) := (if 0 < (x.2.2 4) then some ((1 : Int32)) else some ((0 : Int32)))
theorem c_En_isOn (c : zY) (q : Nat → Nat) (x : zsE) {out : Int32} (h : k_En_isOn x = some out) : KM zy_En_isOn zb_En_isOn 1 (some .boolean) 0 c [.ref ((q 9))] (zwE c q x) (zwE c q x) (some (.int out)) := zK_of zp_En rfl (Nat.le_of_ble_eq_true rfl) (zq_En c q _ _) (fun X hX hR => by
  show Go X (zwE c q x) [(0, .ref ((q 9)))] 0 []
  rw [k_En_isOn] at h
  refine g_aload_n (pc := 0) hX d_En_isOn_0 rfl 0 rfl ?_
  refine gf_En_32 (pc := 1) (v := .int ((x.2.2 4))) hX 9 rfl rfl d_En_isOn_1 ?_
  refine g_if_le (pc := 4) (tgt := 11) hX d_En_isOn_4 (by decide) h (fun c1 h => ?_) (fun c1 h => ?_)
  · refine g_iconst (pc := 11) hX d_En_isOn_11 zc_0 ?_
    cases h
    exact g_zret (pc := 12) hX hR (Or.inl rfl) d_En_isOn_12
  · refine g_iconst (pc := 7) hX d_En_isOn_7 zc_1 ?_
    refine g_goto (pc := 8) (tgt := 12) hX d_En_isOn_8 (by decide) ?_
    cases h
    exact g_zret (pc := 12) hX hR (Or.inr rfl) d_En_isOn_12)
theorem d_En_current_0 : decode zb_En_current 0 = .ok (.aload_n 0, 1) := by decide +kernel
theorem d_En_current_1 : decode zb_En_current 1 = .ok (.getfield 14, 3) := by decide +kernel
theorem d_En_current_4 : decode zb_En_current 4 = .ok (.aload_n 0, 1) := by decide +kernel
theorem d_En_current_5 : decode zb_En_current 5 = .ok (.getfield 36, 3) := by decide +kernel
theorem d_En_current_8 : decode zb_En_current 8 = .ok (.iconst 0, 1) := by decide +kernel
theorem d_En_current_9 : decode zb_En_current 9 = .ok (.invokevirtual 39, 3) := by decide +kernel
theorem d_En_current_12 : decode zb_En_current 12 = .ok (.ireturn, 1) := by decide +kernel
def k_En_current (x : zsE) : Option (Int32) := (k_Ta_get 1 8 x.2.1 ((x.2.2 5)) ((0 : Int32))).bind fun o1 => some o1
theorem c_En_current (c : zY) (q : Nat → Nat) (x : zsE) {out : Int32} (h : k_En_current x = some out) : KM zy_En_current zb_En_current 1 (some .int) 1 c [.ref ((q 9))] (zwE c q x) (zwE c q x) (some (.int out)) := zK_of zp_En rfl (Nat.le_of_ble_eq_true rfl) (zq_En c q _ _) (fun X hX hR => by
  show Go X (zwE c q x) [(0, .ref ((q 9)))] 0 []
  rw [k_En_current] at h
  refine g_aload_n (pc := 0) hX d_En_current_0 rfl 0 rfl ?_
  refine gf_En_14 (pc := 1) (v := .ref ((q 10))) hX 9 rfl rfl d_En_current_1 ?_
  refine g_aload_n (pc := 4) hX d_En_current_4 rfl 0 rfl ?_
  refine gf_En_36 (pc := 5) (v := .int ((x.2.2 5))) hX 9 rfl rfl d_En_current_5 ?_
  refine g_iconst (pc := 8) hX d_En_current_8 zc_0 ?_
  obtain ⟨o1, e1, h⟩ := zbind h
  refine g_cvI (pc := 9)  (st := []) (w' := (zwE c q x)) hX zk_Ta_get zs_Ta_get zL_En_39 (c_Ta_get c (q 10) (q 11) 1 8 x.2.1 ((x.2.2 5)) ((0 : Int32)) e1) rfl rfl rfl rfl (sp_En_Ta_10 c q x) (sp_En_Ta_10 c q x).symm 10 6 rfl rfl rfl d_En_current_9 ?_
  cases h
  exact g_iret (pc := 12) hX hR d_En_current_12)
theorem d_En_atPlace_0 : decode zb_En_atPlace 0 = .ok (.aload_n 0, 1) := by decide +kernel
theorem d_En_atPlace_1 : decode zb_En_atPlace 1 = .ok (.getfield 14, 3) := by decide +kernel
theorem d_En_atPlace_4 : decode zb_En_atPlace 4 = .ok (.iload_n 1, 1) := by decide +kernel
theorem d_En_atPlace_5 : decode zb_En_atPlace 5 = .ok (.invokevirtual 43, 3) := by decide +kernel
theorem d_En_atPlace_8 : decode zb_En_atPlace 8 = .ok (.ifCond .eq 15, 3) := by decide +kernel
theorem d_En_atPlace_11 : decode zb_En_atPlace 11 = .ok (.aload_n 0, 1) := by decide +kernel
theorem d_En_atPlace_12 : decode zb_En_atPlace 12 = .ok (.getfield 14, 3) := by decide +kernel
theorem d_En_atPlace_15 : decode zb_En_atPlace 15 = .ok (.iload_n 1, 1) := by decide +kernel
theorem d_En_atPlace_16 : decode zb_En_atPlace 16 = .ok (.iconst 0, 1) := by decide +kernel
theorem d_En_atPlace_17 : decode zb_En_atPlace 17 = .ok (.invokevirtual 39, 3) := by decide +kernel
theorem d_En_atPlace_20 : decode zb_En_atPlace 20 = .ok (.goto 5, 3) := by decide +kernel
theorem d_En_atPlace_23 : decode zb_En_atPlace 23 = .ok (.bipush (-5), 2) := by decide +kernel
theorem d_En_atPlace_25 : decode zb_En_atPlace 25 = .ok (.ireturn, 1) := by decide +kernel
def k_En_atPlace (x : zsE) (l1 : Int32) : Option (Int32) := (k_Ta_holds 1 8 x.2.1 l1).bind fun o1 => (if o1 = 0 then some ((-5 : Int32)) else (k_Ta_get 1 8 x.2.1 l1 ((0 : Int32))).bind fun o3 => some o3)
theorem c_En_atPlace (c : zY) (q : Nat → Nat) (x : zsE) (l1 : Int32) {out : Int32} (h : k_En_atPlace x l1 = some out) : KM zy_En_atPlace zb_En_atPlace 2 (some .int) 1 c [.ref ((q 9)), .int l1] (zwE c q x) (zwE c q x) (some (.int out)) := zK_of zp_En rfl (Nat.le_of_ble_eq_true rfl) (zq_En c q _ _) (fun X hX hR => by
  show Go X (zwE c q x) [(0, .ref ((q 9))), (1, .int l1)] 0 []
  rw [k_En_atPlace] at h
  refine g_aload_n (pc := 0) hX d_En_atPlace_0 rfl 0 rfl ?_
  refine gf_En_14 (pc := 1) (v := .ref ((q 10))) hX 9 rfl rfl d_En_atPlace_1 ?_
  refine g_iload_n (pc := 4) hX d_En_atPlace_4 rfl 1 rfl ?_
  obtain ⟨o1, e1, h⟩ := zbind h
  refine g_cvI (pc := 5)  (st := []) (w' := (zwE c q x)) hX zk_Ta_holds zs_Ta_holds zL_En_43 (c_Ta_holds c (q 10) (q 11) 1 8 x.2.1 l1 e1) rfl rfl rfl rfl (sp_En_Ta_10 c q x) (sp_En_Ta_10 c q x).symm 10 6 rfl rfl rfl d_En_atPlace_5 ?_
  refine g_if_eq (pc := 8) (tgt := 23) hX d_En_atPlace_8 (by decide) h (fun c2 h => ?_) (fun c2 h => ?_)
  · refine g_bipush (pc := 23) hX d_En_atPlace_23 ze_m5 ?_
    cases h
    exact g_iret (pc := 25) hX hR d_En_atPlace_25
  · refine g_aload_n (pc := 11) hX d_En_atPlace_11 rfl 0 rfl ?_
    refine gf_En_14 (pc := 12) (v := .ref ((q 10))) hX 9 rfl rfl d_En_atPlace_12 ?_
    refine g_iload_n (pc := 15) hX d_En_atPlace_15 rfl 1 rfl ?_
    refine g_iconst (pc := 16) hX d_En_atPlace_16 zc_0 ?_
    obtain ⟨o3, e3, h⟩ := zbind h
    refine g_cvI (pc := 17)  (st := []) (w' := (zwE c q x)) hX zk_Ta_get zs_Ta_get zL_En_39 (c_Ta_get c (q 10) (q 11) 1 8 x.2.1 l1 ((0 : Int32)) e3) rfl rfl rfl rfl (sp_En_Ta_10 c q x) (sp_En_Ta_10 c q x).symm 10 6 rfl rfl rfl d_En_atPlace_17 ?_
    refine g_goto (pc := 20) (tgt := 25) hX d_En_atPlace_20 (by decide) ?_
    cases h
    exact g_iret (pc := 25) hX hR d_En_atPlace_25)
theorem d_En_placeOf_0 : decode zb_En_placeOf 0 = .ok (.iconst 0, 1) := by decide +kernel
theorem d_En_placeOf_1 : decode zb_En_placeOf 1 = .ok (.istore_n 2, 1) := by decide +kernel
theorem d_En_placeOf_2 : decode zb_En_placeOf 2 = .ok (.iload_n 2, 1) := by decide +kernel
theorem d_En_placeOf_3 : decode zb_En_placeOf 3 = .ok (.aload_n 0, 1) := by decide +kernel
theorem d_En_placeOf_4 : decode zb_En_placeOf 4 = .ok (.getfield 14, 3) := by decide +kernel
theorem d_En_placeOf_7 : decode zb_En_placeOf 7 = .ok (.invokevirtual 47, 3) := by decide +kernel
theorem d_En_placeOf_10 : decode zb_En_placeOf 10 = .ok (.if_icmp .ge 24, 3) := by decide +kernel
theorem d_En_placeOf_13 : decode zb_En_placeOf 13 = .ok (.aload_n 0, 1) := by decide +kernel
theorem d_En_placeOf_14 : decode zb_En_placeOf 14 = .ok (.getfield 14, 3) := by decide +kernel
theorem d_En_placeOf_17 : decode zb_En_placeOf 17 = .ok (.iload_n 2, 1) := by decide +kernel
theorem d_En_placeOf_18 : decode zb_En_placeOf 18 = .ok (.iconst 0, 1) := by decide +kernel
theorem d_En_placeOf_19 : decode zb_En_placeOf 19 = .ok (.invokevirtual 39, 3) := by decide +kernel
theorem d_En_placeOf_22 : decode zb_En_placeOf 22 = .ok (.iload_n 1, 1) := by decide +kernel
theorem d_En_placeOf_23 : decode zb_En_placeOf 23 = .ok (.if_icmp .ne 5, 3) := by decide +kernel
theorem d_En_placeOf_26 : decode zb_En_placeOf 26 = .ok (.iload_n 2, 1) := by decide +kernel
theorem d_En_placeOf_27 : decode zb_En_placeOf 27 = .ok (.ireturn, 1) := by decide +kernel
theorem d_En_placeOf_28 : decode zb_En_placeOf 28 = .ok (.iinc 2 1, 3) := by decide +kernel
theorem d_En_placeOf_31 : decode zb_En_placeOf 31 = .ok (.goto (-29), 3) := by decide +kernel
theorem d_En_placeOf_34 : decode zb_En_placeOf 34 = .ok (.bipush (-5), 2) := by decide +kernel
theorem d_En_placeOf_36 : decode zb_En_placeOf 36 = .ok (.ireturn, 1) := by decide +kernel
def k_En_placeOf_2 (x : zsE) (l1 : Int32) : Nat → Int32 → Option (Int32)
  | 0, _ => none
  | fu + 1, l2 => (k_Ta_used 1 8 x.2.1).bind fun o1 => (if l2 < o1 then (k_Ta_get 1 8 x.2.1 l2 ((0 : Int32))).bind fun o3 => (if o3 = l1 then some l2 else k_En_placeOf_2 x l1 fu ((l2 + (1 : Int32)))) else some ((-5 : Int32)))
theorem w_En_placeOf_2 {X : zX} {c : zY} {q : Nat → Nat} {x : zsE} {l1 : Int32} {out : Int32} (hX : Ok X zr_En zb_En_placeOf 3 1 c) (hR : Rt X (some .int) (some (.int out)) (zwE c q x)) : ∀ (fu : Nat) (l2 : Int32), k_En_placeOf_2 x l1 fu l2 = some out → Go X (zwE c q x) [(0, .ref ((q 9))), (1, .int l1), (2, .int l2)] 2 [] := by
  intro fu
  induction fu with
  | zero => intro l2 h; rw [k_En_placeOf_2] at h; cases h
  | succ fu ih =>
    intro l2 h
    rw [k_En_placeOf_2] at h
    refine g_iload_n (pc := 2) hX d_En_placeOf_2 rfl 2 rfl ?_
    refine g_aload_n (pc := 3) hX d_En_placeOf_3 rfl 0 rfl ?_
    refine gf_En_14 (pc := 4) (v := .ref ((q 10))) hX 9 rfl rfl d_En_placeOf_4 ?_
    obtain ⟨o1, e1, h⟩ := zbind h
    refine g_cvI (pc := 7)  (st := [.int l2]) (w' := (zwE c q x)) hX zk_Ta_used zs_Ta_used zL_En_47 (c_Ta_used c (q 10) (q 11) 1 8 x.2.1 e1) rfl rfl rfl rfl (sp_En_Ta_10 c q x) (sp_En_Ta_10 c q x).symm 10 6 rfl rfl rfl d_En_placeOf_7 ?_
    refine g_icmp_ge (pc := 10) (tgt := 34) hX d_En_placeOf_10 (by decide) h (fun c2 h => ?_) (fun c2 h => ?_)
    · refine g_bipush (pc := 34) hX d_En_placeOf_34 ze_m5 ?_
      cases h
      exact g_iret (pc := 36) hX hR d_En_placeOf_36
    · refine g_aload_n (pc := 13) hX d_En_placeOf_13 rfl 0 rfl ?_
      refine gf_En_14 (pc := 14) (v := .ref ((q 10))) hX 9 rfl rfl d_En_placeOf_14 ?_
      refine g_iload_n (pc := 17) hX d_En_placeOf_17 rfl 2 rfl ?_
      refine g_iconst (pc := 18) hX d_En_placeOf_18 zc_0 ?_
      obtain ⟨o3, e3, h⟩ := zbind h
      refine g_cvI (pc := 19)  (st := []) (w' := (zwE c q x)) hX zk_Ta_get zs_Ta_get zL_En_39 (c_Ta_get c (q 10) (q 11) 1 8 x.2.1 l2 ((0 : Int32)) e3) rfl rfl rfl rfl (sp_En_Ta_10 c q x) (sp_En_Ta_10 c q x).symm 10 6 rfl rfl rfl d_En_placeOf_19 ?_
      refine g_iload_n (pc := 22) hX d_En_placeOf_22 rfl 1 rfl ?_
      refine g_icmp_ne (pc := 23) (tgt := 28) hX d_En_placeOf_23 (by decide) h (fun c4 h => ?_) (fun c4 h => ?_)
      · refine g_iinc (pc := 28) (q := 2) (L' := [(2, .int ((l2 + (1 : Int32)))), (0, .ref ((q 9))), (1, .int l1)]) hX d_En_placeOf_28 rfl zc_1 rfl rfl ?_
        refine g_goto (pc := 31) (tgt := 2) hX d_En_placeOf_31 (by decide) ?_
        refine g_ls (L' := [(0, .ref ((q 9))), (1, .int l1), (2, .int ((l2 + (1 : Int32))))]) [1, 2, 0] rfl ?_
        exact ih _ h
      · refine g_iload_n (pc := 26) hX d_En_placeOf_26 rfl 2 rfl ?_
        cases h
        exact g_iret (pc := 27) hX hR d_En_placeOf_27
def k_En_placeOf (x : zsE) (l1 : Int32) : Option (Int32) := k_En_placeOf_2 x l1 zFu ((0 : Int32))
theorem c_En_placeOf (c : zY) (q : Nat → Nat) (x : zsE) (l1 : Int32) {out : Int32} (h : k_En_placeOf x l1 = some out) : KM zy_En_placeOf zb_En_placeOf 3 (some .int) 1 c [.ref ((q 9)), .int l1] (zwE c q x) (zwE c q x) (some (.int out)) := zK_of zp_En rfl (Nat.le_of_ble_eq_true rfl) (zq_En c q _ _) (fun X hX hR => by
  show Go X (zwE c q x) [(0, .ref ((q 9))), (1, .int l1)] 0 []
  rw [k_En_placeOf] at h
  refine g_iconst (pc := 0) hX d_En_placeOf_0 zc_0 ?_
  refine g_istore_n (pc := 1) (L' := [(2, .int ((0 : Int32))), (0, .ref ((q 9))), (1, .int l1)]) hX d_En_placeOf_1 rfl rfl rfl ?_
  refine g_ls (L' := [(0, .ref ((q 9))), (1, .int l1), (2, .int ((0 : Int32)))]) [1, 2, 0] rfl ?_
  exact w_En_placeOf_2 hX hR _ _ h)
theorem d_En_inOrder_0 : decode zb_En_inOrder 0 = .ok (.aload_n 0, 1) := by decide +kernel
theorem d_En_inOrder_1 : decode zb_En_inOrder 1 = .ok (.getfield 14, 3) := by decide +kernel
theorem d_En_inOrder_4 : decode zb_En_inOrder 4 = .ok (.iload_n 1, 1) := by decide +kernel
theorem d_En_inOrder_5 : decode zb_En_inOrder 5 = .ok (.invokevirtual 43, 3) := by decide +kernel
theorem d_En_inOrder_8 : decode zb_En_inOrder 8 = .ok (.ifCond .eq 15, 3) := by decide +kernel
theorem d_En_inOrder_11 : decode zb_En_inOrder 11 = .ok (.aload_n 0, 1) := by decide +kernel
theorem d_En_inOrder_12 : decode zb_En_inOrder 12 = .ok (.getfield 14, 3) := by decide +kernel
theorem d_En_inOrder_15 : decode zb_En_inOrder 15 = .ok (.iload_n 1, 1) := by decide +kernel
theorem d_En_inOrder_16 : decode zb_En_inOrder 16 = .ok (.iconst 0, 1) := by decide +kernel
theorem d_En_inOrder_17 : decode zb_En_inOrder 17 = .ok (.invokevirtual 39, 3) := by decide +kernel
theorem d_En_inOrder_20 : decode zb_En_inOrder 20 = .ok (.goto 4, 3) := by decide +kernel
theorem d_En_inOrder_23 : decode zb_En_inOrder 23 = .ok (.iload_n 1, 1) := by decide +kernel
theorem d_En_inOrder_24 : decode zb_En_inOrder 24 = .ok (.ireturn, 1) := by decide +kernel
def k_En_inOrder (x : zsE) (l1 : Int32) : Option (Int32) := (k_Ta_holds 1 8 x.2.1 l1).bind fun o1 => (if o1 = 0 then some l1 else (k_Ta_get 1 8 x.2.1 l1 ((0 : Int32))).bind fun o3 => some o3)
theorem c_En_inOrder (c : zY) (q : Nat → Nat) (x : zsE) (l1 : Int32) {out : Int32} (h : k_En_inOrder x l1 = some out) : KM zy_En_inOrder zb_En_inOrder 2 (some .int) 1 c [.ref ((q 9)), .int l1] (zwE c q x) (zwE c q x) (some (.int out)) := zK_of zp_En rfl (Nat.le_of_ble_eq_true rfl) (zq_En c q _ _) (fun X hX hR => by
  show Go X (zwE c q x) [(0, .ref ((q 9))), (1, .int l1)] 0 []
  rw [k_En_inOrder] at h
  refine g_aload_n (pc := 0) hX d_En_inOrder_0 rfl 0 rfl ?_
  refine gf_En_14 (pc := 1) (v := .ref ((q 10))) hX 9 rfl rfl d_En_inOrder_1 ?_
  refine g_iload_n (pc := 4) hX d_En_inOrder_4 rfl 1 rfl ?_
  obtain ⟨o1, e1, h⟩ := zbind h
  refine g_cvI (pc := 5)  (st := []) (w' := (zwE c q x)) hX zk_Ta_holds zs_Ta_holds zL_En_43 (c_Ta_holds c (q 10) (q 11) 1 8 x.2.1 l1 e1) rfl rfl rfl rfl (sp_En_Ta_10 c q x) (sp_En_Ta_10 c q x).symm 10 6 rfl rfl rfl d_En_inOrder_5 ?_
  refine g_if_eq (pc := 8) (tgt := 23) hX d_En_inOrder_8 (by decide) h (fun c2 h => ?_) (fun c2 h => ?_)
  · refine g_iload_n (pc := 23) hX d_En_inOrder_23 rfl 1 rfl ?_
    cases h
    exact g_iret (pc := 24) hX hR d_En_inOrder_24
  · refine g_aload_n (pc := 11) hX d_En_inOrder_11 rfl 0 rfl ?_
    refine gf_En_14 (pc := 12) (v := .ref ((q 10))) hX 9 rfl rfl d_En_inOrder_12 ?_
    refine g_iload_n (pc := 15) hX d_En_inOrder_15 rfl 1 rfl ?_
    refine g_iconst (pc := 16) hX d_En_inOrder_16 zc_0 ?_
    obtain ⟨o3, e3, h⟩ := zbind h
    refine g_cvI (pc := 17)  (st := []) (w' := (zwE c q x)) hX zk_Ta_get zs_Ta_get zL_En_39 (c_Ta_get c (q 10) (q 11) 1 8 x.2.1 l1 ((0 : Int32)) e3) rfl rfl rfl rfl (sp_En_Ta_10 c q x) (sp_En_Ta_10 c q x).symm 10 6 rfl rfl rfl d_En_inOrder_17 ?_
    refine g_goto (pc := 20) (tgt := 24) hX d_En_inOrder_20 (by decide) ?_
    cases h
    exact g_iret (pc := 24) hX hR d_En_inOrder_24)
theorem d_En_isAhead_0 : decode zb_En_isAhead 0 = .ok (.aload_n 0, 1) := by decide +kernel
theorem d_En_isAhead_1 : decode zb_En_isAhead 1 = .ok (.getfield 20, 3) := by decide +kernel
theorem d_En_isAhead_4 : decode zb_En_isAhead 4 = .ok (.iload_n 1, 1) := by decide +kernel
theorem d_En_isAhead_5 : decode zb_En_isAhead 5 = .ok (.bipush 6, 2) := by decide +kernel
theorem d_En_isAhead_7 : decode zb_En_isAhead 7 = .ok (.invokevirtual 57, 3) := by decide +kernel
theorem d_En_isAhead_10 : decode zb_En_isAhead 10 = .ok (.aload_n 0, 1) := by decide +kernel
theorem d_En_isAhead_11 : decode zb_En_isAhead 11 = .ok (.getfield 20, 3) := by decide +kernel
theorem d_En_isAhead_14 : decode zb_En_isAhead 14 = .ok (.iload_n 2, 1) := by decide +kernel
theorem d_En_isAhead_15 : decode zb_En_isAhead 15 = .ok (.bipush 6, 2) := by decide +kernel
theorem d_En_isAhead_17 : decode zb_En_isAhead 17 = .ok (.invokevirtual 57, 3) := by decide +kernel
theorem d_En_isAhead_20 : decode zb_En_isAhead 20 = .ok (.isub, 1) := by decide +kernel
theorem d_En_isAhead_21 : decode zb_En_isAhead 21 = .ok (.istore_n 3, 1) := by decide +kernel
theorem d_En_isAhead_22 : decode zb_En_isAhead 22 = .ok (.aload_n 0, 1) := by decide +kernel
theorem d_En_isAhead_23 : decode zb_En_isAhead 23 = .ok (.getfield 20, 3) := by decide +kernel
theorem d_En_isAhead_26 : decode zb_En_isAhead 26 = .ok (.iload_n 1, 1) := by decide +kernel
theorem d_En_isAhead_27 : decode zb_En_isAhead 27 = .ok (.iconst 4, 1) := by decide +kernel
theorem d_En_isAhead_28 : decode zb_En_isAhead 28 = .ok (.invokevirtual 57, 3) := by decide +kernel
theorem d_En_isAhead_31 : decode zb_En_isAhead 31 = .ok (.aload_n 0, 1) := by decide +kernel
theorem d_En_isAhead_32 : decode zb_En_isAhead 32 = .ok (.getfield 20, 3) := by decide +kernel
theorem d_En_isAhead_35 : decode zb_En_isAhead 35 = .ok (.iload_n 2, 1) := by decide +kernel
theorem d_En_isAhead_36 : decode zb_En_isAhead 36 = .ok (.iconst 4, 1) := by decide +kernel
theorem d_En_isAhead_37 : decode zb_En_isAhead 37 = .ok (.invokevirtual 57, 3) := by decide +kernel
theorem d_En_isAhead_40 : decode zb_En_isAhead 40 = .ok (.isub, 1) := by decide +kernel
theorem d_En_isAhead_41 : decode zb_En_isAhead 41 = .ok (.istore 4, 2) := by decide +kernel
theorem d_En_isAhead_43 : decode zb_En_isAhead 43 = .ok (.iload_n 3, 1) := by decide +kernel
theorem d_En_isAhead_44 : decode zb_En_isAhead 44 = .ok (.ifCond .gt 12, 3) := by decide +kernel
theorem d_En_isAhead_47 : decode zb_En_isAhead 47 = .ok (.iload_n 3, 1) := by decide +kernel
theorem d_En_isAhead_48 : decode zb_En_isAhead 48 = .ok (.ifCond .ne 12, 3) := by decide +kernel
theorem d_En_isAhead_51 : decode zb_En_isAhead 51 = .ok (.iload 4, 2) := by decide +kernel
theorem d_En_isAhead_53 : decode zb_En_isAhead 53 = .ok (.ifCond .le 7, 3) := by decide +kernel
theorem d_En_isAhead_56 : decode zb_En_isAhead 56 = .ok (.iconst 1, 1) := by decide +kernel
theorem d_En_isAhead_57 : decode zb_En_isAhead 57 = .ok (.goto 4, 3) := by decide +kernel
theorem d_En_isAhead_60 : decode zb_En_isAhead 60 = .ok (.iconst 0, 1) := by decide +kernel
theorem d_En_isAhead_61 : decode zb_En_isAhead 61 = .ok (.ireturn, 1) := by decide +kernel
def k_En_isAhead (x : zsE) (l1 : Int32) (l2 : Int32) : Option (Int32) := (k_Fi_at x.1 l1 ((6 : Int32))).bind fun o1 => (k_Fi_at x.1 l2 ((6 : Int32))).bind fun o2 => (k_Fi_at x.1 l1 ((4 : Int32))).bind fun o3 => (k_Fi_at x.1 l2 ((4 : Int32))).bind fun o4 => (if 0 < (o1 - o2) then some ((1 : Int32)) else (if (o1 - o2) = 0 then (if 0 < (o3 - o4) then some ((1 : Int32)) else some ((0 : Int32))) else some ((0 : Int32))))
theorem c_En_isAhead (c : zY) (q : Nat → Nat) (x : zsE) (l1 : Int32) (l2 : Int32) {out : Int32} (h : k_En_isAhead x l1 l2 = some out) : KM zy_En_isAhead zb_En_isAhead 5 (some .boolean) 2 c [.ref ((q 9)), .int l1, .int l2] (zwE c q x) (zwE c q x) (some (.int out)) := zK_of zp_En rfl (Nat.le_of_ble_eq_true rfl) (zq_En c q _ _) (fun X hX hR => by
  show Go X (zwE c q x) [(0, .ref ((q 9))), (1, .int l1), (2, .int l2)] 0 []
  rw [k_En_isAhead] at h
  refine g_aload_n (pc := 0) hX d_En_isAhead_0 rfl 0 rfl ?_
  refine gf_En_20 (pc := 1) (v := .ref ((q 6))) hX 9 rfl rfl d_En_isAhead_1 ?_
  refine g_iload_n (pc := 4) hX d_En_isAhead_4 rfl 1 rfl ?_
  refine g_bipush (pc := 5) hX d_En_isAhead_5 ze_6 ?_
  obtain ⟨o1, e1, h⟩ := zbind h
  refine g_cvI (pc := 7)  (st := []) (w' := (zwE c q x)) hX zk_Fi_at zs_Fi_at zL_En_57 (c_Fi_at c q x.1 l1 ((6 : Int32)) e1) rfl rfl rfl rfl (sp_En_Fi_0 c q x) (sp_En_Fi_0 c q x).symm 6 3 rfl rfl rfl d_En_isAhead_7 ?_
  refine g_aload_n (pc := 10) hX d_En_isAhead_10 rfl 0 rfl ?_
  refine gf_En_20 (pc := 11) (v := .ref ((q 6))) hX 9 rfl rfl d_En_isAhead_11 ?_
  refine g_iload_n (pc := 14) hX d_En_isAhead_14 rfl 2 rfl ?_
  refine g_bipush (pc := 15) hX d_En_isAhead_15 ze_6 ?_
  obtain ⟨o2, e2, h⟩ := zbind h
  refine g_cvI (pc := 17)  (st := [.int o1]) (w' := (zwE c q x)) hX zk_Fi_at zs_Fi_at zL_En_57 (c_Fi_at c q x.1 l2 ((6 : Int32)) e2) rfl rfl rfl rfl (sp_En_Fi_0 c q x) (sp_En_Fi_0 c q x).symm 6 3 rfl rfl rfl d_En_isAhead_17 ?_
  refine g_isub (pc := 20) hX d_En_isAhead_20 ?_
  refine g_istore_n (pc := 21) (L' := [(3, .int ((o1 - o2))), (0, .ref ((q 9))), (1, .int l1), (2, .int l2)]) hX d_En_isAhead_21 rfl rfl rfl ?_
  refine g_aload_n (pc := 22) hX d_En_isAhead_22 rfl 1 rfl ?_
  refine gf_En_20 (pc := 23) (v := .ref ((q 6))) hX 9 rfl rfl d_En_isAhead_23 ?_
  refine g_iload_n (pc := 26) hX d_En_isAhead_26 rfl 2 rfl ?_
  refine g_iconst (pc := 27) hX d_En_isAhead_27 zc_4 ?_
  obtain ⟨o3, e3, h⟩ := zbind h
  refine g_cvI (pc := 28)  (st := []) (w' := (zwE c q x)) hX zk_Fi_at zs_Fi_at zL_En_57 (c_Fi_at c q x.1 l1 ((4 : Int32)) e3) rfl rfl rfl rfl (sp_En_Fi_0 c q x) (sp_En_Fi_0 c q x).symm 6 3 rfl rfl rfl d_En_isAhead_28 ?_
  refine g_aload_n (pc := 31) hX d_En_isAhead_31 rfl 1 rfl ?_
  refine gf_En_20 (pc := 32) (v := .ref ((q 6))) hX 9 rfl rfl d_En_isAhead_32 ?_
  refine g_iload_n (pc := 35) hX d_En_isAhead_35 rfl 3 rfl ?_
  refine g_iconst (pc := 36) hX d_En_isAhead_36 zc_4 ?_
  obtain ⟨o4, e4, h⟩ := zbind h
  refine g_cvI (pc := 37)  (st := [.int o3]) (w' := (zwE c q x)) hX zk_Fi_at zs_Fi_at zL_En_57 (c_Fi_at c q x.1 l2 ((4 : Int32)) e4) rfl rfl rfl rfl (sp_En_Fi_0 c q x) (sp_En_Fi_0 c q x).symm 6 3 rfl rfl rfl d_En_isAhead_37 ?_
  refine g_isub (pc := 40) hX d_En_isAhead_40 ?_
  refine g_istore (pc := 41) (L' := [(4, .int ((o3 - o4))), (3, .int ((o1 - o2))), (0, .ref ((q 9))), (1, .int l1), (2, .int l2)]) hX d_En_isAhead_41 rfl rfl ?_
  refine g_iload_n (pc := 43) hX d_En_isAhead_43 rfl 1 rfl ?_
  refine g_if_gt (pc := 44) (tgt := 56) hX d_En_isAhead_44 (by decide) h (fun c5 h => ?_) (fun c5 h => ?_)
  · refine g_iconst (pc := 56) hX d_En_isAhead_56 zc_1 ?_
    refine g_goto (pc := 57) (tgt := 61) hX d_En_isAhead_57 (by decide) ?_
    cases h
    exact g_zret (pc := 61) hX hR (Or.inr rfl) d_En_isAhead_61
  · refine g_iload_n (pc := 47) hX d_En_isAhead_47 rfl 1 rfl ?_
    refine g_if_ne (pc := 48) (tgt := 60) hX d_En_isAhead_48 (by decide) h (fun c6 h => ?_) (fun c6 h => ?_)
    · refine g_iconst (pc := 60) hX d_En_isAhead_60 zc_0 ?_
      cases h
      exact g_zret (pc := 61) hX hR (Or.inl rfl) d_En_isAhead_61
    · refine g_iload (pc := 51) hX d_En_isAhead_51 0 rfl ?_
      refine g_if_le (pc := 53) (tgt := 60) hX d_En_isAhead_53 (by decide) h (fun c7 h => ?_) (fun c7 h => ?_)
      · refine g_iconst (pc := 60) hX d_En_isAhead_60 zc_0 ?_
        cases h
        exact g_zret (pc := 61) hX hR (Or.inl rfl) d_En_isAhead_61
      · refine g_iconst (pc := 56) hX d_En_isAhead_56 zc_1 ?_
        refine g_goto (pc := 57) (tgt := 61) hX d_En_isAhead_57 (by decide) ?_
        cases h
        exact g_zret (pc := 61) hX hR (Or.inr rfl) d_En_isAhead_61)
theorem d_En_insert_0 : decode zb_En_insert 0 = .ok (.aload_n 0, 1) := by decide +kernel
theorem d_En_insert_1 : decode zb_En_insert 1 = .ok (.getfield 14, 3) := by decide +kernel
theorem d_En_insert_4 : decode zb_En_insert 4 = .ok (.invokevirtual 70, 3) := by decide +kernel
theorem d_En_insert_7 : decode zb_En_insert 7 = .ok (.istore_n 2, 1) := by decide +kernel
theorem d_En_insert_8 : decode zb_En_insert 8 = .ok (.iload_n 2, 1) := by decide +kernel
theorem d_En_insert_9 : decode zb_En_insert 9 = .ok (.ifCond .le 39, 3) := by decide +kernel
theorem d_En_insert_12 : decode zb_En_insert 12 = .ok (.aload_n 0, 1) := by decide +kernel
theorem d_En_insert_13 : decode zb_En_insert 13 = .ok (.iload_n 1, 1) := by decide +kernel
theorem d_En_insert_14 : decode zb_En_insert 14 = .ok (.aload_n 0, 1) := by decide +kernel
theorem d_En_insert_15 : decode zb_En_insert 15 = .ok (.getfield 14, 3) := by decide +kernel
theorem d_En_insert_18 : decode zb_En_insert 18 = .ok (.iload_n 2, 1) := by decide +kernel
theorem d_En_insert_19 : decode zb_En_insert 19 = .ok (.iconst 1, 1) := by decide +kernel
theorem d_En_insert_20 : decode zb_En_insert 20 = .ok (.isub, 1) := by decide +kernel
theorem d_En_insert_21 : decode zb_En_insert 21 = .ok (.iconst 0, 1) := by decide +kernel
theorem d_En_insert_22 : decode zb_En_insert 22 = .ok (.invokevirtual 39, 3) := by decide +kernel
theorem d_En_insert_25 : decode zb_En_insert 25 = .ok (.invokevirtual 73, 3) := by decide +kernel
theorem d_En_insert_28 : decode zb_En_insert 28 = .ok (.ifCond .eq 20, 3) := by decide +kernel
theorem d_En_insert_31 : decode zb_En_insert 31 = .ok (.aload_n 0, 1) := by decide +kernel
theorem d_En_insert_32 : decode zb_En_insert 32 = .ok (.getfield 14, 3) := by decide +kernel
theorem d_En_insert_35 : decode zb_En_insert 35 = .ok (.iload_n 2, 1) := by decide +kernel
theorem d_En_insert_36 : decode zb_En_insert 36 = .ok (.iconst 1, 1) := by decide +kernel
theorem d_En_insert_37 : decode zb_En_insert 37 = .ok (.isub, 1) := by decide +kernel
theorem d_En_insert_38 : decode zb_En_insert 38 = .ok (.iload_n 2, 1) := by decide +kernel
theorem d_En_insert_39 : decode zb_En_insert 39 = .ok (.invokevirtual 77, 3) := by decide +kernel
theorem d_En_insert_42 : decode zb_En_insert 42 = .ok (.iinc 2 (-1), 3) := by decide +kernel
theorem d_En_insert_45 : decode zb_En_insert 45 = .ok (.goto (-37), 3) := by decide +kernel
theorem d_En_insert_48 : decode zb_En_insert 48 = .ok (.aload_n 0, 1) := by decide +kernel
theorem d_En_insert_49 : decode zb_En_insert 49 = .ok (.getfield 14, 3) := by decide +kernel
theorem d_En_insert_52 : decode zb_En_insert 52 = .ok (.iload_n 2, 1) := by decide +kernel
theorem d_En_insert_53 : decode zb_En_insert 53 = .ok (.iconst 0, 1) := by decide +kernel
theorem d_En_insert_54 : decode zb_En_insert 54 = .ok (.iload_n 1, 1) := by decide +kernel
theorem d_En_insert_55 : decode zb_En_insert 55 = .ok (.invokevirtual 81, 3) := by decide +kernel
theorem d_En_insert_58 : decode zb_En_insert 58 = .ok (.return_, 1) := by decide +kernel
def k_En_insert_8 (l1 : Int32) : Nat → Int32 → zsE → Option (zsE)
  | 0, _, _ => none
  | fu + 1, l2, x => (if 0 < l2 then (k_Ta_get 1 8 x.2.1 ((l2 - (1 : Int32))) ((0 : Int32))).bind fun o4 => (k_En_isAhead x l1 o4).bind fun o5 => (if o5 = 0 then (k_Ta_set 1 8 x.2.1 l2 ((0 : Int32)) l1).bind fun o7 => some ((x.1, o7, x.2.2)) else (k_Ta_copyRow 1 8 x.2.1 ((l2 - (1 : Int32))) l2).bind fun o8 => k_En_insert_8 l1 fu ((l2 + (-1 : Int32))) ((x.1, o8, x.2.2))) else (k_Ta_set 1 8 x.2.1 l2 ((0 : Int32)) l1).bind fun o3 => some ((x.1, o3, x.2.2)))
theorem w_En_insert_8 {X : zX} {c : zY} {q : Nat → Nat} {l1 : Int32} {out : zsE} (hX : Ok X zr_En zb_En_insert 3 3 c) (hR : Rt X none none (zwE c q out)) : ∀ (fu : Nat) (l2 : Int32) (x : zsE), k_En_insert_8 l1 fu l2 x = some out → Go X (zwE c q x) [(0, .ref ((q 9))), (1, .int l1), (2, .int l2)] 8 [] := by
  intro fu
  induction fu with
  | zero => intro l2 x h; rw [k_En_insert_8] at h; cases h
  | succ fu ih =>
    intro l2 x h
    rw [k_En_insert_8] at h
    refine g_iload_n (pc := 8) hX d_En_insert_8 rfl 2 rfl ?_
    refine g_if_le (pc := 9) (tgt := 48) hX d_En_insert_9 (by decide) h (fun c2 h => ?_) (fun c2 h => ?_)
    · refine g_aload_n (pc := 48) hX d_En_insert_48 rfl 0 rfl ?_
      refine gf_En_14 (pc := 49) (v := .ref ((q 10))) hX 9 rfl rfl d_En_insert_49 ?_
      refine g_iload_n (pc := 52) hX d_En_insert_52 rfl 2 rfl ?_
      refine g_iconst (pc := 53) hX d_En_insert_53 zc_0 ?_
      refine g_iload_n (pc := 54) hX d_En_insert_54 rfl 1 rfl ?_
      obtain ⟨o3, e3, h⟩ := zbind h
      refine g_cvV (pc := 55)  (st := []) (w' := (zwE c q ((x.1, o3, x.2.2)))) hX zk_Ta_set zs_Ta_set zL_En_81 (c_Ta_set c (q 10) (q 11) 1 8 x.2.1 l2 ((0 : Int32)) l1 e3) rfl rfl rfl rfl (sp_En_Ta_10 c q x) (sq_En_Ta_10 c q x o3) 10 6 rfl rfl rfl d_En_insert_55 ?_
      cases h
      exact g_vret (pc := 58) hX hR d_En_insert_58
    · refine g_aload_n (pc := 12) hX d_En_insert_12 rfl 0 rfl ?_
      refine g_iload_n (pc := 13) hX d_En_insert_13 rfl 1 rfl ?_
      refine g_aload_n (pc := 14) hX d_En_insert_14 rfl 0 rfl ?_
      refine gf_En_14 (pc := 15) (v := .ref ((q 10))) hX 9 rfl rfl d_En_insert_15 ?_
      refine g_iload_n (pc := 18) hX d_En_insert_18 rfl 2 rfl ?_
      refine g_iconst (pc := 19) hX d_En_insert_19 zc_1 ?_
      refine g_isub (pc := 20) hX d_En_insert_20 ?_
      refine g_iconst (pc := 21) hX d_En_insert_21 zc_0 ?_
      obtain ⟨o4, e4, h⟩ := zbind h
      refine g_cvI (pc := 22)  (st := [.int l1, .ref ((q 9))]) (w' := (zwE c q x)) hX zk_Ta_get zs_Ta_get zL_En_39 (c_Ta_get c (q 10) (q 11) 1 8 x.2.1 ((l2 - (1 : Int32))) ((0 : Int32)) e4) rfl rfl rfl rfl (sp_En_Ta_10 c q x) (sp_En_Ta_10 c q x).symm 10 6 rfl rfl rfl d_En_insert_22 ?_
      obtain ⟨o5, e5, h⟩ := zbind h
      refine g_cvI (pc := 25) (w1 := []) (w2 := []) (st := []) (w' := (zwE c q x)) hX zk_En_isAhead zs_En_isAhead zL_En_73 (c_En_isAhead c q x l1 o4 e5) rfl rfl rfl rfl (zself _) (zself _).symm 9 2 rfl rfl rfl d_En_insert_25 ?_
      refine g_if_eq (pc := 28) (tgt := 48) hX d_En_insert_28 (by decide) h (fun c6 h => ?_) (fun c6 h => ?_)
      · refine g_aload_n (pc := 48) hX d_En_insert_48 rfl 0 rfl ?_
        refine gf_En_14 (pc := 49) (v := .ref ((q 10))) hX 9 rfl rfl d_En_insert_49 ?_
        refine g_iload_n (pc := 52) hX d_En_insert_52 rfl 2 rfl ?_
        refine g_iconst (pc := 53) hX d_En_insert_53 zc_0 ?_
        refine g_iload_n (pc := 54) hX d_En_insert_54 rfl 1 rfl ?_
        obtain ⟨o7, e7, h⟩ := zbind h
        refine g_cvV (pc := 55)  (st := []) (w' := (zwE c q ((x.1, o7, x.2.2)))) hX zk_Ta_set zs_Ta_set zL_En_81 (c_Ta_set c (q 10) (q 11) 1 8 x.2.1 l2 ((0 : Int32)) l1 e7) rfl rfl rfl rfl (sp_En_Ta_10 c q x) (sq_En_Ta_10 c q x o7) 10 6 rfl rfl rfl d_En_insert_55 ?_
        cases h
        exact g_vret (pc := 58) hX hR d_En_insert_58
      · refine g_aload_n (pc := 31) hX d_En_insert_31 rfl 0 rfl ?_
        refine gf_En_14 (pc := 32) (v := .ref ((q 10))) hX 9 rfl rfl d_En_insert_32 ?_
        refine g_iload_n (pc := 35) hX d_En_insert_35 rfl 2 rfl ?_
        refine g_iconst (pc := 36) hX d_En_insert_36 zc_1 ?_
        refine g_isub (pc := 37) hX d_En_insert_37 ?_
        refine g_iload_n (pc := 38) hX d_En_insert_38 rfl 2 rfl ?_
        obtain ⟨o8, e8, h⟩ := zbind h
        refine g_cvV (pc := 39)  (st := []) (w' := (zwE c q ((x.1, o8, x.2.2)))) hX zk_Ta_copyRow zs_Ta_copyRow zL_En_77 (c_Ta_copyRow c (q 10) (q 11) 1 8 x.2.1 ((l2 - (1 : Int32))) l2 e8) rfl rfl rfl rfl (sp_En_Ta_10 c q x) (sq_En_Ta_10 c q x o8) 10 6 rfl rfl rfl d_En_insert_39 ?_
        refine g_iinc (pc := 42) (q := 2) (L' := [(2, .int ((l2 + (-1 : Int32)))), (0, .ref ((q 9))), (1, .int l1)]) hX d_En_insert_42 rfl zc_m1 rfl rfl ?_
        refine g_goto (pc := 45) (tgt := 8) hX d_En_insert_45 (by decide) ?_
        refine g_ls (L' := [(0, .ref ((q 9))), (1, .int l1), (2, .int ((l2 + (-1 : Int32))))]) [1, 2, 0] rfl ?_
        exact ih _ _ h
def k_En_insert (x : zsE) (l1 : Int32) : Option (zsE) := (k_Ta_append 1 8 x.2.1).bind fun o1 => k_En_insert_8 l1 zFu o1.1 ((x.1, o1.2, x.2.2))
theorem c_En_insert (c : zY) (q : Nat → Nat) (x : zsE) (l1 : Int32) {out : zsE} (h : k_En_insert x l1 = some out) : KM zy_En_insert zb_En_insert 3 none 3 c [.ref ((q 9)), .int l1] (zwE c q x) (zwE c q out) none := zK_of zp_En rfl (Nat.le_of_ble_eq_true rfl) (zq_En c q _ _) (fun X hX hR => by
  show Go X (zwE c q x) [(0, .ref ((q 9))), (1, .int l1)] 0 []
  rw [k_En_insert] at h
  refine g_aload_n (pc := 0) hX d_En_insert_0 rfl 0 rfl ?_
  refine gf_En_14 (pc := 1) (v := .ref ((q 10))) hX 9 rfl rfl d_En_insert_1 ?_
  obtain ⟨o1, e1, h⟩ := zbind h
  refine g_cvI (pc := 4)  (st := []) (w' := (zwE c q ((x.1, o1.2, x.2.2)))) hX zk_Ta_append zs_Ta_append zL_En_70 (c_Ta_append c (q 10) (q 11) 1 8 x.2.1 e1) rfl rfl rfl rfl (sp_En_Ta_10 c q x) (sq_En_Ta_10 c q x o1.2) 10 6 rfl rfl rfl d_En_insert_4 ?_
  refine g_istore_n (pc := 7) (L' := [(2, .int o1.1), (0, .ref ((q 9))), (1, .int l1)]) hX d_En_insert_7 rfl rfl rfl ?_
  refine g_ls (L' := [(0, .ref ((q 9))), (1, .int l1), (2, .int o1.1)]) [1, 2, 0] rfl ?_
  exact w_En_insert_8 hX hR _ _ _ h)
theorem d_En_open_0 : decode zb_En_open 0 = .ok (.iload_n 1, 1) := by decide +kernel
theorem d_En_open_1 : decode zb_En_open 1 = .ok (.istore_n 2, 1) := by decide +kernel
theorem d_En_open_2 : decode zb_En_open 2 = .ok (.iconst 0, 1) := by decide +kernel
theorem d_En_open_3 : decode zb_En_open 3 = .ok (.istore_n 3, 1) := by decide +kernel
theorem d_En_open_4 : decode zb_En_open 4 = .ok (.iload_n 3, 1) := by decide +kernel
theorem d_En_open_5 : decode zb_En_open 5 = .ok (.aload_n 0, 1) := by decide +kernel
theorem d_En_open_6 : decode zb_En_open 6 = .ok (.getfield 20, 3) := by decide +kernel
theorem d_En_open_9 : decode zb_En_open 9 = .ok (.invokevirtual 51, 3) := by decide +kernel
theorem d_En_open_12 : decode zb_En_open 12 = .ok (.if_icmp .ge 56, 3) := by decide +kernel
theorem d_En_open_15 : decode zb_En_open 15 = .ok (.iload_n 2, 1) := by decide +kernel
theorem d_En_open_16 : decode zb_En_open 16 = .ok (.ldc 56, 2) := by decide +kernel
theorem d_En_open_18 : decode zb_En_open 18 = .ok (.imul, 1) := by decide +kernel
theorem d_En_open_19 : decode zb_En_open 19 = .ok (.sipush 12345, 3) := by decide +kernel
theorem d_En_open_22 : decode zb_En_open 22 = .ok (.iadd, 1) := by decide +kernel
theorem d_En_open_23 : decode zb_En_open 23 = .ok (.istore_n 2, 1) := by decide +kernel
theorem d_En_open_24 : decode zb_En_open 24 = .ok (.iconst 1, 1) := by decide +kernel
theorem d_En_open_25 : decode zb_En_open 25 = .ok (.iload_n 2, 1) := by decide +kernel
theorem d_En_open_26 : decode zb_En_open 26 = .ok (.bipush 16, 2) := by decide +kernel
theorem d_En_open_28 : decode zb_En_open 28 = .ok (.iushr, 1) := by decide +kernel
theorem d_En_open_29 : decode zb_En_open 29 = .ok (.bipush 20, 2) := by decide +kernel
theorem d_En_open_31 : decode zb_En_open 31 = .ok (.irem, 1) := by decide +kernel
theorem d_En_open_32 : decode zb_En_open 32 = .ok (.iadd, 1) := by decide +kernel
theorem d_En_open_33 : decode zb_En_open 33 = .ok (.istore 4, 2) := by decide +kernel
theorem d_En_open_35 : decode zb_En_open 35 = .ok (.aload_n 0, 1) := by decide +kernel
theorem d_En_open_36 : decode zb_En_open 36 = .ok (.getfield 20, 3) := by decide +kernel
theorem d_En_open_39 : decode zb_En_open 39 = .ok (.iload_n 3, 1) := by decide +kernel
theorem d_En_open_40 : decode zb_En_open 40 = .ok (.bipush 6, 2) := by decide +kernel
theorem d_En_open_42 : decode zb_En_open 42 = .ok (.aload_n 0, 1) := by decide +kernel
theorem d_En_open_43 : decode zb_En_open 43 = .ok (.getfield 20, 3) := by decide +kernel
theorem d_En_open_46 : decode zb_En_open 46 = .ok (.iload_n 3, 1) := by decide +kernel
theorem d_En_open_47 : decode zb_En_open 47 = .ok (.iconst 4, 1) := by decide +kernel
theorem d_En_open_48 : decode zb_En_open 48 = .ok (.invokevirtual 57, 3) := by decide +kernel
theorem d_En_open_51 : decode zb_En_open 51 = .ok (.iload 4, 2) := by decide +kernel
theorem d_En_open_53 : decode zb_En_open 53 = .ok (.iadd, 1) := by decide +kernel
theorem d_En_open_54 : decode zb_En_open 54 = .ok (.invokevirtual 60, 3) := by decide +kernel
theorem d_En_open_57 : decode zb_En_open 57 = .ok (.aload_n 0, 1) := by decide +kernel
theorem d_En_open_58 : decode zb_En_open 58 = .ok (.iload_n 3, 1) := by decide +kernel
theorem d_En_open_59 : decode zb_En_open 59 = .ok (.invokevirtual 63, 3) := by decide +kernel
theorem d_En_open_62 : decode zb_En_open 62 = .ok (.iinc 3 1, 3) := by decide +kernel
theorem d_En_open_65 : decode zb_En_open 65 = .ok (.goto (-61), 3) := by decide +kernel
theorem d_En_open_68 : decode zb_En_open 68 = .ok (.aload_n 0, 1) := by decide +kernel
theorem d_En_open_69 : decode zb_En_open 69 = .ok (.iconst 1, 1) := by decide +kernel
theorem d_En_open_70 : decode zb_En_open 70 = .ok (.putfield 32, 3) := by decide +kernel
theorem d_En_open_73 : decode zb_En_open 73 = .ok (.aload_n 0, 1) := by decide +kernel
theorem d_En_open_74 : decode zb_En_open 74 = .ok (.iconst 0, 1) := by decide +kernel
theorem d_En_open_75 : decode zb_En_open 75 = .ok (.putfield 36, 3) := by decide +kernel
theorem d_En_open_78 : decode zb_En_open 78 = .ok (.aload_n 0, 1) := by decide +kernel
theorem d_En_open_79 : decode zb_En_open 79 = .ok (.dup, 1) := by decide +kernel
theorem d_En_open_80 : decode zb_En_open 80 = .ok (.getfield 67, 3) := by decide +kernel
theorem d_En_open_83 : decode zb_En_open 83 = .ok (.iconst 1, 1) := by decide +kernel
theorem d_En_open_84 : decode zb_En_open 84 = .ok (.iadd, 1) := by decide +kernel
theorem d_En_open_85 : decode zb_En_open 85 = .ok (.putfield 67, 3) := by decide +kernel
theorem d_En_open_88 : decode zb_En_open 88 = .ok (.return_, 1) := by decide +kernel
def k_En_open_4 (l1 : Int32) : Nat → Int32 → Int32 → zsE → Option (zsE)
  | 0, _, _, _ => none
  | fu + 1, l2, l3, x => (k_Fi_size x.1).bind fun o1 => (if l3 < o1 then (k_Fi_at x.1 l3 ((4 : Int32))).bind fun o3 => (k_Fi_put x.1 l3 ((6 : Int32)) ((o3 + ((1 : Int32) + (zrem ((zush (((l2 * (1103515245 : Int32)) + (12345 : Int32))) ((16 : Int32)))) (20 : Int32)))))).bind fun o4 => (k_En_insert ((o4, x.2.1, x.2.2)) l3).bind fun o5 => k_En_open_4 l1 fu (((l2 * (1103515245 : Int32)) + (12345 : Int32))) ((l3 + (1 : Int32))) o5 else some ((x.1, x.2.1, (upd ((upd ((upd x.2.2 4 ((1 : Int32)))) 5 ((0 : Int32)))) 8 (((((upd x.2.2 4 ((1 : Int32))))) 8 + (1 : Int32)))))))
theorem w_En_open_4 {X : zX} {c : zY} {q : Nat → Nat} {l1 : Int32} {out : zsE} (hX : Ok X zr_En zb_En_open 5 4 c) (hR : Rt X none none (zwE c q out)) : ∀ (fu : Nat) (l2 : Int32) (l3 : Int32) (x : zsE), k_En_open_4 l1 fu l2 l3 x = some out → Go X (zwE c q x) [(0, .ref ((q 9))), (2, .int l2), (3, .int l3)] 4 [] := by
  intro fu
  induction fu with
  | zero => intro l2 l3 x h; rw [k_En_open_4] at h; cases h
  | succ fu ih =>
    intro l2 l3 x h
    rw [k_En_open_4] at h
    refine g_iload_n (pc := 4) hX d_En_open_4 rfl 2 rfl ?_
    refine g_aload_n (pc := 5) hX d_En_open_5 rfl 0 rfl ?_
    refine gf_En_20 (pc := 6) (v := .ref ((q 6))) hX 9 rfl rfl d_En_open_6 ?_
    obtain ⟨o1, e1, h⟩ := zbind h
    refine g_cvI (pc := 9)  (st := [.int l3]) (w' := (zwE c q x)) hX zk_Fi_size zs_Fi_size zL_En_51 (c_Fi_size c q x.1 e1) rfl rfl rfl rfl (sp_En_Fi_0 c q x) (sp_En_Fi_0 c q x).symm 6 3 rfl rfl rfl d_En_open_9 ?_
    refine g_icmp_ge (pc := 12) (tgt := 68) hX d_En_open_12 (by decide) h (fun c2 h => ?_) (fun c2 h => ?_)
    · refine g_aload_n (pc := 68) hX d_En_open_68 rfl 0 rfl ?_
      refine g_iconst (pc := 69) hX d_En_open_69 zc_1 ?_
      refine pf_En_32 (pc := 70) (w2 := (zwE c q ((x.1, x.2.1, (upd x.2.2 4 ((1 : Int32))))))) hX 9 rfl rfl (su_En_9_4 c q x ((1 : Int32))) d_En_open_70 ?_
      refine g_aload_n (pc := 73) hX d_En_open_73 rfl 0 rfl ?_
      refine g_iconst (pc := 74) hX d_En_open_74 zc_0 ?_
      refine pf_En_36 (pc := 75) (w2 := (zwE c q ((x.1, x.2.1, (upd ((upd x.2.2 4 ((1 : Int32)))) 5 ((0 : Int32))))))) hX 9 rfl rfl (su_En_9_5 c q ((x.1, x.2.1, (upd x.2.2 4 ((1 : Int32))))) ((0 : Int32))) d_En_open_75 ?_
      refine g_aload_n (pc := 78) hX d_En_open_78 rfl 0 rfl ?_
      refine g_dup (pc := 79) hX d_En_open_79 rfl ?_
      refine gf_En_67 (pc := 80) (v := .int ((((upd x.2.2 4 ((1 : Int32))))) 8)) hX 9 rfl rfl d_En_open_80 ?_
      refine g_iconst (pc := 83) hX d_En_open_83 zc_1 ?_
      refine g_iadd (pc := 84) hX d_En_open_84 ?_
      refine pf_En_67 (pc := 85) (w2 := (zwE c q ((x.1, x.2.1, (upd ((upd ((upd x.2.2 4 ((1 : Int32)))) 5 ((0 : Int32)))) 8 (((((upd x.2.2 4 ((1 : Int32))))) 8 + (1 : Int32)))))))) hX 9 rfl rfl (su_En_9_8 c q ((x.1, x.2.1, (upd ((upd x.2.2 4 ((1 : Int32)))) 5 ((0 : Int32))))) (((((upd x.2.2 4 ((1 : Int32))))) 8 + (1 : Int32)))) d_En_open_85 ?_
      cases h
      exact g_vret (pc := 88) hX hR d_En_open_88
    · refine g_iload_n (pc := 15) hX d_En_open_15 rfl 1 rfl ?_
      refine g_ldc (pc := 16) hX d_En_open_16 zC_En_56 ?_
      refine g_imul (pc := 18) hX d_En_open_18 ?_
      refine g_sipush (pc := 19) hX d_En_open_19 zh_12345 ?_
      refine g_iadd (pc := 22) hX d_En_open_22 ?_
      refine g_istore_n (pc := 23) (L' := [(2, .int (((l2 * (1103515245 : Int32)) + (12345 : Int32)))), (0, .ref ((q 9))), (3, .int l3)]) hX d_En_open_23 rfl rfl rfl ?_
      refine g_iconst (pc := 24) hX d_En_open_24 zc_1 ?_
      refine g_iload_n (pc := 25) hX d_En_open_25 rfl 0 rfl ?_
      refine g_bipush (pc := 26) hX d_En_open_26 ze_16 ?_
      refine g_iushr (pc := 28) hX d_En_open_28 ?_
      refine g_bipush (pc := 29) hX d_En_open_29 ze_20 ?_
      refine g_irem (pc := 31) hX d_En_open_31 (by decide) ?_
      refine g_iadd (pc := 32) hX d_En_open_32 ?_
      refine g_istore (pc := 33) (L' := [(4, .int (((1 : Int32) + (zrem ((zush (((l2 * (1103515245 : Int32)) + (12345 : Int32))) ((16 : Int32)))) (20 : Int32))))), (2, .int (((l2 * (1103515245 : Int32)) + (12345 : Int32)))), (0, .ref ((q 9))), (3, .int l3)]) hX d_En_open_33 rfl rfl ?_
      refine g_aload_n (pc := 35) hX d_En_open_35 rfl 2 rfl ?_
      refine gf_En_20 (pc := 36) (v := .ref ((q 6))) hX 9 rfl rfl d_En_open_36 ?_
      refine g_iload_n (pc := 39) hX d_En_open_39 rfl 3 rfl ?_
      refine g_bipush (pc := 40) hX d_En_open_40 ze_6 ?_
      refine g_aload_n (pc := 42) hX d_En_open_42 rfl 2 rfl ?_
      refine gf_En_20 (pc := 43) (v := .ref ((q 6))) hX 9 rfl rfl d_En_open_43 ?_
      refine g_iload_n (pc := 46) hX d_En_open_46 rfl 3 rfl ?_
      refine g_iconst (pc := 47) hX d_En_open_47 zc_4 ?_
      obtain ⟨o3, e3, h⟩ := zbind h
      refine g_cvI (pc := 48)  (st := [.int ((6 : Int32)), .int l3, .ref ((q 6))]) (w' := (zwE c q x)) hX zk_Fi_at zs_Fi_at zL_En_57 (c_Fi_at c q x.1 l3 ((4 : Int32)) e3) rfl rfl rfl rfl (sp_En_Fi_0 c q x) (sp_En_Fi_0 c q x).symm 6 3 rfl rfl rfl d_En_open_48 ?_
      refine g_iload (pc := 51) hX d_En_open_51 0 rfl ?_
      refine g_iadd (pc := 53) hX d_En_open_53 ?_
      obtain ⟨o4, e4, h⟩ := zbind h
      refine g_cvV (pc := 54)  (st := []) (w' := (zwE c q ((o4, x.2.1, x.2.2)))) hX zk_Fi_put zs_Fi_put zL_En_60 (c_Fi_put c q x.1 l3 ((6 : Int32)) ((o3 + ((1 : Int32) + (zrem ((zush (((l2 * (1103515245 : Int32)) + (12345 : Int32))) ((16 : Int32)))) (20 : Int32))))) e4) rfl rfl rfl rfl (sp_En_Fi_0 c q x) (sq_En_Fi_0 c q x o4) 6 3 rfl rfl rfl d_En_open_54 ?_
      refine g_aload_n (pc := 57) hX d_En_open_57 rfl 2 rfl ?_
      refine g_iload_n (pc := 58) hX d_En_open_58 rfl 3 rfl ?_
      obtain ⟨o5, e5, h⟩ := zbind h
      refine g_cvV (pc := 59) (w1 := []) (w2 := []) (st := []) (w' := (zwE c q o5)) hX zk_En_insert zs_En_insert zL_En_63 (c_En_insert c q ((o4, x.2.1, x.2.2)) l3 e5) rfl rfl rfl rfl (zself _) (zself _).symm 9 2 rfl rfl rfl d_En_open_59 ?_
      refine g_iinc (pc := 62) (q := 3) (L' := [(3, .int ((l3 + (1 : Int32)))), (4, .int (((1 : Int32) + (zrem ((zush (((l2 * (1103515245 : Int32)) + (12345 : Int32))) ((16 : Int32)))) (20 : Int32))))), (2, .int (((l2 * (1103515245 : Int32)) + (12345 : Int32)))), (0, .ref ((q 9)))]) hX d_En_open_62 rfl zc_1 rfl rfl ?_
      refine g_goto (pc := 65) (tgt := 4) hX d_En_open_65 (by decide) ?_
      refine g_ls (L' := [(0, .ref ((q 9))), (2, .int (((l2 * (1103515245 : Int32)) + (12345 : Int32)))), (3, .int ((l3 + (1 : Int32))))]) [3, 2, 0] rfl ?_
      exact ih _ _ _ h
def k_En_open (x : zsE) (l1 : Int32) : Option (zsE) := k_En_open_4 l1 zFu l1 ((0 : Int32)) x
theorem c_En_open (c : zY) (q : Nat → Nat) (x : zsE) (l1 : Int32) {out : zsE} (h : k_En_open x l1 = some out) : KM zy_En_open zb_En_open 5 none 4 c [.ref ((q 9)), .int l1] (zwE c q x) (zwE c q out) none := zK_of zp_En rfl (Nat.le_of_ble_eq_true rfl) (zq_En c q _ _) (fun X hX hR => by
  show Go X (zwE c q x) [(0, .ref ((q 9))), (1, .int l1)] 0 []
  rw [k_En_open] at h
  refine g_iload_n (pc := 0) hX d_En_open_0 rfl 1 rfl ?_
  refine g_istore_n (pc := 1) (L' := [(2, .int l1), (0, .ref ((q 9))), (1, .int l1)]) hX d_En_open_1 rfl rfl rfl ?_
  refine g_iconst (pc := 2) hX d_En_open_2 zc_0 ?_
  refine g_istore_n (pc := 3) (L' := [(3, .int ((0 : Int32))), (2, .int l1), (0, .ref ((q 9))), (1, .int l1)]) hX d_En_open_3 rfl rfl rfl ?_
  refine g_ls (L' := [(0, .ref ((q 9))), (2, .int l1), (3, .int ((0 : Int32)))]) [2, 1, 0] rfl ?_
  exact w_En_open_4 hX hR _ _ _ _ h)
theorem d_En_startTurn_0 : decode zb_En_startTurn 0 = .ok (.aload_n 0, 1) := by decide +kernel
theorem d_En_startTurn_1 : decode zb_En_startTurn 1 = .ok (.iconst 0, 1) := by decide +kernel
theorem d_En_startTurn_2 : decode zb_En_startTurn 2 = .ok (.putfield 84, 3) := by decide +kernel
theorem d_En_startTurn_5 : decode zb_En_startTurn 5 = .ok (.aload_n 0, 1) := by decide +kernel
theorem d_En_startTurn_6 : decode zb_En_startTurn 6 = .ok (.iconst 0, 1) := by decide +kernel
theorem d_En_startTurn_7 : decode zb_En_startTurn 7 = .ok (.putfield 87, 3) := by decide +kernel
theorem d_En_startTurn_10 : decode zb_En_startTurn 10 = .ok (.aload_n 0, 1) := by decide +kernel
theorem d_En_startTurn_11 : decode zb_En_startTurn 11 = .ok (.dup, 1) := by decide +kernel
theorem d_En_startTurn_12 : decode zb_En_startTurn 12 = .ok (.getfield 91, 3) := by decide +kernel
theorem d_En_startTurn_15 : decode zb_En_startTurn 15 = .ok (.iconst 1, 1) := by decide +kernel
theorem d_En_startTurn_16 : decode zb_En_startTurn 16 = .ok (.iadd, 1) := by decide +kernel
theorem d_En_startTurn_17 : decode zb_En_startTurn 17 = .ok (.putfield 91, 3) := by decide +kernel
theorem d_En_startTurn_20 : decode zb_En_startTurn 20 = .ok (.aload_n 0, 1) := by decide +kernel
theorem d_En_startTurn_21 : decode zb_En_startTurn 21 = .ok (.getfield 28, 3) := by decide +kernel
theorem d_En_startTurn_24 : decode zb_En_startTurn 24 = .ok (.bipush 8, 2) := by decide +kernel
theorem d_En_startTurn_26 : decode zb_En_startTurn 26 = .ok (.aload_n 0, 1) := by decide +kernel
theorem d_En_startTurn_27 : decode zb_En_startTurn 27 = .ok (.invokevirtual 94, 3) := by decide +kernel
theorem d_En_startTurn_30 : decode zb_En_startTurn 30 = .ok (.aload_n 0, 1) := by decide +kernel
theorem d_En_startTurn_31 : decode zb_En_startTurn 31 = .ok (.getfield 32, 3) := by decide +kernel
theorem d_En_startTurn_34 : decode zb_En_startTurn 34 = .ok (.invokevirtual 97, 3) := by decide +kernel
theorem d_En_startTurn_37 : decode zb_En_startTurn 37 = .ok (.aload_n 0, 1) := by decide +kernel
theorem d_En_startTurn_38 : decode zb_En_startTurn 38 = .ok (.getfield 24, 3) := by decide +kernel
theorem d_En_startTurn_41 : decode zb_En_startTurn 41 = .ok (.aload_n 0, 1) := by decide +kernel
theorem d_En_startTurn_42 : decode zb_En_startTurn 42 = .ok (.invokevirtual 94, 3) := by decide +kernel
theorem d_En_startTurn_45 : decode zb_En_startTurn 45 = .ok (.invokevirtual 102, 3) := by decide +kernel
theorem d_En_startTurn_48 : decode zb_En_startTurn 48 = .ok (.aload_n 0, 1) := by decide +kernel
theorem d_En_startTurn_49 : decode zb_En_startTurn 49 = .ok (.getfield 20, 3) := by decide +kernel
theorem d_En_startTurn_52 : decode zb_En_startTurn 52 = .ok (.aload_n 0, 1) := by decide +kernel
theorem d_En_startTurn_53 : decode zb_En_startTurn 53 = .ok (.invokevirtual 94, 3) := by decide +kernel
theorem d_En_startTurn_56 : decode zb_En_startTurn 56 = .ok (.invokevirtual 107, 3) := by decide +kernel
theorem d_En_startTurn_59 : decode zb_En_startTurn 59 = .ok (.return_, 1) := by decide +kernel
def k_En_startTurn (x : zsE) : Option (zsE) := (k_En_current ((x.1, x.2.1, (upd ((upd ((upd x.2.2 6 ((0 : Int32)))) 7 ((0 : Int32)))) 9 (((((upd x.2.2 6 ((0 : Int32))))) 9 + (1 : Int32))))))).bind fun o1 => (k_Jo_write x.1.1.1 ((8 : Int32)) o1 ((((upd ((upd x.2.2 6 ((0 : Int32)))) 7 ((0 : Int32))))) 4)).bind fun o2 => (k_En_current ((((o2, x.1.1.2.1, x.1.1.2.2), x.1.2.1, x.1.2.2), x.2.1, (upd ((upd ((upd x.2.2 6 ((0 : Int32)))) 7 ((0 : Int32)))) 9 (((((upd x.2.2 6 ((0 : Int32))))) 9 + (1 : Int32))))))).bind fun o3 => (k_Co_countSourceTurn ((o2, x.1.1.2.1, x.1.1.2.2)) o3).bind fun o4 => (k_En_current (((o4, x.1.2.1, x.1.2.2), x.2.1, (upd ((upd ((upd x.2.2 6 ((0 : Int32)))) 7 ((0 : Int32)))) 9 (((((upd x.2.2 6 ((0 : Int32))))) 9 + (1 : Int32))))))).bind fun o5 => (k_Fi_sufferPoisons ((o4, x.1.2.1, x.1.2.2)) o5).bind fun o6 => some ((o6, x.2.1, (upd ((upd ((upd x.2.2 6 ((0 : Int32)))) 7 ((0 : Int32)))) 9 (((((upd x.2.2 6 ((0 : Int32))))) 9 + (1 : Int32))))))
theorem c_En_startTurn (c : zY) (q : Nat → Nat) (x : zsE) {out : zsE} (h : k_En_startTurn x = some out) : KM zy_En_startTurn zb_En_startTurn 1 none 6 c [.ref ((q 9))] (zwE c q x) (zwE c q out) none := zK_of zp_En rfl (Nat.le_of_ble_eq_true rfl) (zq_En c q _ _) (fun X hX hR => by
  show Go X (zwE c q x) [(0, .ref ((q 9)))] 0 []
  rw [k_En_startTurn] at h
  refine g_aload_n (pc := 0) hX d_En_startTurn_0 rfl 0 rfl ?_
  refine g_iconst (pc := 1) hX d_En_startTurn_1 zc_0 ?_
  refine pf_En_84 (pc := 2) (w2 := (zwE c q ((x.1, x.2.1, (upd x.2.2 6 ((0 : Int32))))))) hX 9 rfl rfl (su_En_9_6 c q x ((0 : Int32))) d_En_startTurn_2 ?_
  refine g_aload_n (pc := 5) hX d_En_startTurn_5 rfl 0 rfl ?_
  refine g_iconst (pc := 6) hX d_En_startTurn_6 zc_0 ?_
  refine pf_En_87 (pc := 7) (w2 := (zwE c q ((x.1, x.2.1, (upd ((upd x.2.2 6 ((0 : Int32)))) 7 ((0 : Int32))))))) hX (Or.inl rfl) 9 rfl rfl (su_En_9_7 c q ((x.1, x.2.1, (upd x.2.2 6 ((0 : Int32))))) ((0 : Int32))) d_En_startTurn_7 ?_
  refine g_aload_n (pc := 10) hX d_En_startTurn_10 rfl 0 rfl ?_
  refine g_dup (pc := 11) hX d_En_startTurn_11 rfl ?_
  refine gf_En_91 (pc := 12) (v := .int ((((upd x.2.2 6 ((0 : Int32))))) 9)) hX 9 rfl rfl d_En_startTurn_12 ?_
  refine g_iconst (pc := 15) hX d_En_startTurn_15 zc_1 ?_
  refine g_iadd (pc := 16) hX d_En_startTurn_16 ?_
  refine pf_En_91 (pc := 17) (w2 := (zwE c q ((x.1, x.2.1, (upd ((upd ((upd x.2.2 6 ((0 : Int32)))) 7 ((0 : Int32)))) 9 (((((upd x.2.2 6 ((0 : Int32))))) 9 + (1 : Int32)))))))) hX 9 rfl rfl (su_En_9_9 c q ((x.1, x.2.1, (upd ((upd x.2.2 6 ((0 : Int32)))) 7 ((0 : Int32))))) (((((upd x.2.2 6 ((0 : Int32))))) 9 + (1 : Int32)))) d_En_startTurn_17 ?_
  refine g_aload_n (pc := 20) hX d_En_startTurn_20 rfl 0 rfl ?_
  refine gf_En_28 (pc := 21) (v := .ref ((q 0))) hX 9 rfl rfl d_En_startTurn_21 ?_
  refine g_bipush (pc := 24) hX d_En_startTurn_24 ze_8 ?_
  refine g_aload_n (pc := 26) hX d_En_startTurn_26 rfl 0 rfl ?_
  obtain ⟨o1, e1, h⟩ := zbind h
  refine g_cvI (pc := 27) (w1 := []) (w2 := []) (st := [.int ((8 : Int32)), .ref ((q 0))]) (w' := (zwE c q ((x.1, x.2.1, (upd ((upd ((upd x.2.2 6 ((0 : Int32)))) 7 ((0 : Int32)))) 9 (((((upd x.2.2 6 ((0 : Int32))))) 9 + (1 : Int32)))))))) hX zk_En_current zs_En_current zL_En_94 (c_En_current c q ((x.1, x.2.1, (upd ((upd ((upd x.2.2 6 ((0 : Int32)))) 7 ((0 : Int32)))) 9 (((((upd x.2.2 6 ((0 : Int32))))) 9 + (1 : Int32)))))) e1) rfl rfl rfl rfl (zself _) (zself _).symm 9 2 rfl rfl rfl d_En_startTurn_27 ?_
  refine g_aload_n (pc := 30) hX d_En_startTurn_30 rfl 0 rfl ?_
  refine gf_En_32 (pc := 31) (v := .int ((((upd ((upd x.2.2 6 ((0 : Int32)))) 7 ((0 : Int32))))) 4)) hX 9 rfl rfl d_En_startTurn_31 ?_
  obtain ⟨o2, e2, h⟩ := zbind h
  refine g_cvV (pc := 34)  (st := []) (w' := (zwE c q ((((o2, x.1.1.2.1, x.1.1.2.2), x.1.2.1, x.1.2.2), x.2.1, (upd ((upd ((upd x.2.2 6 ((0 : Int32)))) 7 ((0 : Int32)))) 9 (((((upd x.2.2 6 ((0 : Int32))))) 9 + (1 : Int32)))))))) hX zk_Jo_write zs_Jo_write zL_En_97 (c_Jo_write c q x.1.1.1 ((8 : Int32)) o1 ((((upd ((upd x.2.2 6 ((0 : Int32)))) 7 ((0 : Int32))))) 4) e2) rfl rfl rfl rfl (sp_En_Jo_0 c q ((x.1, x.2.1, (upd ((upd ((upd x.2.2 6 ((0 : Int32)))) 7 ((0 : Int32)))) 9 (((((upd x.2.2 6 ((0 : Int32))))) 9 + (1 : Int32))))))) (sq_En_Jo_0 c q ((x.1, x.2.1, (upd ((upd ((upd x.2.2 6 ((0 : Int32)))) 7 ((0 : Int32)))) 9 (((((upd x.2.2 6 ((0 : Int32))))) 9 + (1 : Int32)))))) o2) 0 4 rfl rfl rfl d_En_startTurn_34 ?_
  refine g_aload_n (pc := 37) hX d_En_startTurn_37 rfl 0 rfl ?_
  refine gf_En_24 (pc := 38) (v := .ref ((q 2))) hX 9 rfl rfl d_En_startTurn_38 ?_
  refine g_aload_n (pc := 41) hX d_En_startTurn_41 rfl 0 rfl ?_
  obtain ⟨o3, e3, h⟩ := zbind h
  refine g_cvI (pc := 42) (w1 := []) (w2 := []) (st := [.ref ((q 2))]) (w' := (zwE c q ((((o2, x.1.1.2.1, x.1.1.2.2), x.1.2.1, x.1.2.2), x.2.1, (upd ((upd ((upd x.2.2 6 ((0 : Int32)))) 7 ((0 : Int32)))) 9 (((((upd x.2.2 6 ((0 : Int32))))) 9 + (1 : Int32)))))))) hX zk_En_current zs_En_current zL_En_94 (c_En_current c q ((((o2, x.1.1.2.1, x.1.1.2.2), x.1.2.1, x.1.2.2), x.2.1, (upd ((upd ((upd x.2.2 6 ((0 : Int32)))) 7 ((0 : Int32)))) 9 (((((upd x.2.2 6 ((0 : Int32))))) 9 + (1 : Int32)))))) e3) rfl rfl rfl rfl (zself _) (zself _).symm 9 2 rfl rfl rfl d_En_startTurn_42 ?_
  obtain ⟨o4, e4, h⟩ := zbind h
  refine g_cvV (pc := 45)  (st := []) (w' := (zwE c q (((o4, x.1.2.1, x.1.2.2), x.2.1, (upd ((upd ((upd x.2.2 6 ((0 : Int32)))) 7 ((0 : Int32)))) 9 (((((upd x.2.2 6 ((0 : Int32))))) 9 + (1 : Int32)))))))) hX zk_Co_countSourceTurn zs_Co_countSourceTurn zL_En_102 (c_Co_countSourceTurn c q ((o2, x.1.1.2.1, x.1.1.2.2)) o3 e4) rfl rfl rfl rfl (sp_En_Co_0 c q ((((o2, x.1.1.2.1, x.1.1.2.2), x.1.2.1, x.1.2.2), x.2.1, (upd ((upd ((upd x.2.2 6 ((0 : Int32)))) 7 ((0 : Int32)))) 9 (((((upd x.2.2 6 ((0 : Int32))))) 9 + (1 : Int32))))))) (sq_En_Co_0 c q ((((o2, x.1.1.2.1, x.1.1.2.2), x.1.2.1, x.1.2.2), x.2.1, (upd ((upd ((upd x.2.2 6 ((0 : Int32)))) 7 ((0 : Int32)))) 9 (((((upd x.2.2 6 ((0 : Int32))))) 9 + (1 : Int32)))))) o4) 2 1 rfl rfl rfl d_En_startTurn_45 ?_
  refine g_aload_n (pc := 48) hX d_En_startTurn_48 rfl 0 rfl ?_
  refine gf_En_20 (pc := 49) (v := .ref ((q 6))) hX 9 rfl rfl d_En_startTurn_49 ?_
  refine g_aload_n (pc := 52) hX d_En_startTurn_52 rfl 0 rfl ?_
  obtain ⟨o5, e5, h⟩ := zbind h
  refine g_cvI (pc := 53) (w1 := []) (w2 := []) (st := [.ref ((q 6))]) (w' := (zwE c q (((o4, x.1.2.1, x.1.2.2), x.2.1, (upd ((upd ((upd x.2.2 6 ((0 : Int32)))) 7 ((0 : Int32)))) 9 (((((upd x.2.2 6 ((0 : Int32))))) 9 + (1 : Int32)))))))) hX zk_En_current zs_En_current zL_En_94 (c_En_current c q (((o4, x.1.2.1, x.1.2.2), x.2.1, (upd ((upd ((upd x.2.2 6 ((0 : Int32)))) 7 ((0 : Int32)))) 9 (((((upd x.2.2 6 ((0 : Int32))))) 9 + (1 : Int32)))))) e5) rfl rfl rfl rfl (zself _) (zself _).symm 9 2 rfl rfl rfl d_En_startTurn_53 ?_
  obtain ⟨o6, e6, h⟩ := zbind h
  refine g_cvV (pc := 56)  (st := []) (w' := (zwE c q ((o6, x.2.1, (upd ((upd ((upd x.2.2 6 ((0 : Int32)))) 7 ((0 : Int32)))) 9 (((((upd x.2.2 6 ((0 : Int32))))) 9 + (1 : Int32)))))))) hX zk_Fi_sufferPoisons zs_Fi_sufferPoisons zL_En_107 (c_Fi_sufferPoisons c q ((o4, x.1.2.1, x.1.2.2)) o5 e6) rfl rfl rfl rfl (sp_En_Fi_0 c q (((o4, x.1.2.1, x.1.2.2), x.2.1, (upd ((upd ((upd x.2.2 6 ((0 : Int32)))) 7 ((0 : Int32)))) 9 (((((upd x.2.2 6 ((0 : Int32))))) 9 + (1 : Int32))))))) (sq_En_Fi_0 c q (((o4, x.1.2.1, x.1.2.2), x.2.1, (upd ((upd ((upd x.2.2 6 ((0 : Int32)))) 7 ((0 : Int32)))) 9 (((((upd x.2.2 6 ((0 : Int32))))) 9 + (1 : Int32)))))) o6) 6 3 rfl rfl rfl d_En_startTurn_56 ?_
  cases h
  exact g_vret (pc := 59) hX hR d_En_startTurn_59)
theorem d_En_leaveTurn_0 : decode zb_En_leaveTurn 0 = .ok (.aload_n 0, 1) := by decide +kernel
theorem d_En_leaveTurn_1 : decode zb_En_leaveTurn 1 = .ok (.getfield 28, 3) := by decide +kernel
theorem d_En_leaveTurn_4 : decode zb_En_leaveTurn 4 = .ok (.bipush 9, 2) := by decide +kernel
theorem d_En_leaveTurn_6 : decode zb_En_leaveTurn 6 = .ok (.aload_n 0, 1) := by decide +kernel
theorem d_En_leaveTurn_7 : decode zb_En_leaveTurn 7 = .ok (.invokevirtual 94, 3) := by decide +kernel
theorem d_En_leaveTurn_10 : decode zb_En_leaveTurn 10 = .ok (.aload_n 0, 1) := by decide +kernel
theorem d_En_leaveTurn_11 : decode zb_En_leaveTurn 11 = .ok (.getfield 32, 3) := by decide +kernel
theorem d_En_leaveTurn_14 : decode zb_En_leaveTurn 14 = .ok (.invokevirtual 97, 3) := by decide +kernel
theorem d_En_leaveTurn_17 : decode zb_En_leaveTurn 17 = .ok (.aload_n 0, 1) := by decide +kernel
theorem d_En_leaveTurn_18 : decode zb_En_leaveTurn 18 = .ok (.getfield 24, 3) := by decide +kernel
theorem d_En_leaveTurn_21 : decode zb_En_leaveTurn 21 = .ok (.aload_n 0, 1) := by decide +kernel
theorem d_En_leaveTurn_22 : decode zb_En_leaveTurn 22 = .ok (.invokevirtual 94, 3) := by decide +kernel
theorem d_En_leaveTurn_25 : decode zb_En_leaveTurn 25 = .ok (.invokevirtual 110, 3) := by decide +kernel
theorem d_En_leaveTurn_28 : decode zb_En_leaveTurn 28 = .ok (.aload_n 0, 1) := by decide +kernel
theorem d_En_leaveTurn_29 : decode zb_En_leaveTurn 29 = .ok (.dup, 1) := by decide +kernel
theorem d_En_leaveTurn_30 : decode zb_En_leaveTurn 30 = .ok (.getfield 36, 3) := by decide +kernel
theorem d_En_leaveTurn_33 : decode zb_En_leaveTurn 33 = .ok (.iconst 1, 1) := by decide +kernel
theorem d_En_leaveTurn_34 : decode zb_En_leaveTurn 34 = .ok (.iadd, 1) := by decide +kernel
theorem d_En_leaveTurn_35 : decode zb_En_leaveTurn 35 = .ok (.putfield 36, 3) := by decide +kernel
theorem d_En_leaveTurn_38 : decode zb_En_leaveTurn 38 = .ok (.aload_n 0, 1) := by decide +kernel
theorem d_En_leaveTurn_39 : decode zb_En_leaveTurn 39 = .ok (.getfield 36, 3) := by decide +kernel
theorem d_En_leaveTurn_42 : decode zb_En_leaveTurn 42 = .ok (.aload_n 0, 1) := by decide +kernel
theorem d_En_leaveTurn_43 : decode zb_En_leaveTurn 43 = .ok (.getfield 14, 3) := by decide +kernel
theorem d_En_leaveTurn_46 : decode zb_En_leaveTurn 46 = .ok (.invokevirtual 47, 3) := by decide +kernel
theorem d_En_leaveTurn_49 : decode zb_En_leaveTurn 49 = .ok (.if_icmp .lt 18, 3) := by decide +kernel
theorem d_En_leaveTurn_52 : decode zb_En_leaveTurn 52 = .ok (.aload_n 0, 1) := by decide +kernel
theorem d_En_leaveTurn_53 : decode zb_En_leaveTurn 53 = .ok (.iconst 0, 1) := by decide +kernel
theorem d_En_leaveTurn_54 : decode zb_En_leaveTurn 54 = .ok (.putfield 36, 3) := by decide +kernel
theorem d_En_leaveTurn_57 : decode zb_En_leaveTurn 57 = .ok (.aload_n 0, 1) := by decide +kernel
theorem d_En_leaveTurn_58 : decode zb_En_leaveTurn 58 = .ok (.dup, 1) := by decide +kernel
theorem d_En_leaveTurn_59 : decode zb_En_leaveTurn 59 = .ok (.getfield 32, 3) := by decide +kernel
theorem d_En_leaveTurn_62 : decode zb_En_leaveTurn 62 = .ok (.iconst 1, 1) := by decide +kernel
theorem d_En_leaveTurn_63 : decode zb_En_leaveTurn 63 = .ok (.iadd, 1) := by decide +kernel
theorem d_En_leaveTurn_64 : decode zb_En_leaveTurn 64 = .ok (.putfield 32, 3) := by decide +kernel
theorem d_En_leaveTurn_67 : decode zb_En_leaveTurn 67 = .ok (.return_, 1) := by decide +kernel
def k_En_leaveTurn (x : zsE) : Option (zsE) := (k_En_current x).bind fun o1 => (k_Jo_write x.1.1.1 ((9 : Int32)) o1 ((x.2.2 4))).bind fun o2 => (k_En_current ((((o2, x.1.1.2.1, x.1.1.2.2), x.1.2.1, x.1.2.2), x.2.1, x.2.2))).bind fun o3 => (k_Co_countTurnEnd ((o2, x.1.1.2.1, x.1.1.2.2)) o3).bind fun o4 => (k_Ta_used 1 8 x.2.1).bind fun o5 => (if (((x.2.2 5) + (1 : Int32))) < o5 then some (((o4, x.1.2.1, x.1.2.2), x.2.1, (upd x.2.2 5 (((x.2.2 5) + (1 : Int32)))))) else some (((o4, x.1.2.1, x.1.2.2), x.2.1, (upd ((upd ((upd x.2.2 5 (((x.2.2 5) + (1 : Int32))))) 5 ((0 : Int32)))) 4 (((((upd x.2.2 5 (((x.2.2 5) + (1 : Int32)))))) 4 + (1 : Int32)))))))
theorem c_En_leaveTurn (c : zY) (q : Nat → Nat) (x : zsE) {out : zsE} (h : k_En_leaveTurn x = some out) : KM zy_En_leaveTurn zb_En_leaveTurn 1 none 4 c [.ref ((q 9))] (zwE c q x) (zwE c q out) none := zK_of zp_En rfl (Nat.le_of_ble_eq_true rfl) (zq_En c q _ _) (fun X hX hR => by
  show Go X (zwE c q x) [(0, .ref ((q 9)))] 0 []
  rw [k_En_leaveTurn] at h
  refine g_aload_n (pc := 0) hX d_En_leaveTurn_0 rfl 0 rfl ?_
  refine gf_En_28 (pc := 1) (v := .ref ((q 0))) hX 9 rfl rfl d_En_leaveTurn_1 ?_
  refine g_bipush (pc := 4) hX d_En_leaveTurn_4 ze_9 ?_
  refine g_aload_n (pc := 6) hX d_En_leaveTurn_6 rfl 0 rfl ?_
  obtain ⟨o1, e1, h⟩ := zbind h
  refine g_cvI (pc := 7) (w1 := []) (w2 := []) (st := [.int ((9 : Int32)), .ref ((q 0))]) (w' := (zwE c q x)) hX zk_En_current zs_En_current zL_En_94 (c_En_current c q x e1) rfl rfl rfl rfl (zself _) (zself _).symm 9 2 rfl rfl rfl d_En_leaveTurn_7 ?_
  refine g_aload_n (pc := 10) hX d_En_leaveTurn_10 rfl 0 rfl ?_
  refine gf_En_32 (pc := 11) (v := .int ((x.2.2 4))) hX 9 rfl rfl d_En_leaveTurn_11 ?_
  obtain ⟨o2, e2, h⟩ := zbind h
  refine g_cvV (pc := 14)  (st := []) (w' := (zwE c q ((((o2, x.1.1.2.1, x.1.1.2.2), x.1.2.1, x.1.2.2), x.2.1, x.2.2)))) hX zk_Jo_write zs_Jo_write zL_En_97 (c_Jo_write c q x.1.1.1 ((9 : Int32)) o1 ((x.2.2 4)) e2) rfl rfl rfl rfl (sp_En_Jo_0 c q x) (sq_En_Jo_0 c q x o2) 0 4 rfl rfl rfl d_En_leaveTurn_14 ?_
  refine g_aload_n (pc := 17) hX d_En_leaveTurn_17 rfl 0 rfl ?_
  refine gf_En_24 (pc := 18) (v := .ref ((q 2))) hX 9 rfl rfl d_En_leaveTurn_18 ?_
  refine g_aload_n (pc := 21) hX d_En_leaveTurn_21 rfl 0 rfl ?_
  obtain ⟨o3, e3, h⟩ := zbind h
  refine g_cvI (pc := 22) (w1 := []) (w2 := []) (st := [.ref ((q 2))]) (w' := (zwE c q ((((o2, x.1.1.2.1, x.1.1.2.2), x.1.2.1, x.1.2.2), x.2.1, x.2.2)))) hX zk_En_current zs_En_current zL_En_94 (c_En_current c q ((((o2, x.1.1.2.1, x.1.1.2.2), x.1.2.1, x.1.2.2), x.2.1, x.2.2)) e3) rfl rfl rfl rfl (zself _) (zself _).symm 9 2 rfl rfl rfl d_En_leaveTurn_22 ?_
  obtain ⟨o4, e4, h⟩ := zbind h
  refine g_cvV (pc := 25)  (st := []) (w' := (zwE c q (((o4, x.1.2.1, x.1.2.2), x.2.1, x.2.2)))) hX zk_Co_countTurnEnd zs_Co_countTurnEnd zL_En_110 (c_Co_countTurnEnd c q ((o2, x.1.1.2.1, x.1.1.2.2)) o3 e4) rfl rfl rfl rfl (sp_En_Co_0 c q ((((o2, x.1.1.2.1, x.1.1.2.2), x.1.2.1, x.1.2.2), x.2.1, x.2.2))) (sq_En_Co_0 c q ((((o2, x.1.1.2.1, x.1.1.2.2), x.1.2.1, x.1.2.2), x.2.1, x.2.2)) o4) 2 1 rfl rfl rfl d_En_leaveTurn_25 ?_
  refine g_aload_n (pc := 28) hX d_En_leaveTurn_28 rfl 0 rfl ?_
  refine g_dup (pc := 29) hX d_En_leaveTurn_29 rfl ?_
  refine gf_En_36 (pc := 30) (v := .int ((x.2.2 5))) hX 9 rfl rfl d_En_leaveTurn_30 ?_
  refine g_iconst (pc := 33) hX d_En_leaveTurn_33 zc_1 ?_
  refine g_iadd (pc := 34) hX d_En_leaveTurn_34 ?_
  refine pf_En_36 (pc := 35) (w2 := (zwE c q (((o4, x.1.2.1, x.1.2.2), x.2.1, (upd x.2.2 5 (((x.2.2 5) + (1 : Int32)))))))) hX 9 rfl rfl (su_En_9_5 c q (((o4, x.1.2.1, x.1.2.2), x.2.1, x.2.2)) (((x.2.2 5) + (1 : Int32)))) d_En_leaveTurn_35 ?_
  refine g_aload_n (pc := 38) hX d_En_leaveTurn_38 rfl 0 rfl ?_
  refine gf_En_36 (pc := 39) (v := .int ((((x.2.2 5) + (1 : Int32))))) hX 9 rfl rfl d_En_leaveTurn_39 ?_
  refine g_aload_n (pc := 42) hX d_En_leaveTurn_42 rfl 0 rfl ?_
  refine gf_En_14 (pc := 43) (v := .ref ((q 10))) hX 9 rfl rfl d_En_leaveTurn_43 ?_
  obtain ⟨o5, e5, h⟩ := zbind h
  refine g_cvI (pc := 46)  (st := [.int ((((x.2.2 5) + (1 : Int32))))]) (w' := (zwE c q (((o4, x.1.2.1, x.1.2.2), x.2.1, (upd x.2.2 5 (((x.2.2 5) + (1 : Int32)))))))) hX zk_Ta_used zs_Ta_used zL_En_47 (c_Ta_used c (q 10) (q 11) 1 8 x.2.1 e5) rfl rfl rfl rfl (sp_En_Ta_10 c q (((o4, x.1.2.1, x.1.2.2), x.2.1, (upd x.2.2 5 (((x.2.2 5) + (1 : Int32))))))) (sp_En_Ta_10 c q (((o4, x.1.2.1, x.1.2.2), x.2.1, (upd x.2.2 5 (((x.2.2 5) + (1 : Int32))))))).symm 10 6 rfl rfl rfl d_En_leaveTurn_46 ?_
  refine g_icmp_lt (pc := 49) (tgt := 67) hX d_En_leaveTurn_49 (by decide) h (fun c6 h => ?_) (fun c6 h => ?_)
  · cases h
    exact g_vret (pc := 67) hX hR d_En_leaveTurn_67
  · refine g_aload_n (pc := 52) hX d_En_leaveTurn_52 rfl 0 rfl ?_
    refine g_iconst (pc := 53) hX d_En_leaveTurn_53 zc_0 ?_
    refine pf_En_36 (pc := 54) (w2 := (zwE c q (((o4, x.1.2.1, x.1.2.2), x.2.1, (upd ((upd x.2.2 5 (((x.2.2 5) + (1 : Int32))))) 5 ((0 : Int32))))))) hX 9 rfl rfl (su_En_9_5 c q (((o4, x.1.2.1, x.1.2.2), x.2.1, (upd x.2.2 5 (((x.2.2 5) + (1 : Int32)))))) ((0 : Int32))) d_En_leaveTurn_54 ?_
    refine g_aload_n (pc := 57) hX d_En_leaveTurn_57 rfl 0 rfl ?_
    refine g_dup (pc := 58) hX d_En_leaveTurn_58 rfl ?_
    refine gf_En_32 (pc := 59) (v := .int ((((upd x.2.2 5 (((x.2.2 5) + (1 : Int32)))))) 4)) hX 9 rfl rfl d_En_leaveTurn_59 ?_
    refine g_iconst (pc := 62) hX d_En_leaveTurn_62 zc_1 ?_
    refine g_iadd (pc := 63) hX d_En_leaveTurn_63 ?_
    refine pf_En_32 (pc := 64) (w2 := (zwE c q (((o4, x.1.2.1, x.1.2.2), x.2.1, (upd ((upd ((upd x.2.2 5 (((x.2.2 5) + (1 : Int32))))) 5 ((0 : Int32)))) 4 (((((upd x.2.2 5 (((x.2.2 5) + (1 : Int32)))))) 4 + (1 : Int32)))))))) hX 9 rfl rfl (su_En_9_4 c q (((o4, x.1.2.1, x.1.2.2), x.2.1, (upd ((upd x.2.2 5 (((x.2.2 5) + (1 : Int32))))) 5 ((0 : Int32))))) (((((upd x.2.2 5 (((x.2.2 5) + (1 : Int32)))))) 4 + (1 : Int32)))) d_En_leaveTurn_64 ?_
    cases h
    exact g_vret (pc := 67) hX hR d_En_leaveTurn_67)
theorem d_En_comesLater_0 : decode zb_En_comesLater 0 = .ok (.aload_n 0, 1) := by decide +kernel
theorem d_En_comesLater_1 : decode zb_En_comesLater 1 = .ok (.iload_n 1, 1) := by decide +kernel
theorem d_En_comesLater_2 : decode zb_En_comesLater 2 = .ok (.invokevirtual 113, 3) := by decide +kernel
theorem d_En_comesLater_5 : decode zb_En_comesLater 5 = .ok (.aload_n 0, 1) := by decide +kernel
theorem d_En_comesLater_6 : decode zb_En_comesLater 6 = .ok (.getfield 36, 3) := by decide +kernel
theorem d_En_comesLater_9 : decode zb_En_comesLater 9 = .ok (.if_icmp .le 7, 3) := by decide +kernel
theorem d_En_comesLater_12 : decode zb_En_comesLater 12 = .ok (.iconst 1, 1) := by decide +kernel
theorem d_En_comesLater_13 : decode zb_En_comesLater 13 = .ok (.goto 4, 3) := by decide +kernel
theorem d_En_comesLater_16 : decode zb_En_comesLater 16 = .ok (.iconst 0, 1) := by decide +kernel
theorem d_En_comesLater_17 : decode zb_En_comesLater 17 = .ok (.ireturn, 1) := by decide +kernel
def k_En_comesLater (x : zsE) (l1 : Int32) : Option (Int32) := (k_En_placeOf x l1).bind fun o1 => (if (x.2.2 5) < o1 then some ((1 : Int32)) else some ((0 : Int32)))
theorem c_En_comesLater (c : zY) (q : Nat → Nat) (x : zsE) (l1 : Int32) {out : Int32} (h : k_En_comesLater x l1 = some out) : KM zy_En_comesLater zb_En_comesLater 2 (some .boolean) 2 c [.ref ((q 9)), .int l1] (zwE c q x) (zwE c q x) (some (.int out)) := zK_of zp_En rfl (Nat.le_of_ble_eq_true rfl) (zq_En c q _ _) (fun X hX hR => by
  show Go X (zwE c q x) [(0, .ref ((q 9))), (1, .int l1)] 0 []
  rw [k_En_comesLater] at h
  refine g_aload_n (pc := 0) hX d_En_comesLater_0 rfl 0 rfl ?_
  refine g_iload_n (pc := 1) hX d_En_comesLater_1 rfl 1 rfl ?_
  obtain ⟨o1, e1, h⟩ := zbind h
  refine g_cvI (pc := 2) (w1 := []) (w2 := []) (st := []) (w' := (zwE c q x)) hX zk_En_placeOf zs_En_placeOf zL_En_113 (c_En_placeOf c q x l1 e1) rfl rfl rfl rfl (zself _) (zself _).symm 9 2 rfl rfl rfl d_En_comesLater_2 ?_
  refine g_aload_n (pc := 5) hX d_En_comesLater_5 rfl 0 rfl ?_
  refine gf_En_36 (pc := 6) (v := .int ((x.2.2 5))) hX 9 rfl rfl d_En_comesLater_6 ?_
  refine g_icmp_le (pc := 9) (tgt := 16) hX d_En_comesLater_9 (by decide) h (fun c2 h => ?_) (fun c2 h => ?_)
  · refine g_iconst (pc := 16) hX d_En_comesLater_16 zc_0 ?_
    cases h
    exact g_zret (pc := 17) hX hR (Or.inl rfl) d_En_comesLater_17
  · refine g_iconst (pc := 12) hX d_En_comesLater_12 zc_1 ?_
    refine g_goto (pc := 13) (tgt := 17) hX d_En_comesLater_13 (by decide) ?_
    cases h
    exact g_zret (pc := 17) hX hR (Or.inr rfl) d_En_comesLater_17)
theorem d_En_putBehind_0 : decode zb_En_putBehind 0 = .ok (.aload_n 0, 1) := by decide +kernel
theorem d_En_putBehind_1 : decode zb_En_putBehind 1 = .ok (.invokevirtual 94, 3) := by decide +kernel
theorem d_En_putBehind_4 : decode zb_En_putBehind 4 = .ok (.istore_n 2, 1) := by decide +kernel
theorem d_En_putBehind_5 : decode zb_En_putBehind 5 = .ok (.aload_n 0, 1) := by decide +kernel
theorem d_En_putBehind_6 : decode zb_En_putBehind 6 = .ok (.iload_n 1, 1) := by decide +kernel
theorem d_En_putBehind_7 : decode zb_En_putBehind 7 = .ok (.invokevirtual 113, 3) := by decide +kernel
theorem d_En_putBehind_10 : decode zb_En_putBehind 10 = .ok (.istore_n 3, 1) := by decide +kernel
theorem d_En_putBehind_11 : decode zb_En_putBehind 11 = .ok (.aload_n 0, 1) := by decide +kernel
theorem d_En_putBehind_12 : decode zb_En_putBehind 12 = .ok (.getfield 36, 3) := by decide +kernel
theorem d_En_putBehind_15 : decode zb_En_putBehind 15 = .ok (.istore 4, 2) := by decide +kernel
theorem d_En_putBehind_17 : decode zb_En_putBehind 17 = .ok (.iload 4, 2) := by decide +kernel
theorem d_En_putBehind_19 : decode zb_En_putBehind 19 = .ok (.iload_n 3, 1) := by decide +kernel
theorem d_En_putBehind_20 : decode zb_En_putBehind 20 = .ok (.if_icmp .ge 22, 3) := by decide +kernel
theorem d_En_putBehind_23 : decode zb_En_putBehind 23 = .ok (.aload_n 0, 1) := by decide +kernel
theorem d_En_putBehind_24 : decode zb_En_putBehind 24 = .ok (.getfield 14, 3) := by decide +kernel
theorem d_En_putBehind_27 : decode zb_En_putBehind 27 = .ok (.iload 4, 2) := by decide +kernel
theorem d_En_putBehind_29 : decode zb_En_putBehind 29 = .ok (.iconst 1, 1) := by decide +kernel
theorem d_En_putBehind_30 : decode zb_En_putBehind 30 = .ok (.iadd, 1) := by decide +kernel
theorem d_En_putBehind_31 : decode zb_En_putBehind 31 = .ok (.iload 4, 2) := by decide +kernel
theorem d_En_putBehind_33 : decode zb_En_putBehind 33 = .ok (.invokevirtual 77, 3) := by decide +kernel
theorem d_En_putBehind_36 : decode zb_En_putBehind 36 = .ok (.iinc 4 1, 3) := by decide +kernel
theorem d_En_putBehind_39 : decode zb_En_putBehind 39 = .ok (.goto (-22), 3) := by decide +kernel
theorem d_En_putBehind_42 : decode zb_En_putBehind 42 = .ok (.aload_n 0, 1) := by decide +kernel
theorem d_En_putBehind_43 : decode zb_En_putBehind 43 = .ok (.getfield 14, 3) := by decide +kernel
theorem d_En_putBehind_46 : decode zb_En_putBehind 46 = .ok (.iload_n 3, 1) := by decide +kernel
theorem d_En_putBehind_47 : decode zb_En_putBehind 47 = .ok (.iconst 0, 1) := by decide +kernel
theorem d_En_putBehind_48 : decode zb_En_putBehind 48 = .ok (.iload_n 2, 1) := by decide +kernel
theorem d_En_putBehind_49 : decode zb_En_putBehind 49 = .ok (.invokevirtual 81, 3) := by decide +kernel
theorem d_En_putBehind_52 : decode zb_En_putBehind 52 = .ok (.return_, 1) := by decide +kernel
def k_En_putBehind_17 (l1 : Int32) : Nat → Int32 → Int32 → Int32 → zsE → Option (zsE)
  | 0, _, _, _, _ => none
  | fu + 1, l2, l3, l4, x => (if l4 < l3 then (k_Ta_copyRow 1 8 x.2.1 ((l4 + (1 : Int32))) l4).bind fun o5 => k_En_putBehind_17 l1 fu l2 l3 ((l4 + (1 : Int32))) ((x.1, o5, x.2.2)) else (k_Ta_set 1 8 x.2.1 l3 ((0 : Int32)) l2).bind fun o4 => some ((x.1, o4, x.2.2)))
theorem w_En_putBehind_17 {X : zX} {c : zY} {q : Nat → Nat} {l1 : Int32} {out : zsE} (hX : Ok X zr_En zb_En_putBehind 5 2 c) (hR : Rt X none none (zwE c q out)) : ∀ (fu : Nat) (l2 : Int32) (l3 : Int32) (l4 : Int32) (x : zsE), k_En_putBehind_17 l1 fu l2 l3 l4 x = some out → Go X (zwE c q x) [(0, .ref ((q 9))), (2, .int l2), (3, .int l3), (4, .int l4)] 17 [] := by
  intro fu
  induction fu with
  | zero => intro l2 l3 l4 x h; rw [k_En_putBehind_17] at h; cases h
  | succ fu ih =>
    intro l2 l3 l4 x h
    rw [k_En_putBehind_17] at h
    refine g_iload (pc := 17) hX d_En_putBehind_17 3 rfl ?_
    refine g_iload_n (pc := 19) hX d_En_putBehind_19 rfl 2 rfl ?_
    refine g_icmp_ge (pc := 20) (tgt := 42) hX d_En_putBehind_20 (by decide) h (fun c3 h => ?_) (fun c3 h => ?_)
    · refine g_aload_n (pc := 42) hX d_En_putBehind_42 rfl 0 rfl ?_
      refine gf_En_14 (pc := 43) (v := .ref ((q 10))) hX 9 rfl rfl d_En_putBehind_43 ?_
      refine g_iload_n (pc := 46) hX d_En_putBehind_46 rfl 2 rfl ?_
      refine g_iconst (pc := 47) hX d_En_putBehind_47 zc_0 ?_
      refine g_iload_n (pc := 48) hX d_En_putBehind_48 rfl 1 rfl ?_
      obtain ⟨o4, e4, h⟩ := zbind h
      refine g_cvV (pc := 49)  (st := []) (w' := (zwE c q ((x.1, o4, x.2.2)))) hX zk_Ta_set zs_Ta_set zL_En_81 (c_Ta_set c (q 10) (q 11) 1 8 x.2.1 l3 ((0 : Int32)) l2 e4) rfl rfl rfl rfl (sp_En_Ta_10 c q x) (sq_En_Ta_10 c q x o4) 10 6 rfl rfl rfl d_En_putBehind_49 ?_
      cases h
      exact g_vret (pc := 52) hX hR d_En_putBehind_52
    · refine g_aload_n (pc := 23) hX d_En_putBehind_23 rfl 0 rfl ?_
      refine gf_En_14 (pc := 24) (v := .ref ((q 10))) hX 9 rfl rfl d_En_putBehind_24 ?_
      refine g_iload (pc := 27) hX d_En_putBehind_27 3 rfl ?_
      refine g_iconst (pc := 29) hX d_En_putBehind_29 zc_1 ?_
      refine g_iadd (pc := 30) hX d_En_putBehind_30 ?_
      refine g_iload (pc := 31) hX d_En_putBehind_31 3 rfl ?_
      obtain ⟨o5, e5, h⟩ := zbind h
      refine g_cvV (pc := 33)  (st := []) (w' := (zwE c q ((x.1, o5, x.2.2)))) hX zk_Ta_copyRow zs_Ta_copyRow zL_En_77 (c_Ta_copyRow c (q 10) (q 11) 1 8 x.2.1 ((l4 + (1 : Int32))) l4 e5) rfl rfl rfl rfl (sp_En_Ta_10 c q x) (sq_En_Ta_10 c q x o5) 10 6 rfl rfl rfl d_En_putBehind_33 ?_
      refine g_iinc (pc := 36) (q := 3) (L' := [(4, .int ((l4 + (1 : Int32)))), (0, .ref ((q 9))), (2, .int l2), (3, .int l3)]) hX d_En_putBehind_36 rfl zc_1 rfl rfl ?_
      refine g_goto (pc := 39) (tgt := 17) hX d_En_putBehind_39 (by decide) ?_
      refine g_ls (L' := [(0, .ref ((q 9))), (2, .int l2), (3, .int l3), (4, .int ((l4 + (1 : Int32))))]) [1, 2, 3, 0] rfl ?_
      exact ih _ _ _ _ h
def k_En_putBehind (x : zsE) (l1 : Int32) : Option (zsE) := (k_En_current x).bind fun o1 => (k_En_placeOf x l1).bind fun o2 => k_En_putBehind_17 l1 zFu o1 o2 ((x.2.2 5)) x
theorem c_En_putBehind (c : zY) (q : Nat → Nat) (x : zsE) (l1 : Int32) {out : zsE} (h : k_En_putBehind x l1 = some out) : KM zy_En_putBehind zb_En_putBehind 5 none 2 c [.ref ((q 9)), .int l1] (zwE c q x) (zwE c q out) none := zK_of zp_En rfl (Nat.le_of_ble_eq_true rfl) (zq_En c q _ _) (fun X hX hR => by
  show Go X (zwE c q x) [(0, .ref ((q 9))), (1, .int l1)] 0 []
  rw [k_En_putBehind] at h
  refine g_aload_n (pc := 0) hX d_En_putBehind_0 rfl 0 rfl ?_
  obtain ⟨o1, e1, h⟩ := zbind h
  refine g_cvI (pc := 1) (w1 := []) (w2 := []) (st := []) (w' := (zwE c q x)) hX zk_En_current zs_En_current zL_En_94 (c_En_current c q x e1) rfl rfl rfl rfl (zself _) (zself _).symm 9 2 rfl rfl rfl d_En_putBehind_1 ?_
  refine g_istore_n (pc := 4) (L' := [(2, .int o1), (0, .ref ((q 9))), (1, .int l1)]) hX d_En_putBehind_4 rfl rfl rfl ?_
  refine g_aload_n (pc := 5) hX d_En_putBehind_5 rfl 1 rfl ?_
  refine g_iload_n (pc := 6) hX d_En_putBehind_6 rfl 2 rfl ?_
  obtain ⟨o2, e2, h⟩ := zbind h
  refine g_cvI (pc := 7) (w1 := []) (w2 := []) (st := []) (w' := (zwE c q x)) hX zk_En_placeOf zs_En_placeOf zL_En_113 (c_En_placeOf c q x l1 e2) rfl rfl rfl rfl (zself _) (zself _).symm 9 2 rfl rfl rfl d_En_putBehind_7 ?_
  refine g_istore_n (pc := 10) (L' := [(3, .int o2), (2, .int o1), (0, .ref ((q 9))), (1, .int l1)]) hX d_En_putBehind_10 rfl rfl rfl ?_
  refine g_aload_n (pc := 11) hX d_En_putBehind_11 rfl 2 rfl ?_
  refine gf_En_36 (pc := 12) (v := .int ((x.2.2 5))) hX 9 rfl rfl d_En_putBehind_12 ?_
  refine g_istore (pc := 15) (L' := [(4, .int ((x.2.2 5))), (3, .int o2), (2, .int o1), (0, .ref ((q 9))), (1, .int l1)]) hX d_En_putBehind_15 rfl rfl ?_
  refine g_ls (L' := [(0, .ref ((q 9))), (2, .int o1), (3, .int o2), (4, .int ((x.2.2 5)))]) [3, 2, 1, 0] rfl ?_
  exact w_En_putBehind_17 hX hR _ _ _ _ _ h)
theorem d_En_act_0 : decode zb_En_act 0 = .ok (.aload_n 0, 1) := by decide +kernel
theorem d_En_act_1 : decode zb_En_act 1 = .ok (.iconst 1, 1) := by decide +kernel
theorem d_En_act_2 : decode zb_En_act 2 = .ok (.putfield 87, 3) := by decide +kernel
theorem d_En_act_5 : decode zb_En_act 5 = .ok (.aload_n 0, 1) := by decide +kernel
theorem d_En_act_6 : decode zb_En_act 6 = .ok (.dup, 1) := by decide +kernel
theorem d_En_act_7 : decode zb_En_act 7 = .ok (.getfield 117, 3) := by decide +kernel
theorem d_En_act_10 : decode zb_En_act 10 = .ok (.iconst 1, 1) := by decide +kernel
theorem d_En_act_11 : decode zb_En_act 11 = .ok (.iadd, 1) := by decide +kernel
theorem d_En_act_12 : decode zb_En_act 12 = .ok (.putfield 117, 3) := by decide +kernel
theorem d_En_act_15 : decode zb_En_act 15 = .ok (.aload_n 0, 1) := by decide +kernel
theorem d_En_act_16 : decode zb_En_act 16 = .ok (.getfield 28, 3) := by decide +kernel
theorem d_En_act_19 : decode zb_En_act 19 = .ok (.bipush 10, 2) := by decide +kernel
theorem d_En_act_21 : decode zb_En_act 21 = .ok (.aload_n 0, 1) := by decide +kernel
theorem d_En_act_22 : decode zb_En_act 22 = .ok (.invokevirtual 94, 3) := by decide +kernel
theorem d_En_act_25 : decode zb_En_act 25 = .ok (.iload_n 1, 1) := by decide +kernel
theorem d_En_act_26 : decode zb_En_act 26 = .ok (.invokevirtual 97, 3) := by decide +kernel
theorem d_En_act_29 : decode zb_En_act 29 = .ok (.return_, 1) := by decide +kernel
def k_En_act (x : zsE) (l1 : Int32) : Option (zsE) := (k_En_current ((x.1, x.2.1, (upd ((upd x.2.2 7 ((1 : Int32)))) 10 (((x.2.2 10) + (1 : Int32))))))).bind fun o1 => (k_Jo_write x.1.1.1 ((10 : Int32)) o1 l1).bind fun o2 => some ((((o2, x.1.1.2.1, x.1.1.2.2), x.1.2.1, x.1.2.2), x.2.1, (upd ((upd x.2.2 7 ((1 : Int32)))) 10 (((x.2.2 10) + (1 : Int32))))))
theorem c_En_act (c : zY) (q : Nat → Nat) (x : zsE) (l1 : Int32) {out : zsE} (h : k_En_act x l1 = some out) : KM zy_En_act zb_En_act 2 none 2 c [.ref ((q 9)), .int l1] (zwE c q x) (zwE c q out) none := zK_of zp_En rfl (Nat.le_of_ble_eq_true rfl) (zq_En c q _ _) (fun X hX hR => by
  show Go X (zwE c q x) [(0, .ref ((q 9))), (1, .int l1)] 0 []
  rw [k_En_act] at h
  refine g_aload_n (pc := 0) hX d_En_act_0 rfl 0 rfl ?_
  refine g_iconst (pc := 1) hX d_En_act_1 zc_1 ?_
  refine pf_En_87 (pc := 2) (w2 := (zwE c q ((x.1, x.2.1, (upd x.2.2 7 ((1 : Int32))))))) hX (Or.inr rfl) 9 rfl rfl (su_En_9_7 c q x ((1 : Int32))) d_En_act_2 ?_
  refine g_aload_n (pc := 5) hX d_En_act_5 rfl 0 rfl ?_
  refine g_dup (pc := 6) hX d_En_act_6 rfl ?_
  refine gf_En_117 (pc := 7) (v := .int ((x.2.2 10))) hX 9 rfl rfl d_En_act_7 ?_
  refine g_iconst (pc := 10) hX d_En_act_10 zc_1 ?_
  refine g_iadd (pc := 11) hX d_En_act_11 ?_
  refine pf_En_117 (pc := 12) (w2 := (zwE c q ((x.1, x.2.1, (upd ((upd x.2.2 7 ((1 : Int32)))) 10 (((x.2.2 10) + (1 : Int32)))))))) hX 9 rfl rfl (su_En_9_10 c q ((x.1, x.2.1, (upd x.2.2 7 ((1 : Int32))))) (((x.2.2 10) + (1 : Int32)))) d_En_act_12 ?_
  refine g_aload_n (pc := 15) hX d_En_act_15 rfl 0 rfl ?_
  refine gf_En_28 (pc := 16) (v := .ref ((q 0))) hX 9 rfl rfl d_En_act_16 ?_
  refine g_bipush (pc := 19) hX d_En_act_19 ze_10 ?_
  refine g_aload_n (pc := 21) hX d_En_act_21 rfl 0 rfl ?_
  obtain ⟨o1, e1, h⟩ := zbind h
  refine g_cvI (pc := 22) (w1 := []) (w2 := []) (st := [.int ((10 : Int32)), .ref ((q 0))]) (w' := (zwE c q ((x.1, x.2.1, (upd ((upd x.2.2 7 ((1 : Int32)))) 10 (((x.2.2 10) + (1 : Int32)))))))) hX zk_En_current zs_En_current zL_En_94 (c_En_current c q ((x.1, x.2.1, (upd ((upd x.2.2 7 ((1 : Int32)))) 10 (((x.2.2 10) + (1 : Int32)))))) e1) rfl rfl rfl rfl (zself _) (zself _).symm 9 2 rfl rfl rfl d_En_act_22 ?_
  refine g_iload_n (pc := 25) hX d_En_act_25 rfl 1 rfl ?_
  obtain ⟨o2, e2, h⟩ := zbind h
  refine g_cvV (pc := 26)  (st := []) (w' := (zwE c q ((((o2, x.1.1.2.1, x.1.1.2.2), x.1.2.1, x.1.2.2), x.2.1, (upd ((upd x.2.2 7 ((1 : Int32)))) 10 (((x.2.2 10) + (1 : Int32)))))))) hX zk_Jo_write zs_Jo_write zL_En_97 (c_Jo_write c q x.1.1.1 ((10 : Int32)) o1 l1 e2) rfl rfl rfl rfl (sp_En_Jo_0 c q ((x.1, x.2.1, (upd ((upd x.2.2 7 ((1 : Int32)))) 10 (((x.2.2 10) + (1 : Int32))))))) (sq_En_Jo_0 c q ((x.1, x.2.1, (upd ((upd x.2.2 7 ((1 : Int32)))) 10 (((x.2.2 10) + (1 : Int32)))))) o2) 0 4 rfl rfl rfl d_En_act_26 ?_
  cases h
  exact g_vret (pc := 29) hX hR d_En_act_29)
theorem d_En_close_0 : decode zb_En_close 0 = .ok (.aload_n 0, 1) := by decide +kernel
theorem d_En_close_1 : decode zb_En_close 1 = .ok (.iconst 0, 1) := by decide +kernel
theorem d_En_close_2 : decode zb_En_close 2 = .ok (.putfield 32, 3) := by decide +kernel
theorem d_En_close_5 : decode zb_En_close 5 = .ok (.aload_n 0, 1) := by decide +kernel
theorem d_En_close_6 : decode zb_En_close 6 = .ok (.getfield 14, 3) := by decide +kernel
theorem d_En_close_9 : decode zb_En_close 9 = .ok (.iconst 0, 1) := by decide +kernel
theorem d_En_close_10 : decode zb_En_close 10 = .ok (.invokevirtual 120, 3) := by decide +kernel
theorem d_En_close_13 : decode zb_En_close 13 = .ok (.iconst 0, 1) := by decide +kernel
theorem d_En_close_14 : decode zb_En_close 14 = .ok (.istore_n 1, 1) := by decide +kernel
theorem d_En_close_15 : decode zb_En_close 15 = .ok (.iload_n 1, 1) := by decide +kernel
theorem d_En_close_16 : decode zb_En_close 16 = .ok (.aload_n 0, 1) := by decide +kernel
theorem d_En_close_17 : decode zb_En_close 17 = .ok (.getfield 20, 3) := by decide +kernel
theorem d_En_close_20 : decode zb_En_close 20 = .ok (.invokevirtual 51, 3) := by decide +kernel
theorem d_En_close_23 : decode zb_En_close 23 = .ok (.if_icmp .ge 21, 3) := by decide +kernel
theorem d_En_close_26 : decode zb_En_close 26 = .ok (.aload_n 0, 1) := by decide +kernel
theorem d_En_close_27 : decode zb_En_close 27 = .ok (.getfield 20, 3) := by decide +kernel
theorem d_En_close_30 : decode zb_En_close 30 = .ok (.iload_n 1, 1) := by decide +kernel
theorem d_En_close_31 : decode zb_En_close 31 = .ok (.bipush 6, 2) := by decide +kernel
theorem d_En_close_33 : decode zb_En_close 33 = .ok (.bipush (-5), 2) := by decide +kernel
theorem d_En_close_35 : decode zb_En_close 35 = .ok (.invokevirtual 60, 3) := by decide +kernel
theorem d_En_close_38 : decode zb_En_close 38 = .ok (.iinc 1 1, 3) := by decide +kernel
theorem d_En_close_41 : decode zb_En_close 41 = .ok (.goto (-26), 3) := by decide +kernel
theorem d_En_close_44 : decode zb_En_close 44 = .ok (.aload_n 0, 1) := by decide +kernel
theorem d_En_close_45 : decode zb_En_close 45 = .ok (.getfield 24, 3) := by decide +kernel
theorem d_En_close_48 : decode zb_En_close 48 = .ok (.invokevirtual 123, 3) := by decide +kernel
theorem d_En_close_51 : decode zb_En_close 51 = .ok (.return_, 1) := by decide +kernel
def k_En_close_15 : Nat → Int32 → zsE → Option (zsE)
  | 0, _, _ => none
  | fu + 1, l1, x => (k_Fi_size x.1).bind fun o2 => (if l1 < o2 then (k_Fi_put x.1 l1 ((6 : Int32)) ((-5 : Int32))).bind fun o5 => k_En_close_15 fu ((l1 + (1 : Int32))) ((o5, x.2.1, x.2.2)) else (k_Co_endOfEncounter x.1.1).bind fun o4 => some (((o4, x.1.2.1, x.1.2.2), x.2.1, x.2.2)))
theorem w_En_close_15 {X : zX} {c : zY} {q : Nat → Nat} {out : zsE} (hX : Ok X zr_En zb_En_close 2 4 c) (hR : Rt X none none (zwE c q out)) : ∀ (fu : Nat) (l1 : Int32) (x : zsE), k_En_close_15 fu l1 x = some out → Go X (zwE c q x) [(0, .ref ((q 9))), (1, .int l1)] 15 [] := by
  intro fu
  induction fu with
  | zero => intro l1 x h; rw [k_En_close_15] at h; cases h
  | succ fu ih =>
    intro l1 x h
    rw [k_En_close_15] at h
    refine g_iload_n (pc := 15) hX d_En_close_15 rfl 1 rfl ?_
    refine g_aload_n (pc := 16) hX d_En_close_16 rfl 0 rfl ?_
    refine gf_En_20 (pc := 17) (v := .ref ((q 6))) hX 9 rfl rfl d_En_close_17 ?_
    obtain ⟨o2, e2, h⟩ := zbind h
    refine g_cvI (pc := 20)  (st := [.int l1]) (w' := (zwE c q x)) hX zk_Fi_size zs_Fi_size zL_En_51 (c_Fi_size c q x.1 e2) rfl rfl rfl rfl (sp_En_Fi_0 c q x) (sp_En_Fi_0 c q x).symm 6 3 rfl rfl rfl d_En_close_20 ?_
    refine g_icmp_ge (pc := 23) (tgt := 44) hX d_En_close_23 (by decide) h (fun c3 h => ?_) (fun c3 h => ?_)
    · refine g_aload_n (pc := 44) hX d_En_close_44 rfl 0 rfl ?_
      refine gf_En_24 (pc := 45) (v := .ref ((q 2))) hX 9 rfl rfl d_En_close_45 ?_
      obtain ⟨o4, e4, h⟩ := zbind h
      refine g_cvV (pc := 48)  (st := []) (w' := (zwE c q (((o4, x.1.2.1, x.1.2.2), x.2.1, x.2.2)))) hX zk_Co_endOfEncounter zs_Co_endOfEncounter zL_En_123 (c_Co_endOfEncounter c q x.1.1 e4) rfl rfl rfl rfl (sp_En_Co_0 c q x) (sq_En_Co_0 c q x o4) 2 1 rfl rfl rfl d_En_close_48 ?_
      cases h
      exact g_vret (pc := 51) hX hR d_En_close_51
    · refine g_aload_n (pc := 26) hX d_En_close_26 rfl 0 rfl ?_
      refine gf_En_20 (pc := 27) (v := .ref ((q 6))) hX 9 rfl rfl d_En_close_27 ?_
      refine g_iload_n (pc := 30) hX d_En_close_30 rfl 1 rfl ?_
      refine g_bipush (pc := 31) hX d_En_close_31 ze_6 ?_
      refine g_bipush (pc := 33) hX d_En_close_33 ze_m5 ?_
      obtain ⟨o5, e5, h⟩ := zbind h
      refine g_cvV (pc := 35)  (st := []) (w' := (zwE c q ((o5, x.2.1, x.2.2)))) hX zk_Fi_put zs_Fi_put zL_En_60 (c_Fi_put c q x.1 l1 ((6 : Int32)) ((-5 : Int32)) e5) rfl rfl rfl rfl (sp_En_Fi_0 c q x) (sq_En_Fi_0 c q x o5) 6 3 rfl rfl rfl d_En_close_35 ?_
      refine g_iinc (pc := 38) (q := 1) (L' := [(1, .int ((l1 + (1 : Int32)))), (0, .ref ((q 9)))]) hX d_En_close_38 rfl zc_1 rfl rfl ?_
      refine g_goto (pc := 41) (tgt := 15) hX d_En_close_41 (by decide) ?_
      refine g_ls (L' := [(0, .ref ((q 9))), (1, .int ((l1 + (1 : Int32))))]) [1, 0] rfl ?_
      exact ih _ _ h
def k_En_close (x : zsE) : Option (zsE) := (k_Ta_cut 1 8 x.2.1 ((0 : Int32))).bind fun o1 => k_En_close_15 zFu ((0 : Int32)) ((x.1, o1, (upd x.2.2 4 ((0 : Int32)))))
theorem c_En_close (c : zY) (q : Nat → Nat) (x : zsE) {out : zsE} (h : k_En_close x = some out) : KM zy_En_close zb_En_close 2 none 4 c [.ref ((q 9))] (zwE c q x) (zwE c q out) none := zK_of zp_En rfl (Nat.le_of_ble_eq_true rfl) (zq_En c q _ _) (fun X hX hR => by
  show Go X (zwE c q x) [(0, .ref ((q 9)))] 0 []
  rw [k_En_close] at h
  refine g_aload_n (pc := 0) hX d_En_close_0 rfl 0 rfl ?_
  refine g_iconst (pc := 1) hX d_En_close_1 zc_0 ?_
  refine pf_En_32 (pc := 2) (w2 := (zwE c q ((x.1, x.2.1, (upd x.2.2 4 ((0 : Int32))))))) hX 9 rfl rfl (su_En_9_4 c q x ((0 : Int32))) d_En_close_2 ?_
  refine g_aload_n (pc := 5) hX d_En_close_5 rfl 0 rfl ?_
  refine gf_En_14 (pc := 6) (v := .ref ((q 10))) hX 9 rfl rfl d_En_close_6 ?_
  refine g_iconst (pc := 9) hX d_En_close_9 zc_0 ?_
  obtain ⟨o1, e1, h⟩ := zbind h
  refine g_cvV (pc := 10)  (st := []) (w' := (zwE c q ((x.1, o1, (upd x.2.2 4 ((0 : Int32))))))) hX zk_Ta_cut zs_Ta_cut zL_En_120 (c_Ta_cut c (q 10) (q 11) 1 8 x.2.1 ((0 : Int32)) e1) rfl rfl rfl rfl (sp_En_Ta_10 c q ((x.1, x.2.1, (upd x.2.2 4 ((0 : Int32)))))) (sq_En_Ta_10 c q ((x.1, x.2.1, (upd x.2.2 4 ((0 : Int32))))) o1) 10 6 rfl rfl rfl d_En_close_10 ?_
  refine g_iconst (pc := 13) hX d_En_close_13 zc_0 ?_
  refine g_istore_n (pc := 14) (L' := [(1, .int ((0 : Int32))), (0, .ref ((q 9)))]) hX d_En_close_14 rfl rfl rfl ?_
  refine g_ls (L' := [(0, .ref ((q 9))), (1, .int ((0 : Int32)))]) [1, 0] rfl ?_
  exact w_En_close_15 hX hR _ _ _ h)
theorem d_St_isFree_0 : decode zb_St_isFree 0 = .ok (.aload_n 0, 1) := by decide +kernel
theorem d_St_isFree_1 : decode zb_St_isFree 1 = .ok (.getfield 14, 3) := by decide +kernel
theorem d_St_isFree_4 : decode zb_St_isFree 4 = .ok (.iload_n 1, 1) := by decide +kernel
theorem d_St_isFree_5 : decode zb_St_isFree 5 = .ok (.iconst 0, 1) := by decide +kernel
theorem d_St_isFree_6 : decode zb_St_isFree 6 = .ok (.invokevirtual 59, 3) := by decide +kernel
theorem d_St_isFree_9 : decode zb_St_isFree 9 = .ok (.ifCond .ne 19, 3) := by decide +kernel
theorem d_St_isFree_12 : decode zb_St_isFree 12 = .ok (.aload_n 0, 1) := by decide +kernel
theorem d_St_isFree_13 : decode zb_St_isFree 13 = .ok (.getfield 46, 3) := by decide +kernel
theorem d_St_isFree_16 : decode zb_St_isFree 16 = .ok (.iload_n 1, 1) := by decide +kernel
theorem d_St_isFree_17 : decode zb_St_isFree 17 = .ok (.invokevirtual 63, 3) := by decide +kernel
theorem d_St_isFree_20 : decode zb_St_isFree 20 = .ok (.iconst (-1), 1) := by decide +kernel
theorem d_St_isFree_21 : decode zb_St_isFree 21 = .ok (.if_icmp .ne 7, 3) := by decide +kernel
theorem d_St_isFree_24 : decode zb_St_isFree 24 = .ok (.iconst 1, 1) := by decide +kernel
theorem d_St_isFree_25 : decode zb_St_isFree 25 = .ok (.goto 4, 3) := by decide +kernel
theorem d_St_isFree_28 : decode zb_St_isFree 28 = .ok (.iconst 0, 1) := by decide +kernel
theorem d_St_isFree_29 : decode zb_St_isFree 29 = .ok (.ireturn, 1) := by decide +kernel
def k_St_isFree (x : zsS) (l1 : Int32) : Option (Int32) := (k_Ta_get 1 100 x.2.1 l1 ((0 : Int32))).bind fun o1 => (if o1 = 0 then (k_Fi_standingOn x.1.1 l1).bind fun o3 => (if o3 = (-1 : Int32) then some ((1 : Int32)) else some ((0 : Int32))) else some ((0 : Int32)))
theorem c_St_isFree (c : zY) (q : Nat → Nat) (x : zsS) (l1 : Int32) {out : Int32} (h : k_St_isFree x l1 = some out) : KM zy_St_isFree zb_St_isFree 2 (some .boolean) 2 c [.ref ((q 12)), .int l1] (zwS c q x) (zwS c q x) (some (.int out)) := zK_of zp_St rfl (Nat.le_of_ble_eq_true rfl) (zq_St c q _ _) (fun X hX hR => by
  show Go X (zwS c q x) [(0, .ref ((q 12))), (1, .int l1)] 0 []
  rw [k_St_isFree] at h
  refine g_aload_n (pc := 0) hX d_St_isFree_0 rfl 0 rfl ?_
  refine gf_St_14 (pc := 1) (v := .ref ((q 13))) hX 12 rfl rfl d_St_isFree_1 ?_
  refine g_iload_n (pc := 4) hX d_St_isFree_4 rfl 1 rfl ?_
  refine g_iconst (pc := 5) hX d_St_isFree_5 zc_0 ?_
  obtain ⟨o1, e1, h⟩ := zbind h
  refine g_cvI (pc := 6)  (st := []) (w' := (zwS c q x)) hX zk_Ta_get zs_Ta_get zL_St_59 (c_Ta_get c (q 13) (q 14) 1 100 x.2.1 l1 ((0 : Int32)) e1) rfl rfl rfl rfl (sp_St_Ta_13 c q x) (sp_St_Ta_13 c q x).symm 13 6 rfl rfl rfl d_St_isFree_6 ?_
  refine g_if_ne (pc := 9) (tgt := 28) hX d_St_isFree_9 (by decide) h (fun c2 h => ?_) (fun c2 h => ?_)
  · refine g_iconst (pc := 28) hX d_St_isFree_28 zc_0 ?_
    cases h
    exact g_zret (pc := 29) hX hR (Or.inl rfl) d_St_isFree_29
  · refine g_aload_n (pc := 12) hX d_St_isFree_12 rfl 0 rfl ?_
    refine gf_St_46 (pc := 13) (v := .ref ((q 6))) hX 12 rfl rfl d_St_isFree_13 ?_
    refine g_iload_n (pc := 16) hX d_St_isFree_16 rfl 1 rfl ?_
    obtain ⟨o3, e3, h⟩ := zbind h
    refine g_cvI (pc := 17)  (st := []) (w' := (zwS c q x)) hX zk_Fi_standingOn zs_Fi_standingOn zL_St_63 (c_Fi_standingOn c q x.1.1 l1 e3) rfl rfl rfl rfl (sp_St_Fi_0 c q x) (sp_St_Fi_0 c q x).symm 6 3 rfl rfl rfl d_St_isFree_17 ?_
    refine g_iconst (pc := 20) hX d_St_isFree_20 zc_m1 ?_
    refine g_icmp_ne (pc := 21) (tgt := 28) hX d_St_isFree_21 (by decide) h (fun c4 h => ?_) (fun c4 h => ?_)
    · refine g_iconst (pc := 28) hX d_St_isFree_28 zc_0 ?_
      cases h
      exact g_zret (pc := 29) hX hR (Or.inl rfl) d_St_isFree_29
    · refine g_iconst (pc := 24) hX d_St_isFree_24 zc_1 ?_
      refine g_goto (pc := 25) (tgt := 29) hX d_St_isFree_25 (by decide) ?_
      cases h
      exact g_zret (pc := 29) hX hR (Or.inr rfl) d_St_isFree_29)
theorem d_St_numberOfWalls_0 : decode zb_St_numberOfWalls 0 = .ok (.iconst 0, 1) := by decide +kernel
theorem d_St_numberOfWalls_1 : decode zb_St_numberOfWalls 1 = .ok (.istore_n 1, 1) := by decide +kernel
theorem d_St_numberOfWalls_2 : decode zb_St_numberOfWalls 2 = .ok (.iconst 0, 1) := by decide +kernel
theorem d_St_numberOfWalls_3 : decode zb_St_numberOfWalls 3 = .ok (.istore_n 2, 1) := by decide +kernel
theorem d_St_numberOfWalls_4 : decode zb_St_numberOfWalls 4 = .ok (.iload_n 2, 1) := by decide +kernel
theorem d_St_numberOfWalls_5 : decode zb_St_numberOfWalls 5 = .ok (.bipush 100, 2) := by decide +kernel
theorem d_St_numberOfWalls_7 : decode zb_St_numberOfWalls 7 = .ok (.if_icmp .ge 21, 3) := by decide +kernel
theorem d_St_numberOfWalls_10 : decode zb_St_numberOfWalls 10 = .ok (.iload_n 1, 1) := by decide +kernel
theorem d_St_numberOfWalls_11 : decode zb_St_numberOfWalls 11 = .ok (.aload_n 0, 1) := by decide +kernel
theorem d_St_numberOfWalls_12 : decode zb_St_numberOfWalls 12 = .ok (.getfield 14, 3) := by decide +kernel
theorem d_St_numberOfWalls_15 : decode zb_St_numberOfWalls 15 = .ok (.iload_n 2, 1) := by decide +kernel
theorem d_St_numberOfWalls_16 : decode zb_St_numberOfWalls 16 = .ok (.iconst 0, 1) := by decide +kernel
theorem d_St_numberOfWalls_17 : decode zb_St_numberOfWalls 17 = .ok (.invokevirtual 59, 3) := by decide +kernel
theorem d_St_numberOfWalls_20 : decode zb_St_numberOfWalls 20 = .ok (.iadd, 1) := by decide +kernel
theorem d_St_numberOfWalls_21 : decode zb_St_numberOfWalls 21 = .ok (.istore_n 1, 1) := by decide +kernel
theorem d_St_numberOfWalls_22 : decode zb_St_numberOfWalls 22 = .ok (.iinc 2 1, 3) := by decide +kernel
theorem d_St_numberOfWalls_25 : decode zb_St_numberOfWalls 25 = .ok (.goto (-21), 3) := by decide +kernel
theorem d_St_numberOfWalls_28 : decode zb_St_numberOfWalls 28 = .ok (.iload_n 1, 1) := by decide +kernel
theorem d_St_numberOfWalls_29 : decode zb_St_numberOfWalls 29 = .ok (.ireturn, 1) := by decide +kernel
def k_St_numberOfWalls_4 (x : zsS) : Nat → Int32 → Int32 → Option (Int32)
  | 0, _, _ => none
  | fu + 1, l1, l2 => (if l2 < (100 : Int32) then (k_Ta_get 1 100 x.2.1 l2 ((0 : Int32))).bind fun o2 => k_St_numberOfWalls_4 x fu ((l1 + o2)) ((l2 + (1 : Int32))) else some l1)
theorem w_St_numberOfWalls_4 {X : zX} {c : zY} {q : Nat → Nat} {x : zsS} {out : Int32} (hX : Ok X zr_St zb_St_numberOfWalls 3 1 c) (hR : Rt X (some .int) (some (.int out)) (zwS c q x)) : ∀ (fu : Nat) (l1 : Int32) (l2 : Int32), k_St_numberOfWalls_4 x fu l1 l2 = some out → Go X (zwS c q x) [(0, .ref ((q 12))), (1, .int l1), (2, .int l2)] 4 [] := by
  intro fu
  induction fu with
  | zero => intro l1 l2 h; rw [k_St_numberOfWalls_4] at h; cases h
  | succ fu ih =>
    intro l1 l2 h
    rw [k_St_numberOfWalls_4] at h
    refine g_iload_n (pc := 4) hX d_St_numberOfWalls_4 rfl 2 rfl ?_
    refine g_bipush (pc := 5) hX d_St_numberOfWalls_5 ze_100 ?_
    refine g_icmp_ge (pc := 7) (tgt := 28) hX d_St_numberOfWalls_7 (by decide) h (fun c1 h => ?_) (fun c1 h => ?_)
    · refine g_iload_n (pc := 28) hX d_St_numberOfWalls_28 rfl 1 rfl ?_
      cases h
      exact g_iret (pc := 29) hX hR d_St_numberOfWalls_29
    · refine g_iload_n (pc := 10) hX d_St_numberOfWalls_10 rfl 1 rfl ?_
      refine g_aload_n (pc := 11) hX d_St_numberOfWalls_11 rfl 0 rfl ?_
      refine gf_St_14 (pc := 12) (v := .ref ((q 13))) hX 12 rfl rfl d_St_numberOfWalls_12 ?_
      refine g_iload_n (pc := 15) hX d_St_numberOfWalls_15 rfl 2 rfl ?_
      refine g_iconst (pc := 16) hX d_St_numberOfWalls_16 zc_0 ?_
      obtain ⟨o2, e2, h⟩ := zbind h
      refine g_cvI (pc := 17)  (st := [.int l1]) (w' := (zwS c q x)) hX zk_Ta_get zs_Ta_get zL_St_59 (c_Ta_get c (q 13) (q 14) 1 100 x.2.1 l2 ((0 : Int32)) e2) rfl rfl rfl rfl (sp_St_Ta_13 c q x) (sp_St_Ta_13 c q x).symm 13 6 rfl rfl rfl d_St_numberOfWalls_17 ?_
      refine g_iadd (pc := 20) hX d_St_numberOfWalls_20 ?_
      refine g_istore_n (pc := 21) (L' := [(1, .int ((l1 + o2))), (0, .ref ((q 12))), (2, .int l2)]) hX d_St_numberOfWalls_21 rfl rfl rfl ?_
      refine g_iinc (pc := 22) (q := 2) (L' := [(2, .int ((l2 + (1 : Int32)))), (1, .int ((l1 + o2))), (0, .ref ((q 12)))]) hX d_St_numberOfWalls_22 rfl zc_1 rfl rfl ?_
      refine g_goto (pc := 25) (tgt := 4) hX d_St_numberOfWalls_25 (by decide) ?_
      refine g_ls (L' := [(0, .ref ((q 12))), (1, .int ((l1 + o2))), (2, .int ((l2 + (1 : Int32))))]) [2, 1, 0] rfl ?_
      exact ih _ _ h
def k_St_numberOfWalls (x : zsS) : Option (Int32) := k_St_numberOfWalls_4 x zFu ((0 : Int32)) ((0 : Int32))
theorem c_St_numberOfWalls (c : zY) (q : Nat → Nat) (x : zsS) {out : Int32} (h : k_St_numberOfWalls x = some out) : KM zy_St_numberOfWalls zb_St_numberOfWalls 3 (some .int) 1 c [.ref ((q 12))] (zwS c q x) (zwS c q x) (some (.int out)) := zK_of zp_St rfl (Nat.le_of_ble_eq_true rfl) (zq_St c q _ _) (fun X hX hR => by
  show Go X (zwS c q x) [(0, .ref ((q 12)))] 0 []
  rw [k_St_numberOfWalls] at h
  refine g_iconst (pc := 0) hX d_St_numberOfWalls_0 zc_0 ?_
  refine g_istore_n (pc := 1) (L' := [(1, .int ((0 : Int32))), (0, .ref ((q 12)))]) hX d_St_numberOfWalls_1 rfl rfl rfl ?_
  refine g_iconst (pc := 2) hX d_St_numberOfWalls_2 zc_0 ?_
  refine g_istore_n (pc := 3) (L' := [(2, .int ((0 : Int32))), (1, .int ((0 : Int32))), (0, .ref ((q 12)))]) hX d_St_numberOfWalls_3 rfl rfl rfl ?_
  refine g_ls (L' := [(0, .ref ((q 12))), (1, .int ((0 : Int32))), (2, .int ((0 : Int32)))]) [2, 1, 0] rfl ?_
  exact w_St_numberOfWalls_4 hX hR _ _ _ h)
end
