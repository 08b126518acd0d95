-- ===== PART A: goes FIRST, ahead of the names: the tables' words, and 'selects' of the private methods out of them =====
/-- a private method of a class that the tables say can be made, by its rows of tables_1 -/
def lw_okq (q : MethodName × Nat) : Prop := (q.1.cls ≠ "java/lang/invoke/MethodHandle" ∧ q.1.cls ≠ "java/lang/invoke/VarHandle") ∧ Cond.instantiable q.1.cls q.2 ∈ tables_1 ∧ Cond.privateMethod q.1 ∈ tables_1 ∧ Cond.instanceMethod q.1 ∈ tables_1
theorem lw_p0 : lw_okq (⟨"LastWordAt", "scriptAt", "(I)LLastWordAt$Script;"⟩, 7) := ⟨⟨by decide +kernel, by decide +kernel⟩, List.mem_of_getElem? (i := 23) (by decide +kernel), List.mem_of_getElem? (i := 318) (by decide +kernel), List.mem_of_getElem? (i := 319) (by decide +kernel)⟩
theorem lw_p1 : lw_okq (⟨"LastWordAt$Tape", "byteAt", "(I)I"⟩, 4) := ⟨⟨by decide +kernel, by decide +kernel⟩, List.mem_of_getElem? (i := 163) (by decide +kernel), List.mem_of_getElem? (i := 335) (by decide +kernel), List.mem_of_getElem? (i := 336) (by decide +kernel)⟩
theorem lw_p2 : lw_okq (⟨"LastWordAt$Tape", "cutWord", "(I)I"⟩, 4) := ⟨⟨by decide +kernel, by decide +kernel⟩, List.mem_of_getElem? (i := 163) (by decide +kernel), List.mem_of_getElem? (i := 342) (by decide +kernel), List.mem_of_getElem? (i := 343) (by decide +kernel)⟩
theorem lw_p3 : lw_okq (⟨"LastWordAt$Tape", "wordOf", "(II)I"⟩, 4) := ⟨⟨by decide +kernel, by decide +kernel⟩, List.mem_of_getElem? (i := 163) (by decide +kernel), List.mem_of_getElem? (i := 346) (by decide +kernel), List.mem_of_getElem? (i := 347) (by decide +kernel)⟩
theorem lw_p4 : lw_okq (⟨"LastWordAt$Tape", "isWordAt", "(III)Z"⟩, 4) := ⟨⟨by decide +kernel, by decide +kernel⟩, List.mem_of_getElem? (i := 163) (by decide +kernel), List.mem_of_getElem? (i := 399) (by decide +kernel), List.mem_of_getElem? (i := 400) (by decide +kernel)⟩
theorem lw_p5 : lw_okq (⟨"LastWordAt$Tape", "add", "(III)V"⟩, 4) := ⟨⟨by decide +kernel, by decide +kernel⟩, List.mem_of_getElem? (i := 163) (by decide +kernel), List.mem_of_getElem? (i := 403) (by decide +kernel), List.mem_of_getElem? (i := 404) (by decide +kernel)⟩
theorem lw_p6 : lw_okq (⟨"LastWordAt$Tape", "cutNumber", "(I)I"⟩, 4) := ⟨⟨by decide +kernel, by decide +kernel⟩, List.mem_of_getElem? (i := 163) (by decide +kernel), List.mem_of_getElem? (i := 410) (by decide +kernel), List.mem_of_getElem? (i := 411) (by decide +kernel)⟩
theorem lw_p7 : lw_okq (⟨"LastWordAt$Tape", "cutSign", "(I)I"⟩, 4) := ⟨⟨by decide +kernel, by decide +kernel⟩, List.mem_of_getElem? (i := 163) (by decide +kernel), List.mem_of_getElem? (i := 417) (by decide +kernel), List.mem_of_getElem? (i := 418) (by decide +kernel)⟩
theorem lw_p8 : lw_okq (⟨"LastWordAt$Reader", "readClause", "()V"⟩, 8) := ⟨⟨by decide +kernel, by decide +kernel⟩, List.mem_of_getElem? (i := 184) (by decide +kernel), List.mem_of_getElem? (i := 479) (by decide +kernel), List.mem_of_getElem? (i := 480) (by decide +kernel)⟩
theorem lw_p9 : lw_okq (⟨"LastWordAt$Reader", "fail", "(I)V"⟩, 8) := ⟨⟨by decide +kernel, by decide +kernel⟩, List.mem_of_getElem? (i := 184) (by decide +kernel), List.mem_of_getElem? (i := 484) (by decide +kernel), List.mem_of_getElem? (i := 485) (by decide +kernel)⟩
theorem lw_p10 : lw_okq (⟨"LastWordAt$Reader", "advance", "()V"⟩, 8) := ⟨⟨by decide +kernel, by decide +kernel⟩, List.mem_of_getElem? (i := 184) (by decide +kernel), List.mem_of_getElem? (i := 493) (by decide +kernel), List.mem_of_getElem? (i := 494) (by decide +kernel)⟩
theorem lw_p11 : lw_okq (⟨"LastWordAt$Reader", "readEither", "()V"⟩, 8) := ⟨⟨by decide +kernel, by decide +kernel⟩, List.mem_of_getElem? (i := 184) (by decide +kernel), List.mem_of_getElem? (i := 501) (by decide +kernel), List.mem_of_getElem? (i := 502) (by decide +kernel)⟩
theorem lw_p12 : lw_okq (⟨"LastWordAt$Reader", "readAsk", "()V"⟩, 8) := ⟨⟨by decide +kernel, by decide +kernel⟩, List.mem_of_getElem? (i := 184) (by decide +kernel), List.mem_of_getElem? (i := 505) (by decide +kernel), List.mem_of_getElem? (i := 506) (by decide +kernel)⟩
theorem lw_p13 : lw_okq (⟨"LastWordAt$Reader", "readSum", "(I)V"⟩, 8) := ⟨⟨by decide +kernel, by decide +kernel⟩, List.mem_of_getElem? (i := 184) (by decide +kernel), List.mem_of_getElem? (i := 509) (by decide +kernel), List.mem_of_getElem? (i := 510) (by decide +kernel)⟩
theorem lw_p14 : lw_okq (⟨"LastWordAt$Reader", "readProduct", "(I)V"⟩, 8) := ⟨⟨by decide +kernel, by decide +kernel⟩, List.mem_of_getElem? (i := 184) (by decide +kernel), List.mem_of_getElem? (i := 513) (by decide +kernel), List.mem_of_getElem? (i := 514) (by decide +kernel)⟩
theorem lw_p15 : lw_okq (⟨"LastWordAt$Reader", "readOne", "(I)V"⟩, 8) := ⟨⟨by decide +kernel, by decide +kernel⟩, List.mem_of_getElem? (i := 184) (by decide +kernel), List.mem_of_getElem? (i := 517) (by decide +kernel), List.mem_of_getElem? (i := 518) (by decide +kernel)⟩
def lw_privs_1 : List (MethodName × Nat) := [(⟨"LastWordAt", "scriptAt", "(I)LLastWordAt$Script;"⟩, 7), (⟨"LastWordAt$Tape", "byteAt", "(I)I"⟩, 4), (⟨"LastWordAt$Tape", "cutWord", "(I)I"⟩, 4), (⟨"LastWordAt$Tape", "wordOf", "(II)I"⟩, 4), (⟨"LastWordAt$Tape", "isWordAt", "(III)Z"⟩, 4), (⟨"LastWordAt$Tape", "add", "(III)V"⟩, 4), (⟨"LastWordAt$Tape", "cutNumber", "(I)I"⟩, 4), (⟨"LastWordAt$Tape", "cutSign", "(I)I"⟩, 4), (⟨"LastWordAt$Reader", "readClause", "()V"⟩, 8), (⟨"LastWordAt$Reader", "fail", "(I)V"⟩, 8), (⟨"LastWordAt$Reader", "advance", "()V"⟩, 8), (⟨"LastWordAt$Reader", "readEither", "()V"⟩, 8), (⟨"LastWordAt$Reader", "readAsk", "()V"⟩, 8), (⟨"LastWordAt$Reader", "readSum", "(I)V"⟩, 8), (⟨"LastWordAt$Reader", "readProduct", "(I)V"⟩, 8), (⟨"LastWordAt$Reader", "readOne", "(I)V"⟩, 8)]
theorem lw_r1 : ∀ q ∈ lw_privs_1, lw_okq q := List.forall_mem_cons.mpr ⟨lw_p0, List.forall_mem_cons.mpr ⟨lw_p1, List.forall_mem_cons.mpr ⟨lw_p2, List.forall_mem_cons.mpr ⟨lw_p3, List.forall_mem_cons.mpr ⟨lw_p4, List.forall_mem_cons.mpr ⟨lw_p5, List.forall_mem_cons.mpr ⟨lw_p6, List.forall_mem_cons.mpr ⟨lw_p7, List.forall_mem_cons.mpr ⟨lw_p8, List.forall_mem_cons.mpr ⟨lw_p9, List.forall_mem_cons.mpr ⟨lw_p10, List.forall_mem_cons.mpr ⟨lw_p11, List.forall_mem_cons.mpr ⟨lw_p12, List.forall_mem_cons.mpr ⟨lw_p13, List.forall_mem_cons.mpr ⟨lw_p14, List.forall_mem_cons.mpr ⟨lw_p15, fun _ h => absurd h List.not_mem_nil⟩⟩⟩⟩⟩⟩⟩⟩⟩⟩⟩⟩⟩⟩⟩⟩
theorem lw_p16 : lw_okq (⟨"LastWordAt$Reader", "expectNumber", "(II)I"⟩, 8) := ⟨⟨by decide +kernel, by decide +kernel⟩, List.mem_of_getElem? (i := 184) (by decide +kernel), List.mem_of_getElem? (i := 521) (by decide +kernel), List.mem_of_getElem? (i := 522) (by decide +kernel)⟩
theorem lw_p17 : lw_okq (⟨"LastWordAt$Reader", "readName", "()V"⟩, 8) := ⟨⟨by decide +kernel, by decide +kernel⟩, List.mem_of_getElem? (i := 184) (by decide +kernel), List.mem_of_getElem? (i := 529) (by decide +kernel), List.mem_of_getElem? (i := 530) (by decide +kernel)⟩
theorem lw_p18 : lw_okq (⟨"LastWordAt$Reader", "readChoose", "(I)V"⟩, 8) := ⟨⟨by decide +kernel, by decide +kernel⟩, List.mem_of_getElem? (i := 184) (by decide +kernel), List.mem_of_getElem? (i := 533) (by decide +kernel), List.mem_of_getElem? (i := 534) (by decide +kernel)⟩
theorem lw_p19 : lw_okq (⟨"LastWordAt$Reader", "readCase", "(II)I"⟩, 8) := ⟨⟨by decide +kernel, by decide +kernel⟩, List.mem_of_getElem? (i := 184) (by decide +kernel), List.mem_of_getElem? (i := 537) (by decide +kernel), List.mem_of_getElem? (i := 538) (by decide +kernel)⟩
theorem lw_p20 : lw_okq (⟨"LastWordAt$Reader", "expect", "(I)V"⟩, 8) := ⟨⟨by decide +kernel, by decide +kernel⟩, List.mem_of_getElem? (i := 184) (by decide +kernel), List.mem_of_getElem? (i := 541) (by decide +kernel), List.mem_of_getElem? (i := 542) (by decide +kernel)⟩
theorem lw_p21 : lw_okq (⟨"LastWordAt$Reader", "readRest", "(I)V"⟩, 8) := ⟨⟨by decide +kernel, by decide +kernel⟩, List.mem_of_getElem? (i := 184) (by decide +kernel), List.mem_of_getElem? (i := 553) (by decide +kernel), List.mem_of_getElem? (i := 554) (by decide +kernel)⟩
theorem lw_p22 : lw_okq (⟨"LastWordAt", "speak", "(IIZ)I"⟩, 7) := ⟨⟨by decide +kernel, by decide +kernel⟩, List.mem_of_getElem? (i := 23) (by decide +kernel), List.mem_of_getElem? (i := 581) (by decide +kernel), List.mem_of_getElem? (i := 582) (by decide +kernel)⟩
theorem lw_p23 : lw_okq (⟨"LastWordAt$Laws", "nameSpeaker", "(LLastWordAt$Table;II)V"⟩, 3) := ⟨⟨by decide +kernel, by decide +kernel⟩, List.mem_of_getElem? (i := 244) (by decide +kernel), List.mem_of_getElem? (i := 636) (by decide +kernel), List.mem_of_getElem? (i := 637) (by decide +kernel)⟩
theorem lw_p24 : lw_okq (⟨"LastWordAt$Laws", "nameEvening", "(LLastWordAt$Evening;)V"⟩, 3) := ⟨⟨by decide +kernel, by decide +kernel⟩, List.mem_of_getElem? (i := 244) (by decide +kernel), List.mem_of_getElem? (i := 640) (by decide +kernel), List.mem_of_getElem? (i := 641) (by decide +kernel)⟩
theorem lw_p25 : lw_okq (⟨"LastWordAt$Laws", "run", "(LLastWordAt$Script;I)I"⟩, 3) := ⟨⟨by decide +kernel, by decide +kernel⟩, List.mem_of_getElem? (i := 244) (by decide +kernel), List.mem_of_getElem? (i := 702) (by decide +kernel), List.mem_of_getElem? (i := 703) (by decide +kernel)⟩
theorem lw_p26 : lw_okq (⟨"LastWordAt$Laws", "behindCase", "(LLastWordAt$Script;I)I"⟩, 3) := ⟨⟨by decide +kernel, by decide +kernel⟩, List.mem_of_getElem? (i := 244) (by decide +kernel), List.mem_of_getElem? (i := 711) (by decide +kernel), List.mem_of_getElem? (i := 712) (by decide +kernel)⟩
theorem lw_p27 : lw_okq (⟨"LastWordAt$Laws", "pop", "()I"⟩, 3) := ⟨⟨by decide +kernel, by decide +kernel⟩, List.mem_of_getElem? (i := 244) (by decide +kernel), List.mem_of_getElem? (i := 715) (by decide +kernel), List.mem_of_getElem? (i := 716) (by decide +kernel)⟩
theorem lw_p28 : lw_okq (⟨"LastWordAt$Laws", "push", "(I)V"⟩, 3) := ⟨⟨by decide +kernel, by decide +kernel⟩, List.mem_of_getElem? (i := 244) (by decide +kernel), List.mem_of_getElem? (i := 720) (by decide +kernel), List.mem_of_getElem? (i := 721) (by decide +kernel)⟩
theorem lw_p29 : lw_okq (⟨"LastWordAt$Laws", "work", "(II)V"⟩, 3) := ⟨⟨by decide +kernel, by decide +kernel⟩, List.mem_of_getElem? (i := 244) (by decide +kernel), List.mem_of_getElem? (i := 724) (by decide +kernel), List.mem_of_getElem? (i := 725) (by decide +kernel)⟩
theorem lw_p30 : lw_okq (⟨"LastWordAt", "passAsCan", "(I)Z"⟩, 7) := ⟨⟨by decide +kernel, by decide +kernel⟩, List.mem_of_getElem? (i := 23) (by decide +kernel), List.mem_of_getElem? (i := 762) (by decide +kernel), List.mem_of_getElem? (i := 763) (by decide +kernel)⟩
theorem lw_p31 : lw_okq (⟨"LastWordAt", "passOne", "()V"⟩, 7) := ⟨⟨by decide +kernel, by decide +kernel⟩, List.mem_of_getElem? (i := 23) (by decide +kernel), List.mem_of_getElem? (i := 766) (by decide +kernel), List.mem_of_getElem? (i := 767) (by decide +kernel)⟩
def lw_privs_2 : List (MethodName × Nat) := [(⟨"LastWordAt$Reader", "expectNumber", "(II)I"⟩, 8), (⟨"LastWordAt$Reader", "readName", "()V"⟩, 8), (⟨"LastWordAt$Reader", "readChoose", "(I)V"⟩, 8), (⟨"LastWordAt$Reader", "readCase", "(II)I"⟩, 8), (⟨"LastWordAt$Reader", "expect", "(I)V"⟩, 8), (⟨"LastWordAt$Reader", "readRest", "(I)V"⟩, 8), (⟨"LastWordAt", "speak", "(IIZ)I"⟩, 7), (⟨"LastWordAt$Laws", "nameSpeaker", "(LLastWordAt$Table;II)V"⟩, 3), (⟨"LastWordAt$Laws", "nameEvening", "(LLastWordAt$Evening;)V"⟩, 3), (⟨"LastWordAt$Laws", "run", "(LLastWordAt$Script;I)I"⟩, 3), (⟨"LastWordAt$Laws", "behindCase", "(LLastWordAt$Script;I)I"⟩, 3), (⟨"LastWordAt$Laws", "pop", "()I"⟩, 3), (⟨"LastWordAt$Laws", "push", "(I)V"⟩, 3), (⟨"LastWordAt$Laws", "work", "(II)V"⟩, 3), (⟨"LastWordAt", "passAsCan", "(I)Z"⟩, 7), (⟨"LastWordAt", "passOne", "()V"⟩, 7)]
theorem lw_r2 : ∀ q ∈ lw_privs_2, lw_okq q := List.forall_mem_cons.mpr ⟨lw_p16, List.forall_mem_cons.mpr ⟨lw_p17, List.forall_mem_cons.mpr ⟨lw_p18, List.forall_mem_cons.mpr ⟨lw_p19, List.forall_mem_cons.mpr ⟨lw_p20, List.forall_mem_cons.mpr ⟨lw_p21, List.forall_mem_cons.mpr ⟨lw_p22, List.forall_mem_cons.mpr ⟨lw_p23, List.forall_mem_cons.mpr ⟨lw_p24, List.forall_mem_cons.mpr ⟨lw_p25, List.forall_mem_cons.mpr ⟨lw_p26, List.forall_mem_cons.mpr ⟨lw_p27, List.forall_mem_cons.mpr ⟨lw_p28, List.forall_mem_cons.mpr ⟨lw_p29, List.forall_mem_cons.mpr ⟨lw_p30, List.forall_mem_cons.mpr ⟨lw_p31, fun _ h => absurd h List.not_mem_nil⟩⟩⟩⟩⟩⟩⟩⟩⟩⟩⟩⟩⟩⟩⟩⟩
theorem lw_p32 : lw_okq (⟨"LastWordAt", "endDinner", "()I"⟩, 7) := ⟨⟨by decide +kernel, by decide +kernel⟩, List.mem_of_getElem? (i := 23) (by decide +kernel), List.mem_of_getElem? (i := 783) (by decide +kernel), List.mem_of_getElem? (i := 784) (by decide +kernel)⟩
theorem lw_p33 : lw_okq (⟨"LastWordAt", "perform", "(I)Z"⟩, 7) := ⟨⟨by decide +kernel, by decide +kernel⟩, List.mem_of_getElem? (i := 23) (by decide +kernel), List.mem_of_getElem? (i := 815) (by decide +kernel), List.mem_of_getElem? (i := 816) (by decide +kernel)⟩
theorem lw_p34 : lw_okq (⟨"LastWordAt", "drawOne", "(I)Z"⟩, 7) := ⟨⟨by decide +kernel, by decide +kernel⟩, List.mem_of_getElem? (i := 23) (by decide +kernel), List.mem_of_getElem? (i := 844) (by decide +kernel), List.mem_of_getElem? (i := 845) (by decide +kernel)⟩
theorem lw_p35 : lw_okq (⟨"LastWordAt", "isOfBook", "(I)Z"⟩, 7) := ⟨⟨by decide +kernel, by decide +kernel⟩, List.mem_of_getElem? (i := 23) (by decide +kernel), List.mem_of_getElem? (i := 909) (by decide +kernel), List.mem_of_getElem? (i := 910) (by decide +kernel)⟩
theorem lw_p36 : lw_okq (⟨"LastWordAt", "aheadByRank", "(I)I"⟩, 7) := ⟨⟨by decide +kernel, by decide +kernel⟩, List.mem_of_getElem? (i := 23) (by decide +kernel), List.mem_of_getElem? (i := 1020) (by decide +kernel), List.mem_of_getElem? (i := 1021) (by decide +kernel)⟩
theorem lw_p37 : lw_okq (⟨"LastWordAt", "countToasts", "()V"⟩, 7) := ⟨⟨by decide +kernel, by decide +kernel⟩, List.mem_of_getElem? (i := 23) (by decide +kernel), List.mem_of_getElem? (i := 1063) (by decide +kernel), List.mem_of_getElem? (i := 1064) (by decide +kernel)⟩
theorem lw_p38 : lw_okq (⟨"LastWordAt", "nextByToasts", "()I"⟩, 7) := ⟨⟨by decide +kernel, by decide +kernel⟩, List.mem_of_getElem? (i := 23) (by decide +kernel), List.mem_of_getElem? (i := 1067) (by decide +kernel), List.mem_of_getElem? (i := 1068) (by decide +kernel)⟩
theorem lw_p39 : lw_okq (⟨"LastWordAt", "isToCome", "(III)Z"⟩, 7) := ⟨⟨by decide +kernel, by decide +kernel⟩, List.mem_of_getElem? (i := 23) (by decide +kernel), List.mem_of_getElem? (i := 1087) (by decide +kernel), List.mem_of_getElem? (i := 1088) (by decide +kernel)⟩
theorem lw_p40 : lw_okq (⟨"LastWordAt$Chances", "bestOfFirst", "(III)J"⟩, 8) := ⟨⟨by decide +kernel, by decide +kernel⟩, List.mem_of_getElem? (i := 96) (by decide +kernel), List.mem_of_getElem? (i := 1136) (by decide +kernel), List.mem_of_getElem? (i := 1137) (by decide +kernel)⟩
theorem lw_p41 : lw_okq (⟨"LastWordAt$Chances", "bestOfSecond", "(IIII)J"⟩, 8) := ⟨⟨by decide +kernel, by decide +kernel⟩, List.mem_of_getElem? (i := 96) (by decide +kernel), List.mem_of_getElem? (i := 1140) (by decide +kernel), List.mem_of_getElem? (i := 1141) (by decide +kernel)⟩
theorem lw_p42 : lw_okq (⟨"LastWordAt$Chances", "outcome", "(III)J"⟩, 8) := ⟨⟨by decide +kernel, by decide +kernel⟩, List.mem_of_getElem? (i := 96) (by decide +kernel), List.mem_of_getElem? (i := 1144) (by decide +kernel), List.mem_of_getElem? (i := 1145) (by decide +kernel)⟩
theorem lw_p43 : lw_okq (⟨"LastWordAtModel", "set", "(III)V"⟩, 33) := ⟨⟨by decide +kernel, by decide +kernel⟩, List.mem_of_getElem? (i := 1193) (by decide +kernel), List.mem_of_getElem? (i := 1310) (by decide +kernel), List.mem_of_getElem? (i := 1311) (by decide +kernel)⟩
theorem lw_p44 : lw_okq (⟨"LastWordAtModel", "sit", "(I)V"⟩, 33) := ⟨⟨by decide +kernel, by decide +kernel⟩, List.mem_of_getElem? (i := 1193) (by decide +kernel), List.mem_of_getElem? (i := 1314) (by decide +kernel), List.mem_of_getElem? (i := 1315) (by decide +kernel)⟩
theorem lw_p45 : lw_okq (⟨"LastWordAtModel", "four", "(I)V"⟩, 33) := ⟨⟨by decide +kernel, by decide +kernel⟩, List.mem_of_getElem? (i := 1193) (by decide +kernel), List.mem_of_getElem? (i := 1322) (by decide +kernel), List.mem_of_getElem? (i := 1323) (by decide +kernel)⟩
theorem lw_p46 : lw_okq (⟨"LastWordAtModel", "readText", "()I"⟩, 33) := ⟨⟨by decide +kernel, by decide +kernel⟩, List.mem_of_getElem? (i := 1193) (by decide +kernel), List.mem_of_getElem? (i := 1334) (by decide +kernel), List.mem_of_getElem? (i := 1335) (by decide +kernel)⟩
theorem lw_p47 : lw_okq (⟨"LastWordAtModel", "nextToken", "()V"⟩, 33) := ⟨⟨by decide +kernel, by decide +kernel⟩, List.mem_of_getElem? (i := 1193) (by decide +kernel), List.mem_of_getElem? (i := 1338) (by decide +kernel), List.mem_of_getElem? (i := 1339) (by decide +kernel)⟩
def lw_privs_3 : List (MethodName × Nat) := [(⟨"LastWordAt", "endDinner", "()I"⟩, 7), (⟨"LastWordAt", "perform", "(I)Z"⟩, 7), (⟨"LastWordAt", "drawOne", "(I)Z"⟩, 7), (⟨"LastWordAt", "isOfBook", "(I)Z"⟩, 7), (⟨"LastWordAt", "aheadByRank", "(I)I"⟩, 7), (⟨"LastWordAt", "countToasts", "()V"⟩, 7), (⟨"LastWordAt", "nextByToasts", "()I"⟩, 7), (⟨"LastWordAt", "isToCome", "(III)Z"⟩, 7), (⟨"LastWordAt$Chances", "bestOfFirst", "(III)J"⟩, 8), (⟨"LastWordAt$Chances", "bestOfSecond", "(IIII)J"⟩, 8), (⟨"LastWordAt$Chances", "outcome", "(III)J"⟩, 8), (⟨"LastWordAtModel", "set", "(III)V"⟩, 33), (⟨"LastWordAtModel", "sit", "(I)V"⟩, 33), (⟨"LastWordAtModel", "four", "(I)V"⟩, 33), (⟨"LastWordAtModel", "readText", "()I"⟩, 33), (⟨"LastWordAtModel", "nextToken", "()V"⟩, 33)]
theorem lw_r3 : ∀ q ∈ lw_privs_3, lw_okq q := List.forall_mem_cons.mpr ⟨lw_p32, List.forall_mem_cons.mpr ⟨lw_p33, List.forall_mem_cons.mpr ⟨lw_p34, List.forall_mem_cons.mpr ⟨lw_p35, List.forall_mem_cons.mpr ⟨lw_p36, List.forall_mem_cons.mpr ⟨lw_p37, List.forall_mem_cons.mpr ⟨lw_p38, List.forall_mem_cons.mpr ⟨lw_p39, List.forall_mem_cons.mpr ⟨lw_p40, List.forall_mem_cons.mpr ⟨lw_p41, List.forall_mem_cons.mpr ⟨lw_p42, List.forall_mem_cons.mpr ⟨lw_p43, List.forall_mem_cons.mpr ⟨lw_p44, List.forall_mem_cons.mpr ⟨lw_p45, List.forall_mem_cons.mpr ⟨lw_p46, List.forall_mem_cons.mpr ⟨lw_p47, fun _ h => absurd h List.not_mem_nil⟩⟩⟩⟩⟩⟩⟩⟩⟩⟩⟩⟩⟩⟩⟩⟩
theorem lw_p48 : lw_okq (⟨"LastWordAtModel", "byteAt", "(I)I"⟩, 33) := ⟨⟨by decide +kernel, by decide +kernel⟩, List.mem_of_getElem? (i := 1193) (by decide +kernel), List.mem_of_getElem? (i := 1342) (by decide +kernel), List.mem_of_getElem? (i := 1343) (by decide +kernel)⟩
theorem lw_p49 : lw_okq (⟨"LastWordAtModel", "clause", "()I"⟩, 33) := ⟨⟨by decide +kernel, by decide +kernel⟩, List.mem_of_getElem? (i := 1193) (by decide +kernel), List.mem_of_getElem? (i := 1357) (by decide +kernel), List.mem_of_getElem? (i := 1358) (by decide +kernel)⟩
theorem lw_p50 : lw_okq (⟨"LastWordAtModel", "sortOf", "()I"⟩, 33) := ⟨⟨by decide +kernel, by decide +kernel⟩, List.mem_of_getElem? (i := 1193) (by decide +kernel), List.mem_of_getElem? (i := 1361) (by decide +kernel), List.mem_of_getElem? (i := 1362) (by decide +kernel)⟩
theorem lw_p51 : lw_okq (⟨"LastWordAtModel", "isWord", "(J)Z"⟩, 33) := ⟨⟨by decide +kernel, by decide +kernel⟩, List.mem_of_getElem? (i := 1193) (by decide +kernel), List.mem_of_getElem? (i := 1380) (by decide +kernel), List.mem_of_getElem? (i := 1381) (by decide +kernel)⟩
theorem lw_p52 : lw_okq (⟨"LastWordAtModel", "body", "(II)I"⟩, 33) := ⟨⟨by decide +kernel, by decide +kernel⟩, List.mem_of_getElem? (i := 1193) (by decide +kernel), List.mem_of_getElem? (i := 1387) (by decide +kernel), List.mem_of_getElem? (i := 1388) (by decide +kernel)⟩
theorem lw_p53 : lw_okq (⟨"LastWordAtModel", "lawClause", "(IZ)I"⟩, 33) := ⟨⟨by decide +kernel, by decide +kernel⟩, List.mem_of_getElem? (i := 1193) (by decide +kernel), List.mem_of_getElem? (i := 1391) (by decide +kernel), List.mem_of_getElem? (i := 1392) (by decide +kernel)⟩
theorem lw_p54 : lw_okq (⟨"LastWordAtModel", "parsed", "(Z)I"⟩, 33) := ⟨⟨by decide +kernel, by decide +kernel⟩, List.mem_of_getElem? (i := 1193) (by decide +kernel), List.mem_of_getElem? (i := 1395) (by decide +kernel), List.mem_of_getElem? (i := 1396) (by decide +kernel)⟩
theorem lw_p55 : lw_okq (⟨"LastWordAtModel", "behindOne", "()I"⟩, 33) := ⟨⟨by decide +kernel, by decide +kernel⟩, List.mem_of_getElem? (i := 1193) (by decide +kernel), List.mem_of_getElem? (i := 1399) (by decide +kernel), List.mem_of_getElem? (i := 1400) (by decide +kernel)⟩
theorem lw_p56 : lw_okq (⟨"LastWordAtModel", "betweenOf", "()I"⟩, 33) := ⟨⟨by decide +kernel, by decide +kernel⟩, List.mem_of_getElem? (i := 1193) (by decide +kernel), List.mem_of_getElem? (i := 1403) (by decide +kernel), List.mem_of_getElem? (i := 1404) (by decide +kernel)⟩
theorem lw_p57 : lw_okq (⟨"LastWordAtModel", "isAskHere", "()Z"⟩, 33) := ⟨⟨by decide +kernel, by decide +kernel⟩, List.mem_of_getElem? (i := 1193) (by decide +kernel), List.mem_of_getElem? (i := 1407) (by decide +kernel), List.mem_of_getElem? (i := 1408) (by decide +kernel)⟩
theorem lw_p58 : lw_okq (⟨"LastWordAtModel", "openNow", "()I"⟩, 33) := ⟨⟨by decide +kernel, by decide +kernel⟩, List.mem_of_getElem? (i := 1193) (by decide +kernel), List.mem_of_getElem? (i := 1411) (by decide +kernel), List.mem_of_getElem? (i := 1412) (by decide +kernel)⟩
theorem lw_p59 : lw_okq (⟨"LastWordAtModel", "openAt", "()I"⟩, 33) := ⟨⟨by decide +kernel, by decide +kernel⟩, List.mem_of_getElem? (i := 1193) (by decide +kernel), List.mem_of_getElem? (i := 1415) (by decide +kernel), List.mem_of_getElem? (i := 1416) (by decide +kernel)⟩
theorem lw_p60 : lw_okq (⟨"LastWordAtModel", "isCompared", "()Z"⟩, 33) := ⟨⟨by decide +kernel, by decide +kernel⟩, List.mem_of_getElem? (i := 1193) (by decide +kernel), List.mem_of_getElem? (i := 1419) (by decide +kernel), List.mem_of_getElem? (i := 1420) (by decide +kernel)⟩
theorem lw_p61 : lw_okq (⟨"LastWordAtModel", "compareOf", "()I"⟩, 33) := ⟨⟨by decide +kernel, by decide +kernel⟩, List.mem_of_getElem? (i := 1193) (by decide +kernel), List.mem_of_getElem? (i := 1426) (by decide +kernel), List.mem_of_getElem? (i := 1427) (by decide +kernel)⟩
theorem lw_p62 : lw_okq (⟨"LastWordAtModel", "settle", "(I)V"⟩, 33) := ⟨⟨by decide +kernel, by decide +kernel⟩, List.mem_of_getElem? (i := 1193) (by decide +kernel), List.mem_of_getElem? (i := 1430) (by decide +kernel), List.mem_of_getElem? (i := 1431) (by decide +kernel)⟩
theorem lw_p63 : lw_okq (⟨"LastWordAtModel", "emit", "(II)V"⟩, 33) := ⟨⟨by decide +kernel, by decide +kernel⟩, List.mem_of_getElem? (i := 1193) (by decide +kernel), List.mem_of_getElem? (i := 1434) (by decide +kernel), List.mem_of_getElem? (i := 1435) (by decide +kernel)⟩
def lw_privs_4 : List (MethodName × Nat) := [(⟨"LastWordAtModel", "byteAt", "(I)I"⟩, 33), (⟨"LastWordAtModel", "clause", "()I"⟩, 33), (⟨"LastWordAtModel", "sortOf", "()I"⟩, 33), (⟨"LastWordAtModel", "isWord", "(J)Z"⟩, 33), (⟨"LastWordAtModel", "body", "(II)I"⟩, 33), (⟨"LastWordAtModel", "lawClause", "(IZ)I"⟩, 33), (⟨"LastWordAtModel", "parsed", "(Z)I"⟩, 33), (⟨"LastWordAtModel", "behindOne", "()I"⟩, 33), (⟨"LastWordAtModel", "betweenOf", "()I"⟩, 33), (⟨"LastWordAtModel", "isAskHere", "()Z"⟩, 33), (⟨"LastWordAtModel", "openNow", "()I"⟩, 33), (⟨"LastWordAtModel", "openAt", "()I"⟩, 33), (⟨"LastWordAtModel", "isCompared", "()Z"⟩, 33), (⟨"LastWordAtModel", "compareOf", "()I"⟩, 33), (⟨"LastWordAtModel", "settle", "(I)V"⟩, 33), (⟨"LastWordAtModel", "emit", "(II)V"⟩, 33)]
theorem lw_r4 : ∀ q ∈ lw_privs_4, lw_okq q := List.forall_mem_cons.mpr ⟨lw_p48, List.forall_mem_cons.mpr ⟨lw_p49, List.forall_mem_cons.mpr ⟨lw_p50, List.forall_mem_cons.mpr ⟨lw_p51, List.forall_mem_cons.mpr ⟨lw_p52, List.forall_mem_cons.mpr ⟨lw_p53, List.forall_mem_cons.mpr ⟨lw_p54, List.forall_mem_cons.mpr ⟨lw_p55, List.forall_mem_cons.mpr ⟨lw_p56, List.forall_mem_cons.mpr ⟨lw_p57, List.forall_mem_cons.mpr ⟨lw_p58, List.forall_mem_cons.mpr ⟨lw_p59, List.forall_mem_cons.mpr ⟨lw_p60, List.forall_mem_cons.mpr ⟨lw_p61, List.forall_mem_cons.mpr ⟨lw_p62, List.forall_mem_cons.mpr ⟨lw_p63, fun _ h => absurd h List.not_mem_nil⟩⟩⟩⟩⟩⟩⟩⟩⟩⟩⟩⟩⟩⟩⟩⟩
theorem lw_p64 : lw_okq (⟨"LastWordAtModel", "shut", "(I)V"⟩, 33) := ⟨⟨by decide +kernel, by decide +kernel⟩, List.mem_of_getElem? (i := 1193) (by decide +kernel), List.mem_of_getElem? (i := 1438) (by decide +kernel), List.mem_of_getElem? (i := 1439) (by decide +kernel)⟩
theorem lw_p65 : lw_okq (⟨"LastWordAtModel", "oneCase", "()I"⟩, 33) := ⟨⟨by decide +kernel, by decide +kernel⟩, List.mem_of_getElem? (i := 1193) (by decide +kernel), List.mem_of_getElem? (i := 1442) (by decide +kernel), List.mem_of_getElem? (i := 1443) (by decide +kernel)⟩
theorem lw_p66 : lw_okq (⟨"LastWordAtModel", "anyNumber", "()I"⟩, 33) := ⟨⟨by decide +kernel, by decide +kernel⟩, List.mem_of_getElem? (i := 1193) (by decide +kernel), List.mem_of_getElem? (i := 1446) (by decide +kernel), List.mem_of_getElem? (i := 1447) (by decide +kernel)⟩
theorem lw_p67 : lw_okq (⟨"LastWordAtModel", "beginOne", "()I"⟩, 33) := ⟨⟨by decide +kernel, by decide +kernel⟩, List.mem_of_getElem? (i := 1193) (by decide +kernel), List.mem_of_getElem? (i := 1450) (by decide +kernel), List.mem_of_getElem? (i := 1451) (by decide +kernel)⟩
theorem lw_p68 : lw_okq (⟨"LastWordAtModel", "nameOf", "()I"⟩, 33) := ⟨⟨by decide +kernel, by decide +kernel⟩, List.mem_of_getElem? (i := 1193) (by decide +kernel), List.mem_of_getElem? (i := 1454) (by decide +kernel), List.mem_of_getElem? (i := 1455) (by decide +kernel)⟩
theorem lw_p69 : lw_okq (⟨"LastWordAtModel", "isOf", "(I)Z"⟩, 33) := ⟨⟨by decide +kernel, by decide +kernel⟩, List.mem_of_getElem? (i := 1193) (by decide +kernel), List.mem_of_getElem? (i := 1458) (by decide +kernel), List.mem_of_getElem? (i := 1459) (by decide +kernel)⟩
theorem lw_p70 : lw_okq (⟨"LastWordAtModel", "opened", "(I)I"⟩, 33) := ⟨⟨by decide +kernel, by decide +kernel⟩, List.mem_of_getElem? (i := 1193) (by decide +kernel), List.mem_of_getElem? (i := 1462) (by decide +kernel), List.mem_of_getElem? (i := 1463) (by decide +kernel)⟩
theorem lw_p71 : lw_okq (⟨"LastWordAtModel", "isAskAhead", "()Z"⟩, 33) := ⟨⟨by decide +kernel, by decide +kernel⟩, List.mem_of_getElem? (i := 1193) (by decide +kernel), List.mem_of_getElem? (i := 1466) (by decide +kernel), List.mem_of_getElem? (i := 1467) (by decide +kernel)⟩
theorem lw_p72 : lw_okq (⟨"LastWordAtModel", "guestClause", "(I)I"⟩, 33) := ⟨⟨by decide +kernel, by decide +kernel⟩, List.mem_of_getElem? (i := 1193) (by decide +kernel), List.mem_of_getElem? (i := 1470) (by decide +kernel), List.mem_of_getElem? (i := 1471) (by decide +kernel)⟩
theorem lw_p73 : lw_okq (⟨"LastWordAtModel", "figure", "(III)I"⟩, 33) := ⟨⟨by decide +kernel, by decide +kernel⟩, List.mem_of_getElem? (i := 1193) (by decide +kernel), List.mem_of_getElem? (i := 1474) (by decide +kernel), List.mem_of_getElem? (i := 1475) (by decide +kernel)⟩
theorem lw_p74 : lw_okq (⟨"LastWordAtModel", "isGuest", "(I)Z"⟩, 33) := ⟨⟨by decide +kernel, by decide +kernel⟩, List.mem_of_getElem? (i := 1193) (by decide +kernel), List.mem_of_getElem? (i := 1494) (by decide +kernel), List.mem_of_getElem? (i := 1495) (by decide +kernel)⟩
theorem lw_p75 : lw_okq (⟨"LastWordAtModel", "canSay", "(I)Z"⟩, 33) := ⟨⟨by decide +kernel, by decide +kernel⟩, List.mem_of_getElem? (i := 1193) (by decide +kernel), List.mem_of_getElem? (i := 1498) (by decide +kernel), List.mem_of_getElem? (i := 1499) (by decide +kernel)⟩
theorem lw_p76 : lw_okq (⟨"LastWordAtModel", "isThere", "(I)Z"⟩, 33) := ⟨⟨by decide +kernel, by decide +kernel⟩, List.mem_of_getElem? (i := 1193) (by decide +kernel), List.mem_of_getElem? (i := 1502) (by decide +kernel), List.mem_of_getElem? (i := 1503) (by decide +kernel)⟩
theorem lw_p77 : lw_okq (⟨"LastWordAtModel", "get", "(II)I"⟩, 33) := ⟨⟨by decide +kernel, by decide +kernel⟩, List.mem_of_getElem? (i := 1193) (by decide +kernel), List.mem_of_getElem? (i := 1506) (by decide +kernel), List.mem_of_getElem? (i := 1507) (by decide +kernel)⟩
theorem lw_p78 : lw_okq (⟨"LastWordAtModel", "keep", "()V"⟩, 33) := ⟨⟨by decide +kernel, by decide +kernel⟩, List.mem_of_getElem? (i := 1193) (by decide +kernel), List.mem_of_getElem? (i := 1510) (by decide +kernel), List.mem_of_getElem? (i := 1511) (by decide +kernel)⟩
theorem lw_p79 : lw_okq (⟨"LastWordAtModel", "sayNow", "(II)I"⟩, 33) := ⟨⟨by decide +kernel, by decide +kernel⟩, List.mem_of_getElem? (i := 1193) (by decide +kernel), List.mem_of_getElem? (i := 1514) (by decide +kernel), List.mem_of_getElem? (i := 1515) (by decide +kernel)⟩
def lw_privs_5 : List (MethodName × Nat) := [(⟨"LastWordAtModel", "shut", "(I)V"⟩, 33), (⟨"LastWordAtModel", "oneCase", "()I"⟩, 33), (⟨"LastWordAtModel", "anyNumber", "()I"⟩, 33), (⟨"LastWordAtModel", "beginOne", "()I"⟩, 33), (⟨"LastWordAtModel", "nameOf", "()I"⟩, 33), (⟨"LastWordAtModel", "isOf", "(I)Z"⟩, 33), (⟨"LastWordAtModel", "opened", "(I)I"⟩, 33), (⟨"LastWordAtModel", "isAskAhead", "()Z"⟩, 33), (⟨"LastWordAtModel", "guestClause", "(I)I"⟩, 33), (⟨"LastWordAtModel", "figure", "(III)I"⟩, 33), (⟨"LastWordAtModel", "isGuest", "(I)Z"⟩, 33), (⟨"LastWordAtModel", "canSay", "(I)Z"⟩, 33), (⟨"LastWordAtModel", "isThere", "(I)Z"⟩, 33), (⟨"LastWordAtModel", "get", "(II)I"⟩, 33), (⟨"LastWordAtModel", "keep", "()V"⟩, 33), (⟨"LastWordAtModel", "sayNow", "(II)I"⟩, 33)]
theorem lw_r5 : ∀ q ∈ lw_privs_5, lw_okq q := List.forall_mem_cons.mpr ⟨lw_p64, List.forall_mem_cons.mpr ⟨lw_p65, List.forall_mem_cons.mpr ⟨lw_p66, List.forall_mem_cons.mpr ⟨lw_p67, List.forall_mem_cons.mpr ⟨lw_p68, List.forall_mem_cons.mpr ⟨lw_p69, List.forall_mem_cons.mpr ⟨lw_p70, List.forall_mem_cons.mpr ⟨lw_p71, List.forall_mem_cons.mpr ⟨lw_p72, List.forall_mem_cons.mpr ⟨lw_p73, List.forall_mem_cons.mpr ⟨lw_p74, List.forall_mem_cons.mpr ⟨lw_p75, List.forall_mem_cons.mpr ⟨lw_p76, List.forall_mem_cons.mpr ⟨lw_p77, List.forall_mem_cons.mpr ⟨lw_p78, List.forall_mem_cons.mpr ⟨lw_p79, fun _ h => absurd h List.not_mem_nil⟩⟩⟩⟩⟩⟩⟩⟩⟩⟩⟩⟩⟩⟩⟩⟩
theorem lw_p80 : lw_okq (⟨"LastWordAtModel", "wouldFall", "(II)I"⟩, 33) := ⟨⟨by decide +kernel, by decide +kernel⟩, List.mem_of_getElem? (i := 1193) (by decide +kernel), List.mem_of_getElem? (i := 1518) (by decide +kernel), List.mem_of_getElem? (i := 1519) (by decide +kernel)⟩
theorem lw_p81 : lw_okq (⟨"LastWordAtModel", "there", "()I"⟩, 33) := ⟨⟨by decide +kernel, by decide +kernel⟩, List.mem_of_getElem? (i := 1193) (by decide +kernel), List.mem_of_getElem? (i := 1522) (by decide +kernel), List.mem_of_getElem? (i := 1523) (by decide +kernel)⟩
theorem lw_p82 : lw_okq (⟨"LastWordAtModel", "holdNow", "()I"⟩, 33) := ⟨⟨by decide +kernel, by decide +kernel⟩, List.mem_of_getElem? (i := 1193) (by decide +kernel), List.mem_of_getElem? (i := 1529) (by decide +kernel), List.mem_of_getElem? (i := 1530) (by decide +kernel)⟩
theorem lw_p83 : lw_okq (⟨"LastWordAtModel", "holdBy", "(I)I"⟩, 33) := ⟨⟨by decide +kernel, by decide +kernel⟩, List.mem_of_getElem? (i := 1193) (by decide +kernel), List.mem_of_getElem? (i := 1533) (by decide +kernel), List.mem_of_getElem? (i := 1534) (by decide +kernel)⟩
theorem lw_p84 : lw_okq (⟨"LastWordAtModel", "startHolding", "()V"⟩, 33) := ⟨⟨by decide +kernel, by decide +kernel⟩, List.mem_of_getElem? (i := 1193) (by decide +kernel), List.mem_of_getElem? (i := 1537) (by decide +kernel), List.mem_of_getElem? (i := 1538) (by decide +kernel)⟩
theorem lw_p85 : lw_okq (⟨"LastWordAtModel", "fallsOf", "(I)I"⟩, 33) := ⟨⟨by decide +kernel, by decide +kernel⟩, List.mem_of_getElem? (i := 1193) (by decide +kernel), List.mem_of_getElem? (i := 1541) (by decide +kernel), List.mem_of_getElem? (i := 1542) (by decide +kernel)⟩
theorem lw_p86 : lw_okq (⟨"LastWordAtModel", "whoOf", "(I)I"⟩, 33) := ⟨⟨by decide +kernel, by decide +kernel⟩, List.mem_of_getElem? (i := 1193) (by decide +kernel), List.mem_of_getElem? (i := 1545) (by decide +kernel), List.mem_of_getElem? (i := 1546) (by decide +kernel)⟩
theorem lw_p87 : lw_okq (⟨"LastWordAtModel", "consider", "(II)V"⟩, 33) := ⟨⟨by decide +kernel, by decide +kernel⟩, List.mem_of_getElem? (i := 1193) (by decide +kernel), List.mem_of_getElem? (i := 1549) (by decide +kernel), List.mem_of_getElem? (i := 1550) (by decide +kernel)⟩
theorem lw_p88 : lw_okq (⟨"LastWordAtModel", "clauseOf", "(I)I"⟩, 33) := ⟨⟨by decide +kernel, by decide +kernel⟩, List.mem_of_getElem? (i := 1193) (by decide +kernel), List.mem_of_getElem? (i := 1553) (by decide +kernel), List.mem_of_getElem? (i := 1554) (by decide +kernel)⟩
theorem lw_p89 : lw_okq (⟨"LastWordAtModel", "work", "(I)V"⟩, 33) := ⟨⟨by decide +kernel, by decide +kernel⟩, List.mem_of_getElem? (i := 1193) (by decide +kernel), List.mem_of_getElem? (i := 1557) (by decide +kernel), List.mem_of_getElem? (i := 1558) (by decide +kernel)⟩
theorem lw_p90 : lw_okq (⟨"LastWordAtModel", "choose", "(III)I"⟩, 33) := ⟨⟨by decide +kernel, by decide +kernel⟩, List.mem_of_getElem? (i := 1193) (by decide +kernel), List.mem_of_getElem? (i := 1561) (by decide +kernel), List.mem_of_getElem? (i := 1562) (by decide +kernel)⟩
theorem lw_p91 : lw_okq (⟨"LastWordAtModel", "says", "(III)I"⟩, 33) := ⟨⟨by decide +kernel, by decide +kernel⟩, List.mem_of_getElem? (i := 1193) (by decide +kernel), List.mem_of_getElem? (i := 1576) (by decide +kernel), List.mem_of_getElem? (i := 1577) (by decide +kernel)⟩
theorem lw_p92 : lw_okq (⟨"LastWordAtModel", "log", "(III)V"⟩, 33) := ⟨⟨by decide +kernel, by decide +kernel⟩, List.mem_of_getElem? (i := 1193) (by decide +kernel), List.mem_of_getElem? (i := 1580) (by decide +kernel), List.mem_of_getElem? (i := 1581) (by decide +kernel)⟩
theorem lw_p93 : lw_okq (⟨"LastWordAtModel", "arePassed", "(I)Z"⟩, 33) := ⟨⟨by decide +kernel, by decide +kernel⟩, List.mem_of_getElem? (i := 1193) (by decide +kernel), List.mem_of_getElem? (i := 1595) (by decide +kernel), List.mem_of_getElem? (i := 1596) (by decide +kernel)⟩
theorem lw_p94 : lw_okq (⟨"LastWordAtModel", "passNow", "()V"⟩, 33) := ⟨⟨by decide +kernel, by decide +kernel⟩, List.mem_of_getElem? (i := 1193) (by decide +kernel), List.mem_of_getElem? (i := 1599) (by decide +kernel), List.mem_of_getElem? (i := 1600) (by decide +kernel)⟩
theorem lw_p95 : lw_okq (⟨"LastWordAtModel", "endNow", "()I"⟩, 33) := ⟨⟨by decide +kernel, by decide +kernel⟩, List.mem_of_getElem? (i := 1193) (by decide +kernel), List.mem_of_getElem? (i := 1611) (by decide +kernel), List.mem_of_getElem? (i := 1612) (by decide +kernel)⟩
def lw_privs_6 : List (MethodName × Nat) := [(⟨"LastWordAtModel", "wouldFall", "(II)I"⟩, 33), (⟨"LastWordAtModel", "there", "()I"⟩, 33), (⟨"LastWordAtModel", "holdNow", "()I"⟩, 33), (⟨"LastWordAtModel", "holdBy", "(I)I"⟩, 33), (⟨"LastWordAtModel", "startHolding", "()V"⟩, 33), (⟨"LastWordAtModel", "fallsOf", "(I)I"⟩, 33), (⟨"LastWordAtModel", "whoOf", "(I)I"⟩, 33), (⟨"LastWordAtModel", "consider", "(II)V"⟩, 33), (⟨"LastWordAtModel", "clauseOf", "(I)I"⟩, 33), (⟨"LastWordAtModel", "work", "(I)V"⟩, 33), (⟨"LastWordAtModel", "choose", "(III)I"⟩, 33), (⟨"LastWordAtModel", "says", "(III)I"⟩, 33), (⟨"LastWordAtModel", "log", "(III)V"⟩, 33), (⟨"LastWordAtModel", "arePassed", "(I)Z"⟩, 33), (⟨"LastWordAtModel", "passNow", "()V"⟩, 33), (⟨"LastWordAtModel", "endNow", "()I"⟩, 33)]
theorem lw_r6 : ∀ q ∈ lw_privs_6, lw_okq q := List.forall_mem_cons.mpr ⟨lw_p80, List.forall_mem_cons.mpr ⟨lw_p81, List.forall_mem_cons.mpr ⟨lw_p82, List.forall_mem_cons.mpr ⟨lw_p83, List.forall_mem_cons.mpr ⟨lw_p84, List.forall_mem_cons.mpr ⟨lw_p85, List.forall_mem_cons.mpr ⟨lw_p86, List.forall_mem_cons.mpr ⟨lw_p87, List.forall_mem_cons.mpr ⟨lw_p88, List.forall_mem_cons.mpr ⟨lw_p89, List.forall_mem_cons.mpr ⟨lw_p90, List.forall_mem_cons.mpr ⟨lw_p91, List.forall_mem_cons.mpr ⟨lw_p92, List.forall_mem_cons.mpr ⟨lw_p93, List.forall_mem_cons.mpr ⟨lw_p94, List.forall_mem_cons.mpr ⟨lw_p95, fun _ h => absurd h List.not_mem_nil⟩⟩⟩⟩⟩⟩⟩⟩⟩⟩⟩⟩⟩⟩⟩⟩
theorem lw_p96 : lw_okq (⟨"LastWordAtModel", "wouldHold", "()I"⟩, 33) := ⟨⟨by decide +kernel, by decide +kernel⟩, List.mem_of_getElem? (i := 1193) (by decide +kernel), List.mem_of_getElem? (i := 1615) (by decide +kernel), List.mem_of_getElem? (i := 1616) (by decide +kernel)⟩
theorem lw_p97 : lw_okq (⟨"LastWordAtModel", "diesNow", "()I"⟩, 33) := ⟨⟨by decide +kernel, by decide +kernel⟩, List.mem_of_getElem? (i := 1193) (by decide +kernel), List.mem_of_getElem? (i := 1619) (by decide +kernel), List.mem_of_getElem? (i := 1620) (by decide +kernel)⟩
theorem lw_p98 : lw_okq (⟨"LastWordAtModel", "isPlayed", "(I)Z"⟩, 33) := ⟨⟨by decide +kernel, by decide +kernel⟩, List.mem_of_getElem? (i := 1193) (by decide +kernel), List.mem_of_getElem? (i := 1627) (by decide +kernel), List.mem_of_getElem? (i := 1628) (by decide +kernel)⟩
theorem lw_p99 : lw_okq (⟨"LastWordAtModel", "happens", "(I)I"⟩, 33) := ⟨⟨by decide +kernel, by decide +kernel⟩, List.mem_of_getElem? (i := 1193) (by decide +kernel), List.mem_of_getElem? (i := 1640) (by decide +kernel), List.mem_of_getElem? (i := 1641) (by decide +kernel)⟩
theorem lw_p100 : lw_okq (⟨"LastWordAtModel", "momentOf", "(I)I"⟩, 33) := ⟨⟨by decide +kernel, by decide +kernel⟩, List.mem_of_getElem? (i := 1193) (by decide +kernel), List.mem_of_getElem? (i := 1656) (by decide +kernel), List.mem_of_getElem? (i := 1657) (by decide +kernel)⟩
theorem lw_p101 : lw_okq (⟨"LastWordAtModel", "kindOf", "(I)I"⟩, 33) := ⟨⟨by decide +kernel, by decide +kernel⟩, List.mem_of_getElem? (i := 1193) (by decide +kernel), List.mem_of_getElem? (i := 1661) (by decide +kernel), List.mem_of_getElem? (i := 1662) (by decide +kernel)⟩
theorem lw_p102 : lw_okq (⟨"LastWordAtModel", "shown", "()I"⟩, 33) := ⟨⟨by decide +kernel, by decide +kernel⟩, List.mem_of_getElem? (i := 1193) (by decide +kernel), List.mem_of_getElem? (i := 1669) (by decide +kernel), List.mem_of_getElem? (i := 1670) (by decide +kernel)⟩
theorem lw_p103 : lw_okq (⟨"LastWordAtModel", "entry", "(I)I"⟩, 33) := ⟨⟨by decide +kernel, by decide +kernel⟩, List.mem_of_getElem? (i := 1193) (by decide +kernel), List.mem_of_getElem? (i := 1673) (by decide +kernel), List.mem_of_getElem? (i := 1674) (by decide +kernel)⟩
theorem lw_p104 : lw_okq (⟨"LastWordAtModel", "heldIn", "(I)I"⟩, 33) := ⟨⟨by decide +kernel, by decide +kernel⟩, List.mem_of_getElem? (i := 1193) (by decide +kernel), List.mem_of_getElem? (i := 1677) (by decide +kernel), List.mem_of_getElem? (i := 1678) (by decide +kernel)⟩
theorem lw_p105 : lw_okq (⟨"LastWordAtModel", "diedIn", "(I)I"⟩, 33) := ⟨⟨by decide +kernel, by decide +kernel⟩, List.mem_of_getElem? (i := 1193) (by decide +kernel), List.mem_of_getElem? (i := 1681) (by decide +kernel), List.mem_of_getElem? (i := 1682) (by decide +kernel)⟩
theorem lw_p106 : lw_okq (⟨"LastWordAtModel", "areNights", "(I)Z"⟩, 33) := ⟨⟨by decide +kernel, by decide +kernel⟩, List.mem_of_getElem? (i := 1193) (by decide +kernel), List.mem_of_getElem? (i := 1689) (by decide +kernel), List.mem_of_getElem? (i := 1690) (by decide +kernel)⟩
theorem lw_p107 : lw_okq (⟨"LastWordAtModel", "diesIn", "(II)J"⟩, 33) := ⟨⟨by decide +kernel, by decide +kernel⟩, List.mem_of_getElem? (i := 1193) (by decide +kernel), List.mem_of_getElem? (i := 1694) (by decide +kernel), List.mem_of_getElem? (i := 1695) (by decide +kernel)⟩
theorem lw_p108 : lw_okq (⟨"LastWordAtModel", "isSet", "(I)Z"⟩, 33) := ⟨⟨by decide +kernel, by decide +kernel⟩, List.mem_of_getElem? (i := 1193) (by decide +kernel), List.mem_of_getElem? (i := 1717) (by decide +kernel), List.mem_of_getElem? (i := 1718) (by decide +kernel)⟩
theorem lw_p109 : lw_okq (⟨"LastWordAtModel", "holdWith", "(II)I"⟩, 33) := ⟨⟨by decide +kernel, by decide +kernel⟩, List.mem_of_getElem? (i := 1193) (by decide +kernel), List.mem_of_getElem? (i := 1741) (by decide +kernel), List.mem_of_getElem? (i := 1742) (by decide +kernel)⟩
theorem lw_p110 : lw_okq (⟨"LastWordAtModel", "holdWithTwo", "(IIII)I"⟩, 33) := ⟨⟨by decide +kernel, by decide +kernel⟩, List.mem_of_getElem? (i := 1193) (by decide +kernel), List.mem_of_getElem? (i := 1749) (by decide +kernel), List.mem_of_getElem? (i := 1750) (by decide +kernel)⟩
theorem lw_p111 : lw_okq (⟨"LastWordAtModel", "layToasts", "()V"⟩, 33) := ⟨⟨by decide +kernel, by decide +kernel⟩, List.mem_of_getElem? (i := 1193) (by decide +kernel), List.mem_of_getElem? (i := 1789) (by decide +kernel), List.mem_of_getElem? (i := 1790) (by decide +kernel)⟩
def lw_privs_7 : List (MethodName × Nat) := [(⟨"LastWordAtModel", "wouldHold", "()I"⟩, 33), (⟨"LastWordAtModel", "diesNow", "()I"⟩, 33), (⟨"LastWordAtModel", "isPlayed", "(I)Z"⟩, 33), (⟨"LastWordAtModel", "happens", "(I)I"⟩, 33), (⟨"LastWordAtModel", "momentOf", "(I)I"⟩, 33), (⟨"LastWordAtModel", "kindOf", "(I)I"⟩, 33), (⟨"LastWordAtModel", "shown", "()I"⟩, 33), (⟨"LastWordAtModel", "entry", "(I)I"⟩, 33), (⟨"LastWordAtModel", "heldIn", "(I)I"⟩, 33), (⟨"LastWordAtModel", "diedIn", "(I)I"⟩, 33), (⟨"LastWordAtModel", "areNights", "(I)Z"⟩, 33), (⟨"LastWordAtModel", "diesIn", "(II)J"⟩, 33), (⟨"LastWordAtModel", "isSet", "(I)Z"⟩, 33), (⟨"LastWordAtModel", "holdWith", "(II)I"⟩, 33), (⟨"LastWordAtModel", "holdWithTwo", "(IIII)I"⟩, 33), (⟨"LastWordAtModel", "layToasts", "()V"⟩, 33)]
theorem lw_r7 : ∀ q ∈ lw_privs_7, lw_okq q := List.forall_mem_cons.mpr ⟨lw_p96, List.forall_mem_cons.mpr ⟨lw_p97, List.forall_mem_cons.mpr ⟨lw_p98, List.forall_mem_cons.mpr ⟨lw_p99, List.forall_mem_cons.mpr ⟨lw_p100, List.forall_mem_cons.mpr ⟨lw_p101, List.forall_mem_cons.mpr ⟨lw_p102, List.forall_mem_cons.mpr ⟨lw_p103, List.forall_mem_cons.mpr ⟨lw_p104, List.forall_mem_cons.mpr ⟨lw_p105, List.forall_mem_cons.mpr ⟨lw_p106, List.forall_mem_cons.mpr ⟨lw_p107, List.forall_mem_cons.mpr ⟨lw_p108, List.forall_mem_cons.mpr ⟨lw_p109, List.forall_mem_cons.mpr ⟨lw_p110, List.forall_mem_cons.mpr ⟨lw_p111, fun _ h => absurd h List.not_mem_nil⟩⟩⟩⟩⟩⟩⟩⟩⟩⟩⟩⟩⟩⟩⟩⟩
theorem lw_p112 : lw_okq (⟨"LastWordAtModel", "nextBy", "()I"⟩, 33) := ⟨⟨by decide +kernel, by decide +kernel⟩, List.mem_of_getElem? (i := 1193) (by decide +kernel), List.mem_of_getElem? (i := 1793) (by decide +kernel), List.mem_of_getElem? (i := 1794) (by decide +kernel)⟩
theorem lw_p113 : lw_okq (⟨"LastWordAtModel", "isToCome", "(III)Z"⟩, 33) := ⟨⟨by decide +kernel, by decide +kernel⟩, List.mem_of_getElem? (i := 1193) (by decide +kernel), List.mem_of_getElem? (i := 1813) (by decide +kernel), List.mem_of_getElem? (i := 1814) (by decide +kernel)⟩
theorem lw_p114 : lw_okq (⟨"LastWordAtModel", "oddsBy", "(IIII)J"⟩, 33) := ⟨⟨by decide +kernel, by decide +kernel⟩, List.mem_of_getElem? (i := 1193) (by decide +kernel), List.mem_of_getElem? (i := 1817) (by decide +kernel), List.mem_of_getElem? (i := 1818) (by decide +kernel)⟩
theorem lw_p115 : lw_okq (⟨"LastWordAtModel", "bestWords", "(IIII)I"⟩, 33) := ⟨⟨by decide +kernel, by decide +kernel⟩, List.mem_of_getElem? (i := 1193) (by decide +kernel), List.mem_of_getElem? (i := 1825) (by decide +kernel), List.mem_of_getElem? (i := 1826) (by decide +kernel)⟩
theorem lw_p116 : lw_okq (⟨"LastWordAtModel", "answered", "(IIIIJ)J"⟩, 33) := ⟨⟨by decide +kernel, by decide +kernel⟩, List.mem_of_getElem? (i := 1193) (by decide +kernel), List.mem_of_getElem? (i := 1838) (by decide +kernel), List.mem_of_getElem? (i := 1839) (by decide +kernel)⟩
theorem lw_p117 : lw_okq (⟨"LastWordAtModel", "spoken", "(IIIIJ)J"⟩, 33) := ⟨⟨by decide +kernel, by decide +kernel⟩, List.mem_of_getElem? (i := 1193) (by decide +kernel), List.mem_of_getElem? (i := 1842) (by decide +kernel), List.mem_of_getElem? (i := 1843) (by decide +kernel)⟩
def lw_privs_8 : List (MethodName × Nat) := [(⟨"LastWordAtModel", "nextBy", "()I"⟩, 33), (⟨"LastWordAtModel", "isToCome", "(III)Z"⟩, 33), (⟨"LastWordAtModel", "oddsBy", "(IIII)J"⟩, 33), (⟨"LastWordAtModel", "bestWords", "(IIII)I"⟩, 33), (⟨"LastWordAtModel", "answered", "(IIIIJ)J"⟩, 33), (⟨"LastWordAtModel", "spoken", "(IIIIJ)J"⟩, 33)]
theorem lw_r8 : ∀ q ∈ lw_privs_8, lw_okq q := List.forall_mem_cons.mpr ⟨lw_p112, List.forall_mem_cons.mpr ⟨lw_p113, List.forall_mem_cons.mpr ⟨lw_p114, List.forall_mem_cons.mpr ⟨lw_p115, List.forall_mem_cons.mpr ⟨lw_p116, List.forall_mem_cons.mpr ⟨lw_p117, fun _ h => absurd h List.not_mem_nil⟩⟩⟩⟩⟩⟩
def lw_privs : List (MethodName × Nat) := lw_privs_1 ++ (lw_privs_2 ++ (lw_privs_3 ++ (lw_privs_4 ++ (lw_privs_5 ++ (lw_privs_6 ++ (lw_privs_7 ++ (lw_privs_8)))))))
def lw_tbl : List Cond := k2_sels lw_privs ++ tables_1
theorem lw_privs_ok : ∀ q ∈ lw_privs, lw_okq q := by
  show ∀ q ∈ lw_privs_1 ++ (lw_privs_2 ++ (lw_privs_3 ++ (lw_privs_4 ++ (lw_privs_5 ++ (lw_privs_6 ++ (lw_privs_7 ++ (lw_privs_8))))))), lw_okq q
  exact List.forall_mem_append.mpr ⟨lw_r1, List.forall_mem_append.mpr ⟨lw_r2, List.forall_mem_append.mpr ⟨lw_r3, List.forall_mem_append.mpr ⟨lw_r4, List.forall_mem_append.mpr ⟨lw_r5, List.forall_mem_append.mpr ⟨lw_r6, List.forall_mem_append.mpr ⟨lw_r7, lw_r8⟩⟩⟩⟩⟩⟩⟩
/-! THE TABLES: the classes whose objects the heap holds, the words that every contract takes. -/
def am_T0 : u_T := fun k => match k with
  | 0 => ("LastWordAt$Chances", "dies", "[[I", true)
  | 1 => ("LastWordAt$Chances", "falling", "[I", true)
  | 2 => ("LastWordAt$Chances", "holdingAtFirst", "I", false)
  | 3 => ("LastWordAt$Chances", "values", "[J", true)
  | 4 => ("LastWordAt$Chances", "later", "[J", true)
  | 5 => ("LastWordAt$Chances", "unit", "J", false)
  | 6 => ("LastWordAt$Chances", "difference", "J", false)
  | _ => ("LastWordAt$Chances", "firstSpeaks", "Z", false)
def am_ty0 : Nat → FieldType := fun k => match k with
  | 0 => .array (.array .int)
  | 1 => .array .int
  | 2 => .int
  | 3 => .array .long
  | 4 => .array .long
  | 5 => .long
  | 6 => .long
  | _ => .boolean
theorem am_nm0 : ∀ a, a < 8 → ∀ b, b < 8 → a ≠ b → (am_T0 a).2.1 ≠ (am_T0 b).2.1 := by decide +kernel
theorem am_tyo0 : ∀ k, k < 8 → parseFieldDescriptor (am_T0 k).2.2.1 = some (am_ty0 k) := by decide +kernel
def am_T1 : u_T := fun k => match k with
  | 0 => ("LastWordAt$Evening", "cells", "[I", true)
  | _ => ("LastWordAt$Evening", "fallen", "[I", true)
def am_ty1 : Nat → FieldType := fun k => match k with
  | 0 => .array .int
  | _ => .array .int
theorem am_nm1 : ∀ a, a < 2 → ∀ b, b < 2 → a ≠ b → (am_T1 a).2.1 ≠ (am_T1 b).2.1 := by decide +kernel
theorem am_tyo1 : ∀ k, k < 2 → parseFieldDescriptor (am_T1 k).2.2.1 = some (am_ty1 k) := by decide +kernel
def am_T2 : u_T := fun k => match k with
  | 0 => ("LastWordAt$Guests", "rank", "[I", true)
  | 1 => ("LastWordAt$Guests", "hears", "[I", true)
  | 2 => ("LastWordAt$Guests", "goes", "[I", true)
  | _ => ("LastWordAt$Guests", "count", "I", false)
def am_ty2 : Nat → FieldType := fun k => match k with
  | 0 => .array .int
  | 1 => .array .int
  | 2 => .array .int
  | _ => .int
theorem am_nm2 : ∀ a, a < 4 → ∀ b, b < 4 → a ≠ b → (am_T2 a).2.1 ≠ (am_T2 b).2.1 := by decide +kernel
theorem am_tyo2 : ∀ k, k < 4 → parseFieldDescriptor (am_T2 k).2.2.1 = some (am_ty2 k) := by decide +kernel
def am_T3 : u_T := fun k => match k with
  | 0 => ("LastWordAt$Laws", "named", "[I", true)
  | 1 => ("LastWordAt$Laws", "pile", "[I", true)
  | _ => ("LastWordAt$Laws", "piled", "I", false)
def am_ty3 : Nat → FieldType := fun k => match k with
  | 0 => .array .int
  | 1 => .array .int
  | _ => .int
theorem am_nm3 : ∀ a, a < 3 → ∀ b, b < 3 → a ≠ b → (am_T3 a).2.1 ≠ (am_T3 b).2.1 := by decide +kernel
theorem am_tyo3 : ∀ k, k < 3 → parseFieldDescriptor (am_T3 k).2.2.1 = some (am_ty3 k) := by decide +kernel
def am_T4 : u_T := fun k => match k with
  | 0 => ("LastWordAt$Reader", "hasRead", "Z", false)
  | 1 => ("LastWordAt$Reader", "fault", "I", false)
  | 2 => ("LastWordAt$Reader", "place", "I", false)
  | 3 => ("LastWordAt$Reader", "tape", "LLastWordAt$Tape;", true)
  | 4 => ("LastWordAt$Reader", "draft", "LLastWordAt$Script;", true)
  | 5 => ("LastWordAt$Reader", "law", "I", false)
  | 6 => ("LastWordAt$Reader", "at", "I", false)
  | _ => ("LastWordAt$Reader", "token", "I", false)
def am_ty4 : Nat → FieldType := fun k => match k with
  | 0 => .boolean
  | 1 => .int
  | 2 => .int
  | 3 => .object "LastWordAt$Tape"
  | 4 => .object "LastWordAt$Script"
  | 5 => .int
  | 6 => .int
  | _ => .int
theorem am_nm4 : ∀ a, a < 8 → ∀ b, b < 8 → a ≠ b → (am_T4 a).2.1 ≠ (am_T4 b).2.1 := by decide +kernel
theorem am_tyo4 : ∀ k, k < 8 → parseFieldDescriptor (am_T4 k).2.2.1 = some (am_ty4 k) := by decide +kernel
def am_T5 : u_T := fun k => match k with
  | 0 => ("LastWordAt$Script", "code", "[I", true)
  | 1 => ("LastWordAt$Script", "clause", "[I", true)
  | 2 => ("LastWordAt$Script", "starts", "[I", true)
  | 3 => ("LastWordAt$Script", "size", "I", false)
  | _ => ("LastWordAt$Script", "clauses", "I", false)
def am_ty5 : Nat → FieldType := fun k => match k with
  | 0 => .array .int
  | 1 => .array .int
  | 2 => .array .int
  | 3 => .int
  | _ => .int
theorem am_nm5 : ∀ a, a < 5 → ∀ b, b < 5 → a ≠ b → (am_T5 a).2.1 ≠ (am_T5 b).2.1 := by decide +kernel
theorem am_tyo5 : ∀ k, k < 5 → parseFieldDescriptor (am_T5 k).2.2.1 = some (am_ty5 k) := by decide +kernel
def am_T6 : u_T := fun k => match k with
  | 0 => ("LastWordAt$Steps", "rows", "[[I", true)
  | 1 => ("LastWordAt$Steps", "next", "I", false)
  | _ => ("LastWordAt$Steps", "count", "I", false)
def am_ty6 : Nat → FieldType := fun k => match k with
  | 0 => .array (.array .int)
  | 1 => .int
  | _ => .int
theorem am_nm6 : ∀ a, a < 3 → ∀ b, b < 3 → a ≠ b → (am_T6 a).2.1 ≠ (am_T6 b).2.1 := by decide +kernel
theorem am_tyo6 : ∀ k, k < 3 → parseFieldDescriptor (am_T6 k).2.2.1 = some (am_ty6 k) := by decide +kernel
def am_T7 : u_T := fun k => match k with
  | 0 => ("LastWordAt$Table", "guests", "LLastWordAt$Guests;", true)
  | 1 => ("LastWordAt$Table", "evening", "LLastWordAt$Evening;", true)
  | 2 => ("LastWordAt$Table", "steps", "LLastWordAt$Steps;", true)
  | 3 => ("LastWordAt$Table", "chances", "LLastWordAt$Chances;", true)
  | 4 => ("LastWordAt$Table", "texts", "I", false)
  | _ => ("LastWordAt$Table", "ruling", "I", false)
def am_ty7 : Nat → FieldType := fun k => match k with
  | 0 => .object "LastWordAt$Guests"
  | 1 => .object "LastWordAt$Evening"
  | 2 => .object "LastWordAt$Steps"
  | 3 => .object "LastWordAt$Chances"
  | 4 => .int
  | _ => .int
theorem am_nm7 : ∀ a, a < 6 → ∀ b, b < 6 → a ≠ b → (am_T7 a).2.1 ≠ (am_T7 b).2.1 := by decide +kernel
theorem am_tyo7 : ∀ k, k < 6 → parseFieldDescriptor (am_T7 k).2.2.1 = some (am_ty7 k) := by decide +kernel
def am_T8 : u_T := fun k => match k with
  | 0 => ("LastWordAt$Tape", "bytes", "[I", true)
  | 1 => ("LastWordAt$Tape", "tokens", "[I", true)
  | 2 => ("LastWordAt$Tape", "many", "I", false)
  | _ => ("LastWordAt$Tape", "length", "I", false)
def am_ty8 : Nat → FieldType := fun k => match k with
  | 0 => .array .int
  | 1 => .array .int
  | 2 => .int
  | _ => .int
theorem am_nm8 : ∀ a, a < 4 → ∀ b, b < 4 → a ≠ b → (am_T8 a).2.1 ≠ (am_T8 b).2.1 := by decide +kernel
theorem am_tyo8 : ∀ k, k < 4 → parseFieldDescriptor (am_T8 k).2.2.1 = some (am_ty8 k) := by decide +kernel
def am_T9 : u_T := fun k => match k with
  | 0 => ("LastWordAt", "table", "LLastWordAt$Table;", true)
  | 1 => ("LastWordAt", "kept", "LLastWordAt$Table;", true)
  | 2 => ("LastWordAt", "tape", "LLastWordAt$Tape;", true)
  | 3 => ("LastWordAt", "reader", "LLastWordAt$Reader;", true)
  | 4 => ("LastWordAt", "laws", "LLastWordAt$Laws;", true)
  | 5 => ("LastWordAt", "scripts", "[LLastWordAt$Script;", true)
  | _ => ("LastWordAt", "toasts", "[I", true)
def am_ty9 : Nat → FieldType := fun k => match k with
  | 0 => .object "LastWordAt$Table"
  | 1 => .object "LastWordAt$Table"
  | 2 => .object "LastWordAt$Tape"
  | 3 => .object "LastWordAt$Reader"
  | 4 => .object "LastWordAt$Laws"
  | 5 => .array (.object "LastWordAt$Script")
  | _ => .array .int
theorem am_nm9 : ∀ a, a < 7 → ∀ b, b < 7 → a ≠ b → (am_T9 a).2.1 ≠ (am_T9 b).2.1 := by decide +kernel
theorem am_tyo9 : ∀ k, k < 7 → parseFieldDescriptor (am_T9 k).2.2.1 = some (am_ty9 k) := by decide +kernel
def am_T10 : u_T := fun k => match k with
  | 0 => ("LastWordAtModel", "a", "[I", true)
  | 1 => ("LastWordAtModel", "image", "[I", true)
  | 2 => ("LastWordAtModel", "texts", "[I", true)
  | 3 => ("LastWordAtModel", "tape", "[I", true)
  | 4 => ("LastWordAtModel", "taped", "I", false)
  | 5 => ("LastWordAtModel", "fault", "I", false)
  | 6 => ("LastWordAtModel", "faultPlace", "I", false)
  | 7 => ("LastWordAtModel", "at", "I", false)
  | 8 => ("LastWordAtModel", "place", "I", false)
  | 9 => ("LastWordAtModel", "token", "I", false)
  | 10 => ("LastWordAtModel", "number", "I", false)
  | 11 => ("LastWordAtModel", "word", "J", false)
  | 12 => ("LastWordAtModel", "text0", "I", false)
  | 13 => ("LastWordAtModel", "written", "I", false)
  | 14 => ("LastWordAtModel", "sort0", "I", false)
  | 15 => ("LastWordAtModel", "pile", "[I", true)
  | 16 => ("LastWordAtModel", "cases", "[I", true)
  | 17 => ("LastWordAtModel", "caseFrom", "[I", true)
  | 18 => ("LastWordAtModel", "caseTo", "[I", true)
  | 19 => ("LastWordAtModel", "piled", "I", false)
  | 20 => ("LastWordAtModel", "opens", "I", false)
  | 21 => ("LastWordAtModel", "chooses", "I", false)
  | 22 => ("LastWordAtModel", "isWhole", "Z", false)
  | 23 => ("LastWordAtModel", "isEither", "Z", false)
  | 24 => ("LastWordAtModel", "once", "I", false)
  | 25 => ("LastWordAtModel", "named", "[I", true)
  | 26 => ("LastWordAtModel", "values", "[J", true)
  | 27 => ("LastWordAtModel", "truth", "[Z", true)
  | 28 => ("LastWordAtModel", "latest", "I", false)
  | 29 => ("LastWordAtModel", "holders", "I", false)
  | 30 => ("LastWordAtModel", "toasts", "[I", true)
  | 31 => ("LastWordAtModel", "worth", "[J", true)
  | _ => ("LastWordAtModel", "worthThen", "[J", true)
def am_ty10 : Nat → FieldType := fun k => match k with
  | 0 => .array .int
  | 1 => .array .int
  | 2 => .array .int
  | 3 => .array .int
  | 4 => .int
  | 5 => .int
  | 6 => .int
  | 7 => .int
  | 8 => .int
  | 9 => .int
  | 10 => .int
  | 11 => .long
  | 12 => .int
  | 13 => .int
  | 14 => .int
  | 15 => .array .int
  | 16 => .array .int
  | 17 => .array .int
  | 18 => .array .int
  | 19 => .int
  | 20 => .int
  | 21 => .int
  | 22 => .boolean
  | 23 => .boolean
  | 24 => .int
  | 25 => .array .int
  | 26 => .array .long
  | 27 => .array .boolean
  | 28 => .int
  | 29 => .int
  | 30 => .array .int
  | 31 => .array .long
  | _ => .array .long
theorem am_nm10 : ∀ a, a < 33 → ∀ b, b < 33 → a ≠ b → (am_T10 a).2.1 ≠ (am_T10 b).2.1 := by decide +kernel
theorem am_tyo10 : ∀ k, k < 33 → parseFieldDescriptor (am_T10 k).2.2.1 = some (am_ty10 k) := by decide +kernel
abbrev am_cl : List vw_C := [("LastWordAt$Chances", am_T0, 8), ("LastWordAt$Evening", am_T1, 2), ("LastWordAt$Guests", am_T2, 4), ("LastWordAt$Laws", am_T3, 3), ("LastWordAt$Reader", am_T4, 8), ("LastWordAt$Script", am_T5, 5), ("LastWordAt$Steps", am_T6, 3), ("LastWordAt$Table", am_T7, 6), ("LastWordAt$Tape", am_T8, 4), ("LastWordAt", am_T9, 7), ("LastWordAtModel", am_T10, 33)]
def am_good : List Cond := lw_tbl.filter goodWord
theorem am_good_in {w : Cond} (h : w ∈ am_good) : w ∈ lw_tbl := (List.mem_filter.mp h).1
theorem am_good_of {w : Cond} (h : w ∈ lw_tbl) (g : goodWord w = true) : w ∈ am_good := List.mem_filter.mpr ⟨h, g⟩
theorem am_goodIn {big : List Cond} (hb : ∀ w ∈ am_good, w ∈ big) {c : Cond} (hc : c ∈ am_good) : GoodIn big (c :: am_good) := fun w hw => by
  have h : w ∈ am_good := (List.mem_cons.mp hw).elim (fun e => e ▸ hc) id
  exact ⟨hb w h, good_of_word (List.mem_filter.mp h).2⟩
theorem am_in0 : ∀ w ∈ u_ws "LastWordAt$Chances" am_T0 8, w ∈ am_good := fun w hw => by
  have e : u_ws "LastWordAt$Chances" am_T0 8 = [235, 237, 239, 241, 243, 245, 247, 249].filterMap (fun i => lw_tbl[i]?) := by decide +kernel
  have g : (u_ws "LastWordAt$Chances" am_T0 8).all goodWord = true := by decide +kernel
  have h1 := List.all_eq_true.mp g w hw
  rw [e] at hw
  obtain ⟨i, -, hi⟩ := List.mem_filterMap.mp hw
  exact am_good_of (List.mem_of_getElem? hi) h1
theorem am_in1 : ∀ w ∈ u_ws "LastWordAt$Evening" am_T1 2, w ∈ am_good := fun w hw => by
  have e : u_ws "LastWordAt$Evening" am_T1 2 = [189, 191].filterMap (fun i => lw_tbl[i]?) := by decide +kernel
  have g : (u_ws "LastWordAt$Evening" am_T1 2).all goodWord = true := by decide +kernel
  have h1 := List.all_eq_true.mp g w hw
  rw [e] at hw
  obtain ⟨i, -, hi⟩ := List.mem_filterMap.mp hw
  exact am_good_of (List.mem_of_getElem? hi) h1
theorem am_in2 : ∀ w ∈ u_ws "LastWordAt$Guests" am_T2 4, w ∈ am_good := fun w hw => by
  have e : u_ws "LastWordAt$Guests" am_T2 4 = [170, 172, 174, 176].filterMap (fun i => lw_tbl[i]?) := by decide +kernel
  have g : (u_ws "LastWordAt$Guests" am_T2 4).all goodWord = true := by decide +kernel
  have h1 := List.all_eq_true.mp g w hw
  rw [e] at hw
  obtain ⟨i, -, hi⟩ := List.mem_filterMap.mp hw
  exact am_good_of (List.mem_of_getElem? hi) h1
theorem am_in3 : ∀ w ∈ u_ws "LastWordAt$Laws" am_T3 3, w ∈ am_good := fun w hw => by
  have e : u_ws "LastWordAt$Laws" am_T3 3 = [370, 372, 374].filterMap (fun i => lw_tbl[i]?) := by decide +kernel
  have g : (u_ws "LastWordAt$Laws" am_T3 3).all goodWord = true := by decide +kernel
  have h1 := List.all_eq_true.mp g w hw
  rw [e] at hw
  obtain ⟨i, -, hi⟩ := List.mem_filterMap.mp hw
  exact am_good_of (List.mem_of_getElem? hi) h1
theorem am_in4 : ∀ w ∈ u_ws "LastWordAt$Reader" am_T4 8, w ∈ am_good := fun w hw => by
  have e : u_ws "LastWordAt$Reader" am_T4 8 = [344, 346, 348, 350, 352, 354, 356, 358].filterMap (fun i => lw_tbl[i]?) := by decide +kernel
  have g : (u_ws "LastWordAt$Reader" am_T4 8).all goodWord = true := by decide +kernel
  have h1 := List.all_eq_true.mp g w hw
  rw [e] at hw
  obtain ⟨i, -, hi⟩ := List.mem_filterMap.mp hw
  exact am_good_of (List.mem_of_getElem? hi) h1
theorem am_in5 : ∀ w ∈ u_ws "LastWordAt$Script" am_T5 5, w ∈ am_good := fun w hw => by
  have e : u_ws "LastWordAt$Script" am_T5 5 = [321, 323, 325, 327, 329].filterMap (fun i => lw_tbl[i]?) := by decide +kernel
  have g : (u_ws "LastWordAt$Script" am_T5 5).all goodWord = true := by decide +kernel
  have h1 := List.all_eq_true.mp g w hw
  rw [e] at hw
  obtain ⟨i, -, hi⟩ := List.mem_filterMap.mp hw
  exact am_good_of (List.mem_of_getElem? hi) h1
theorem am_in6 : ∀ w ∈ u_ws "LastWordAt$Steps" am_T6 3, w ∈ am_good := fun w hw => by
  have e : u_ws "LastWordAt$Steps" am_T6 3 = [206, 208, 210].filterMap (fun i => lw_tbl[i]?) := by decide +kernel
  have g : (u_ws "LastWordAt$Steps" am_T6 3).all goodWord = true := by decide +kernel
  have h1 := List.all_eq_true.mp g w hw
  rw [e] at hw
  obtain ⟨i, -, hi⟩ := List.mem_filterMap.mp hw
  exact am_good_of (List.mem_of_getElem? hi) h1
theorem am_in7 : ∀ w ∈ u_ws "LastWordAt$Table" am_T7 6, w ∈ am_good := fun w hw => by
  have e : u_ws "LastWordAt$Table" am_T7 6 = [267, 269, 271, 273, 275, 277].filterMap (fun i => lw_tbl[i]?) := by decide +kernel
  have g : (u_ws "LastWordAt$Table" am_T7 6).all goodWord = true := by decide +kernel
  have h1 := List.all_eq_true.mp g w hw
  rw [e] at hw
  obtain ⟨i, -, hi⟩ := List.mem_filterMap.mp hw
  exact am_good_of (List.mem_of_getElem? hi) h1
theorem am_in8 : ∀ w ∈ u_ws "LastWordAt$Tape" am_T8 4, w ∈ am_good := fun w hw => by
  have e : u_ws "LastWordAt$Tape" am_T8 4 = [292, 294, 296, 298].filterMap (fun i => lw_tbl[i]?) := by decide +kernel
  have g : (u_ws "LastWordAt$Tape" am_T8 4).all goodWord = true := by decide +kernel
  have h1 := List.all_eq_true.mp g w hw
  rw [e] at hw
  obtain ⟨i, -, hi⟩ := List.mem_filterMap.mp hw
  exact am_good_of (List.mem_of_getElem? hi) h1
theorem am_in9 : ∀ w ∈ u_ws "LastWordAt" am_T9 7, w ∈ am_good := fun w hw => by
  have e : u_ws "LastWordAt" am_T9 7 = [387, 389, 391, 393, 395, 397, 399].filterMap (fun i => lw_tbl[i]?) := by decide +kernel
  have g : (u_ws "LastWordAt" am_T9 7).all goodWord = true := by decide +kernel
  have h1 := List.all_eq_true.mp g w hw
  rw [e] at hw
  obtain ⟨i, -, hi⟩ := List.mem_filterMap.mp hw
  exact am_good_of (List.mem_of_getElem? hi) h1
theorem am_in10 : ∀ w ∈ u_ws "LastWordAtModel" am_T10 33, w ∈ am_good := fun w hw => by
  have e : u_ws "LastWordAtModel" am_T10 33 = [1352, 1354, 1356, 1358, 1360, 1362, 1364, 1366, 1368, 1370, 1372, 1374, 1376, 1378, 1380, 1382, 1384, 1386, 1388, 1390, 1392, 1394, 1396, 1398, 1400, 1402, 1404, 1406, 1408, 1410, 1412, 1414, 1416].filterMap (fun i => lw_tbl[i]?) := by decide +kernel
  have g : (u_ws "LastWordAtModel" am_T10 33).all goodWord = true := by decide +kernel
  have h1 := List.all_eq_true.mp g w hw
  rw [e] at hw
  obtain ⟨i, -, hi⟩ := List.mem_filterMap.mp hw
  exact am_good_of (List.mem_of_getElem? hi) h1
