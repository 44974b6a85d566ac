-- ===== PART A: goes FIRST, ahead of the names: the tables' words, and 'selects' of the private methods out of them =====
/-- a private method of a class that the tables say can be made, by its rows of tables_1 -/
def lw_okq (q : MethodName × Nat) : Prop := (q.1.cls ≠ "java/lang/invoke/MethodHandle" ∧ q.1.cls ≠ "java/lang/invoke/VarHandle") ∧ Cond.instantiable q.1.cls q.2 ∈ tables_1 ∧ Cond.privateMethod q.1 ∈ tables_1 ∧ Cond.instanceMethod q.1 ∈ tables_1
theorem lw_p0 : lw_okq (⟨"KeelTolls", "sheetAt", "(I)LKeelTolls$Sheet;"⟩, 11) := ⟨⟨by decide +kernel, by decide +kernel⟩, List.mem_of_getElem? (i := 17) (by decide +kernel), List.mem_of_getElem? (i := 282) (by decide +kernel), List.mem_of_getElem? (i := 283) (by decide +kernel)⟩
theorem lw_p1 : lw_okq (⟨"KeelTolls", "faulted", "(I)I"⟩, 11) := ⟨⟨by decide +kernel, by decide +kernel⟩, List.mem_of_getElem? (i := 17) (by decide +kernel), List.mem_of_getElem? (i := 300) (by decide +kernel), List.mem_of_getElem? (i := 301) (by decide +kernel)⟩
theorem lw_p2 : lw_okq (⟨"KeelTolls", "hullAt", "(I)LKeelTolls$Hull;"⟩, 11) := ⟨⟨by decide +kernel, by decide +kernel⟩, List.mem_of_getElem? (i := 17) (by decide +kernel), List.mem_of_getElem? (i := 328) (by decide +kernel), List.mem_of_getElem? (i := 329) (by decide +kernel)⟩
theorem lw_p3 : lw_okq (⟨"KeelTolls$LawReader", "readWord", "(LKeelTolls$Word;)V"⟩, 5) := ⟨⟨by decide +kernel, by decide +kernel⟩, List.mem_of_getElem? (i := 147) (by decide +kernel), List.mem_of_getElem? (i := 387) (by decide +kernel), List.mem_of_getElem? (i := 388) (by decide +kernel)⟩
theorem lw_p4 : lw_okq (⟨"KeelTolls$LawReader", "readFactor", "(LKeelTolls$Word;)V"⟩, 5) := ⟨⟨by decide +kernel, by decide +kernel⟩, List.mem_of_getElem? (i := 147) (by decide +kernel), List.mem_of_getElem? (i := 395) (by decide +kernel), List.mem_of_getElem? (i := 396) (by decide +kernel)⟩
theorem lw_p5 : lw_okq (⟨"KeelTolls$LawReader", "code", "()I"⟩, 5) := ⟨⟨by decide +kernel, by decide +kernel⟩, List.mem_of_getElem? (i := 147) (by decide +kernel), List.mem_of_getElem? (i := 399) (by decide +kernel), List.mem_of_getElem? (i := 400) (by decide +kernel)⟩
theorem lw_p6 : lw_okq (⟨"KeelTolls$LawReader", "readNumber", "(II)I"⟩, 5) := ⟨⟨by decide +kernel, by decide +kernel⟩, List.mem_of_getElem? (i := 147) (by decide +kernel), List.mem_of_getElem? (i := 406) (by decide +kernel), List.mem_of_getElem? (i := 407) (by decide +kernel)⟩
theorem lw_p7 : lw_okq (⟨"KeelTolls$LawReader", "failAt", "(I)V"⟩, 5) := ⟨⟨by decide +kernel, by decide +kernel⟩, List.mem_of_getElem? (i := 147) (by decide +kernel), List.mem_of_getElem? (i := 410) (by decide +kernel), List.mem_of_getElem? (i := 411) (by decide +kernel)⟩
theorem lw_p8 : lw_okq (⟨"KeelTolls$LawReader", "takes", "(I)Z"⟩, 5) := ⟨⟨by decide +kernel, by decide +kernel⟩, List.mem_of_getElem? (i := 147) (by decide +kernel), List.mem_of_getElem? (i := 425) (by decide +kernel), List.mem_of_getElem? (i := 426) (by decide +kernel)⟩
theorem lw_p9 : lw_okq (⟨"KeelTolls", "lawAt", "(I)LKeelTolls$Law;"⟩, 11) := ⟨⟨by decide +kernel, by decide +kernel⟩, List.mem_of_getElem? (i := 17) (by decide +kernel), List.mem_of_getElem? (i := 433) (by decide +kernel), List.mem_of_getElem? (i := 434) (by decide +kernel)⟩
theorem lw_p10 : lw_okq (⟨"KeelTolls", "isLawOrNone", "(I)Z"⟩, 11) := ⟨⟨by decide +kernel, by decide +kernel⟩, List.mem_of_getElem? (i := 17) (by decide +kernel), List.mem_of_getElem? (i := 489) (by decide +kernel), List.mem_of_getElem? (i := 490) (by decide +kernel)⟩
theorem lw_p11 : lw_okq (⟨"KeelTolls", "worthBy", "([ILKeelTolls$Law;I)I"⟩, 11) := ⟨⟨by decide +kernel, by decide +kernel⟩, List.mem_of_getElem? (i := 17) (by decide +kernel), List.mem_of_getElem? (i := 494) (by decide +kernel), List.mem_of_getElem? (i := 495) (by decide +kernel)⟩
theorem lw_p12 : lw_okq (⟨"KeelTolls", "bestBy", "(IIILKeelTolls$Law;I)LKeelTolls$Best;"⟩, 11) := ⟨⟨by decide +kernel, by decide +kernel⟩, List.mem_of_getElem? (i := 17) (by decide +kernel), List.mem_of_getElem? (i := 525) (by decide +kernel), List.mem_of_getElem? (i := 526) (by decide +kernel)⟩
theorem lw_p13 : lw_okq (⟨"KeelTolls", "hullThatGoes", "(ILKeelTolls$Law;)I"⟩, 11) := ⟨⟨by decide +kernel, by decide +kernel⟩, List.mem_of_getElem? (i := 17) (by decide +kernel), List.mem_of_getElem? (i := 620) (by decide +kernel), List.mem_of_getElem? (i := 621) (by decide +kernel)⟩
theorem lw_p14 : lw_okq (⟨"KeelTolls", "wordsOfAll", "()I"⟩, 11) := ⟨⟨by decide +kernel, by decide +kernel⟩, List.mem_of_getElem? (i := 17) (by decide +kernel), List.mem_of_getElem? (i := 720) (by decide +kernel), List.mem_of_getElem? (i := 721) (by decide +kernel)⟩
theorem lw_p15 : lw_okq (⟨"KeelTollsModel", "refused", "(I)I"⟩, 24) := ⟨⟨by decide +kernel, by decide +kernel⟩, List.mem_of_getElem? (i := 724) (by decide +kernel), List.mem_of_getElem? (i := 814) (by decide +kernel), List.mem_of_getElem? (i := 815) (by decide +kernel)⟩
def lw_privs_1 : List (MethodName × Nat) := [(⟨"KeelTolls", "sheetAt", "(I)LKeelTolls$Sheet;"⟩, 11), (⟨"KeelTolls", "faulted", "(I)I"⟩, 11), (⟨"KeelTolls", "hullAt", "(I)LKeelTolls$Hull;"⟩, 11), (⟨"KeelTolls$LawReader", "readWord", "(LKeelTolls$Word;)V"⟩, 5), (⟨"KeelTolls$LawReader", "readFactor", "(LKeelTolls$Word;)V"⟩, 5), (⟨"KeelTolls$LawReader", "code", "()I"⟩, 5), (⟨"KeelTolls$LawReader", "readNumber", "(II)I"⟩, 5), (⟨"KeelTolls$LawReader", "failAt", "(I)V"⟩, 5), (⟨"KeelTolls$LawReader", "takes", "(I)Z"⟩, 5), (⟨"KeelTolls", "lawAt", "(I)LKeelTolls$Law;"⟩, 11), (⟨"KeelTolls", "isLawOrNone", "(I)Z"⟩, 11), (⟨"KeelTolls", "worthBy", "([ILKeelTolls$Law;I)I"⟩, 11), (⟨"KeelTolls", "bestBy", "(IIILKeelTolls$Law;I)LKeelTolls$Best;"⟩, 11), (⟨"KeelTolls", "hullThatGoes", "(ILKeelTolls$Law;)I"⟩, 11), (⟨"KeelTolls", "wordsOfAll", "()I"⟩, 11), (⟨"KeelTollsModel", "refused", "(I)I"⟩, 24)]
theorem lw_r1 : ∀ q ∈ lw_privs_1, lw_okq q := List.forall_mem_cons.mpr ⟨lw_p0, List.forall_mem_cons.mpr ⟨lw_p1, List.forall_mem_cons.mpr ⟨lw_p2, List.forall_mem_cons.mpr ⟨lw_p3, List.forall_mem_cons.mpr ⟨lw_p4, List.forall_mem_cons.mpr ⟨lw_p5, List.forall_mem_cons.mpr ⟨lw_p6, List.forall_mem_cons.mpr ⟨lw_p7, List.forall_mem_cons.mpr ⟨lw_p8, List.forall_mem_cons.mpr ⟨lw_p9, List.forall_mem_cons.mpr ⟨lw_p10, List.forall_mem_cons.mpr ⟨lw_p11, List.forall_mem_cons.mpr ⟨lw_p12, List.forall_mem_cons.mpr ⟨lw_p13, List.forall_mem_cons.mpr ⟨lw_p14, List.forall_mem_cons.mpr ⟨lw_p15, fun _ h => absurd h List.not_mem_nil⟩⟩⟩⟩⟩⟩⟩⟩⟩⟩⟩⟩⟩⟩⟩⟩
theorem lw_p16 : lw_okq (⟨"KeelTollsModel", "barred", "(IIIJ)I"⟩, 24) := ⟨⟨by decide +kernel, by decide +kernel⟩, List.mem_of_getElem? (i := 724) (by decide +kernel), List.mem_of_getElem? (i := 825) (by decide +kernel), List.mem_of_getElem? (i := 826) (by decide +kernel)⟩
theorem lw_p17 : lw_okq (⟨"KeelTollsModel", "failed", "(I)I"⟩, 24) := ⟨⟨by decide +kernel, by decide +kernel⟩, List.mem_of_getElem? (i := 724) (by decide +kernel), List.mem_of_getElem? (i := 829) (by decide +kernel), List.mem_of_getElem? (i := 830) (by decide +kernel)⟩
theorem lw_p18 : lw_okq (⟨"KeelTollsModel", "noHull", "(I)Z"⟩, 24) := ⟨⟨by decide +kernel, by decide +kernel⟩, List.mem_of_getElem? (i := 724) (by decide +kernel), List.mem_of_getElem? (i := 842) (by decide +kernel), List.mem_of_getElem? (i := 843) (by decide +kernel)⟩
theorem lw_p19 : lw_okq (⟨"KeelTollsModel", "takeUp", "(I)V"⟩, 24) := ⟨⟨by decide +kernel, by decide +kernel⟩, List.mem_of_getElem? (i := 724) (by decide +kernel), List.mem_of_getElem? (i := 847) (by decide +kernel), List.mem_of_getElem? (i := 848) (by decide +kernel)⟩
theorem lw_p20 : lw_okq (⟨"KeelTollsModel", "measure", "(I)I"⟩, 24) := ⟨⟨by decide +kernel, by decide +kernel⟩, List.mem_of_getElem? (i := 724) (by decide +kernel), List.mem_of_getElem? (i := 851) (by decide +kernel), List.mem_of_getElem? (i := 852) (by decide +kernel)⟩
theorem lw_p21 : lw_okq (⟨"KeelTollsModel", "room", "()I"⟩, 24) := ⟨⟨by decide +kernel, by decide +kernel⟩, List.mem_of_getElem? (i := 724) (by decide +kernel), List.mem_of_getElem? (i := 858) (by decide +kernel), List.mem_of_getElem? (i := 859) (by decide +kernel)⟩
theorem lw_p22 : lw_okq (⟨"KeelTollsModel", "price", "()I"⟩, 24) := ⟨⟨by decide +kernel, by decide +kernel⟩, List.mem_of_getElem? (i := 724) (by decide +kernel), List.mem_of_getElem? (i := 862) (by decide +kernel), List.mem_of_getElem? (i := 863) (by decide +kernel)⟩
theorem lw_p23 : lw_okq (⟨"KeelTollsModel", "noStation", "(II)Z"⟩, 24) := ⟨⟨by decide +kernel, by decide +kernel⟩, List.mem_of_getElem? (i := 724) (by decide +kernel), List.mem_of_getElem? (i := 870) (by decide +kernel), List.mem_of_getElem? (i := 871) (by decide +kernel)⟩
theorem lw_p24 : lw_okq (⟨"KeelTollsModel", "readLaw", "(II)I"⟩, 24) := ⟨⟨by decide +kernel, by decide +kernel⟩, List.mem_of_getElem? (i := 724) (by decide +kernel), List.mem_of_getElem? (i := 883) (by decide +kernel), List.mem_of_getElem? (i := 884) (by decide +kernel)⟩
theorem lw_p25 : lw_okq (⟨"KeelTollsModel", "readsWord", "(II)Z"⟩, 24) := ⟨⟨by decide +kernel, by decide +kernel⟩, List.mem_of_getElem? (i := 724) (by decide +kernel), List.mem_of_getElem? (i := 887) (by decide +kernel), List.mem_of_getElem? (i := 888) (by decide +kernel)⟩
theorem lw_p26 : lw_okq (⟨"KeelTollsModel", "factor", "(II)I"⟩, 24) := ⟨⟨by decide +kernel, by decide +kernel⟩, List.mem_of_getElem? (i := 724) (by decide +kernel), List.mem_of_getElem? (i := 891) (by decide +kernel), List.mem_of_getElem? (i := 892) (by decide +kernel)⟩
theorem lw_p27 : lw_okq (⟨"KeelTollsModel", "codeAt", "(II)I"⟩, 24) := ⟨⟨by decide +kernel, by decide +kernel⟩, List.mem_of_getElem? (i := 724) (by decide +kernel), List.mem_of_getElem? (i := 895) (by decide +kernel), List.mem_of_getElem? (i := 896) (by decide +kernel)⟩
theorem lw_p28 : lw_okq (⟨"KeelTollsModel", "number", "(III)I"⟩, 24) := ⟨⟨by decide +kernel, by decide +kernel⟩, List.mem_of_getElem? (i := 724) (by decide +kernel), List.mem_of_getElem? (i := 902) (by decide +kernel), List.mem_of_getElem? (i := 903) (by decide +kernel)⟩
theorem lw_p29 : lw_okq (⟨"KeelTollsModel", "takes", "(III)Z"⟩, 24) := ⟨⟨by decide +kernel, by decide +kernel⟩, List.mem_of_getElem? (i := 724) (by decide +kernel), List.mem_of_getElem? (i := 908) (by decide +kernel), List.mem_of_getElem? (i := 909) (by decide +kernel)⟩
theorem lw_p30 : lw_okq (⟨"KeelTollsModel", "noLaw", "(I)Z"⟩, 24) := ⟨⟨by decide +kernel, by decide +kernel⟩, List.mem_of_getElem? (i := 724) (by decide +kernel), List.mem_of_getElem? (i := 916) (by decide +kernel), List.mem_of_getElem? (i := 917) (by decide +kernel)⟩
theorem lw_p31 : lw_okq (⟨"KeelTollsModel", "toll", "(II)I"⟩, 24) := ⟨⟨by decide +kernel, by decide +kernel⟩, List.mem_of_getElem? (i := 724) (by decide +kernel), List.mem_of_getElem? (i := 924) (by decide +kernel), List.mem_of_getElem? (i := 925) (by decide +kernel)⟩
def lw_privs_2 : List (MethodName × Nat) := [(⟨"KeelTollsModel", "barred", "(IIIJ)I"⟩, 24), (⟨"KeelTollsModel", "failed", "(I)I"⟩, 24), (⟨"KeelTollsModel", "noHull", "(I)Z"⟩, 24), (⟨"KeelTollsModel", "takeUp", "(I)V"⟩, 24), (⟨"KeelTollsModel", "measure", "(I)I"⟩, 24), (⟨"KeelTollsModel", "room", "()I"⟩, 24), (⟨"KeelTollsModel", "price", "()I"⟩, 24), (⟨"KeelTollsModel", "noStation", "(II)Z"⟩, 24), (⟨"KeelTollsModel", "readLaw", "(II)I"⟩, 24), (⟨"KeelTollsModel", "readsWord", "(II)Z"⟩, 24), (⟨"KeelTollsModel", "factor", "(II)I"⟩, 24), (⟨"KeelTollsModel", "codeAt", "(II)I"⟩, 24), (⟨"KeelTollsModel", "number", "(III)I"⟩, 24), (⟨"KeelTollsModel", "takes", "(III)Z"⟩, 24), (⟨"KeelTollsModel", "noLaw", "(I)Z"⟩, 24), (⟨"KeelTollsModel", "toll", "(II)I"⟩, 24)]
theorem lw_r2 : ∀ q ∈ lw_privs_2, lw_okq q := List.forall_mem_cons.mpr ⟨lw_p16, List.forall_mem_cons.mpr ⟨lw_p17, List.forall_mem_cons.mpr ⟨lw_p18, List.forall_mem_cons.mpr ⟨lw_p19, List.forall_mem_cons.mpr ⟨lw_p20, List.forall_mem_cons.mpr ⟨lw_p21, List.forall_mem_cons.mpr ⟨lw_p22, List.forall_mem_cons.mpr ⟨lw_p23, List.forall_mem_cons.mpr ⟨lw_p24, List.forall_mem_cons.mpr ⟨lw_p25, List.forall_mem_cons.mpr ⟨lw_p26, List.forall_mem_cons.mpr ⟨lw_p27, List.forall_mem_cons.mpr ⟨lw_p28, List.forall_mem_cons.mpr ⟨lw_p29, List.forall_mem_cons.mpr ⟨lw_p30, List.forall_mem_cons.mpr ⟨lw_p31, fun _ h => absurd h List.not_mem_nil⟩⟩⟩⟩⟩⟩⟩⟩⟩⟩⟩⟩⟩⟩⟩⟩
theorem lw_p32 : lw_okq (⟨"KeelTollsModel", "wordSum", "(II)I"⟩, 24) := ⟨⟨by decide +kernel, by decide +kernel⟩, List.mem_of_getElem? (i := 724) (by decide +kernel), List.mem_of_getElem? (i := 928) (by decide +kernel), List.mem_of_getElem? (i := 929) (by decide +kernel)⟩
theorem lw_p33 : lw_okq (⟨"KeelTollsModel", "firstBroken", "()I"⟩, 24) := ⟨⟨by decide +kernel, by decide +kernel⟩, List.mem_of_getElem? (i := 724) (by decide +kernel), List.mem_of_getElem? (i := 948) (by decide +kernel), List.mem_of_getElem? (i := 949) (by decide +kernel)⟩
theorem lw_p34 : lw_okq (⟨"KeelTollsModel", "breaksAt", "(I)I"⟩, 24) := ⟨⟨by decide +kernel, by decide +kernel⟩, List.mem_of_getElem? (i := 724) (by decide +kernel), List.mem_of_getElem? (i := 952) (by decide +kernel), List.mem_of_getElem? (i := 953) (by decide +kernel)⟩
theorem lw_p35 : lw_okq (⟨"KeelTollsModel", "noneLaw", "(I)Z"⟩, 24) := ⟨⟨by decide +kernel, by decide +kernel⟩, List.mem_of_getElem? (i := 724) (by decide +kernel), List.mem_of_getElem? (i := 960) (by decide +kernel), List.mem_of_getElem? (i := 961) (by decide +kernel)⟩
theorem lw_p36 : lw_okq (⟨"KeelTollsModel", "value", "(III)I"⟩, 24) := ⟨⟨by decide +kernel, by decide +kernel⟩, List.mem_of_getElem? (i := 724) (by decide +kernel), List.mem_of_getElem? (i := 968) (by decide +kernel), List.mem_of_getElem? (i := 969) (by decide +kernel)⟩
theorem lw_p37 : lw_okq (⟨"KeelTollsModel", "layBest", "(IIIII)V"⟩, 24) := ⟨⟨by decide +kernel, by decide +kernel⟩, List.mem_of_getElem? (i := 724) (by decide +kernel), List.mem_of_getElem? (i := 987) (by decide +kernel), List.mem_of_getElem? (i := 988) (by decide +kernel)⟩
theorem lw_p38 : lw_okq (⟨"KeelTollsModel", "takeRow", "(IIII)V"⟩, 24) := ⟨⟨by decide +kernel, by decide +kernel⟩, List.mem_of_getElem? (i := 724) (by decide +kernel), List.mem_of_getElem? (i := 994) (by decide +kernel), List.mem_of_getElem? (i := 995) (by decide +kernel)⟩
theorem lw_p39 : lw_okq (⟨"KeelTollsModel", "loss", "(IIIII)I"⟩, 24) := ⟨⟨by decide +kernel, by decide +kernel⟩, List.mem_of_getElem? (i := 724) (by decide +kernel), List.mem_of_getElem? (i := 998) (by decide +kernel), List.mem_of_getElem? (i := 999) (by decide +kernel)⟩
theorem lw_p40 : lw_okq (⟨"KeelTollsModel", "change", "(III)V"⟩, 24) := ⟨⟨by decide +kernel, by decide +kernel⟩, List.mem_of_getElem? (i := 724) (by decide +kernel), List.mem_of_getElem? (i := 1027) (by decide +kernel), List.mem_of_getElem? (i := 1028) (by decide +kernel)⟩
theorem lw_p41 : lw_okq (⟨"KeelTollsModel", "goesFor", "(II)I"⟩, 24) := ⟨⟨by decide +kernel, by decide +kernel⟩, List.mem_of_getElem? (i := 724) (by decide +kernel), List.mem_of_getElem? (i := 1040) (by decide +kernel), List.mem_of_getElem? (i := 1041) (by decide +kernel)⟩
theorem lw_p42 : lw_okq (⟨"KeelTollsModel", "noCell", "(II)I"⟩, 24) := ⟨⟨by decide +kernel, by decide +kernel⟩, List.mem_of_getElem? (i := 724) (by decide +kernel), List.mem_of_getElem? (i := 1060) (by decide +kernel), List.mem_of_getElem? (i := 1061) (by decide +kernel)⟩
theorem lw_p43 : lw_okq (⟨"KeelTollsModel", "failedLong", "(I)J"⟩, 24) := ⟨⟨by decide +kernel, by decide +kernel⟩, List.mem_of_getElem? (i := 724) (by decide +kernel), List.mem_of_getElem? (i := 1068) (by decide +kernel), List.mem_of_getElem? (i := 1069) (by decide +kernel)⟩
theorem lw_p44 : lw_okq (⟨"KeelTollsModel", "traced", "(I)V"⟩, 24) := ⟨⟨by decide +kernel, by decide +kernel⟩, List.mem_of_getElem? (i := 724) (by decide +kernel), List.mem_of_getElem? (i := 1080) (by decide +kernel), List.mem_of_getElem? (i := 1081) (by decide +kernel)⟩
def lw_privs_3 : List (MethodName × Nat) := [(⟨"KeelTollsModel", "wordSum", "(II)I"⟩, 24), (⟨"KeelTollsModel", "firstBroken", "()I"⟩, 24), (⟨"KeelTollsModel", "breaksAt", "(I)I"⟩, 24), (⟨"KeelTollsModel", "noneLaw", "(I)Z"⟩, 24), (⟨"KeelTollsModel", "value", "(III)I"⟩, 24), (⟨"KeelTollsModel", "layBest", "(IIIII)V"⟩, 24), (⟨"KeelTollsModel", "takeRow", "(IIII)V"⟩, 24), (⟨"KeelTollsModel", "loss", "(IIIII)I"⟩, 24), (⟨"KeelTollsModel", "change", "(III)V"⟩, 24), (⟨"KeelTollsModel", "goesFor", "(II)I"⟩, 24), (⟨"KeelTollsModel", "noCell", "(II)I"⟩, 24), (⟨"KeelTollsModel", "failedLong", "(I)J"⟩, 24), (⟨"KeelTollsModel", "traced", "(I)V"⟩, 24)]
theorem lw_r3 : ∀ q ∈ lw_privs_3, lw_okq q := List.forall_mem_cons.mpr ⟨lw_p32, List.forall_mem_cons.mpr ⟨lw_p33, List.forall_mem_cons.mpr ⟨lw_p34, List.forall_mem_cons.mpr ⟨lw_p35, List.forall_mem_cons.mpr ⟨lw_p36, List.forall_mem_cons.mpr ⟨lw_p37, List.forall_mem_cons.mpr ⟨lw_p38, List.forall_mem_cons.mpr ⟨lw_p39, List.forall_mem_cons.mpr ⟨lw_p40, List.forall_mem_cons.mpr ⟨lw_p41, List.forall_mem_cons.mpr ⟨lw_p42, List.forall_mem_cons.mpr ⟨lw_p43, List.forall_mem_cons.mpr ⟨lw_p44, fun _ h => absurd h List.not_mem_nil⟩⟩⟩⟩⟩⟩⟩⟩⟩⟩⟩⟩⟩
def lw_privs : List (MethodName × Nat) := lw_privs_1 ++ (lw_privs_2 ++ (lw_privs_3))
def lw_tbl : List Cond := k2_sels lw_privs ++ tables_1
theorem lw_privs_ok : ∀ q ∈ lw_privs, lw_okq q := by
  show ∀ q ∈ lw_privs_1 ++ (lw_privs_2 ++ (lw_privs_3)), lw_okq q
  exact List.forall_mem_append.mpr ⟨lw_r1, List.forall_mem_append.mpr ⟨lw_r2, lw_r3⟩⟩
def RX0 : String := "KeelTolls$Best"
def TX0 : u_T := fun k => match k with
  | 0 => ("KeelTolls$Best", "law", "LKeelTolls$Law;", false)
  | 1 => ("KeelTolls$Best", "leftOut", "I", false)
  | 2 => ("KeelTolls$Best", "any", "Z", false)
  | 3 => ("KeelTolls$Best", "worth", "I", false)
  | 4 => ("KeelTolls$Best", "freeWorth", "I", false)
  | 5 => ("KeelTolls$Best", "paid", "I", false)
  | 6 => ("KeelTolls$Best", "holds", "I", false)
  | _ => ("KeelTolls$Best", "row", "[I", true)
def tyX0 : Nat → FieldType := fun k => match k with
  | 0 => .object "KeelTolls$Law"
  | 1 => .int
  | 2 => .boolean
  | 3 => .int
  | 4 => .int
  | 5 => .int
  | 6 => .int
  | _ => .array .int
abbrev wsX00 : List Cond := u_ws RX0 TX0 8
theorem nmX0 : ∀ a, a < 8 → ∀ b, b < 8 → a ≠ b → (TX0 a).2.1 ≠ (TX0 b).2.1 := by decide +kernel
theorem tyX0_ok : ∀ k, k < 8 → parseFieldDescriptor (TX0 k).2.2.1 = some (tyX0 k) := by decide +kernel
abbrev cX0_init : ByteArray := prog_2_method_1_code
def yX0_init : MethodName := ⟨RX0, "<init>", "()V"⟩
abbrev cX0_begin : ByteArray := prog_2_method_2_code
def yX0_begin : MethodName := ⟨RX0, "begin", "(LKeelTolls$Law;I)V"⟩
abbrev cX0_weigh : ByteArray := prog_2_method_3_code
def yX0_weigh : MethodName := ⟨RX0, "weigh", "(LKeelTolls$Hull;[II)V"⟩
def RX1 : String := "KeelTolls$Decked"
def TX1 : u_T := fun k => match k with
  | 0 => ("KeelTolls$Hull", "number", "I", true)
  | 1 => ("KeelTolls$Hull", "parts", "[I", true)
  | 2 => ("KeelTolls$Hull", "stations", "I", false)
  | _ => ("KeelTolls$Hull", "measures", "[I", true)
def tyX1 : Nat → FieldType := fun k => match k with
  | 0 => .int
  | 1 => .array .int
  | 2 => .int
  | _ => .array .int
abbrev wsX10 : List Cond := u_ws RX1 TX1 4
theorem nmX1 : ∀ a, a < 4 → ∀ b, b < 4 → a ≠ b → (TX1 a).2.1 ≠ (TX1 b).2.1 := by decide +kernel
theorem tyX1_ok : ∀ k, k < 4 → parseFieldDescriptor (TX1 k).2.2.1 = some (tyX1 k) := by decide +kernel
abbrev cX1_init : ByteArray := prog_3_method_1_code
def yX1_init : MethodName := ⟨RX1, "<init>", "(I)V"⟩
abbrev cX1_kindNumber : ByteArray := prog_3_method_2_code
def yX1_kindNumber : MethodName := ⟨RX1, "kindNumber", "()I"⟩
abbrev cX1_measured : ByteArray := prog_3_method_3_code
def yX1_measured : MethodName := ⟨RX1, "measured", "()[I"⟩
abbrev cX1_told : ByteArray := prog_3_method_4_code
def yX1_told : MethodName := ⟨RX1, "told", "(LKeelTolls$Trace;)I"⟩
def RX2 : String := "KeelTolls$Hull"
def TX2 : u_T := fun k => match k with
  | 0 => ("KeelTolls$Hull", "number", "I", true)
  | 1 => ("KeelTolls$Hull", "parts", "[I", true)
  | 2 => ("KeelTolls$Hull", "stations", "I", false)
  | _ => ("KeelTolls$Hull", "measures", "[I", true)
def tyX2 : Nat → FieldType := fun k => match k with
  | 0 => .int
  | 1 => .array .int
  | 2 => .int
  | _ => .array .int
abbrev wsX20 : List Cond := u_ws RX2 TX2 4
theorem nmX2 : ∀ a, a < 4 → ∀ b, b < 4 → a ≠ b → (TX2 a).2.1 ≠ (TX2 b).2.1 := by decide +kernel
theorem tyX2_ok : ∀ k, k < 4 → parseFieldDescriptor (TX2 k).2.2.1 = some (tyX2 k) := by decide +kernel
abbrev cX2_init : ByteArray := prog_4_method_1_code
def yX2_init : MethodName := ⟨RX2, "<init>", "(I)V"⟩
abbrev cX2_kindNumber : ByteArray := prog_4_method_2_code
def yX2_kindNumber : MethodName := ⟨RX2, "kindNumber", "()I"⟩
abbrev cX2_hasStation : ByteArray := prog_4_method_3_code
def yX2_hasStation : MethodName := ⟨RX2, "hasStation", "(I)Z"⟩
abbrev cX2_takeParts : ByteArray := prog_4_method_4_code
def yX2_takeParts : MethodName := ⟨RX2, "takeParts", "([III)V"⟩
abbrev cX2_takeTurned : ByteArray := prog_4_method_5_code
def yX2_takeTurned : MethodName := ⟨RX2, "takeTurned", "(LKeelTolls$Hull;)V"⟩
abbrev cX2_measured : ByteArray := prog_4_method_6_code
def yX2_measured : MethodName := ⟨RX2, "measured", "()[I"⟩
abbrev cX2_drowned : ByteArray := prog_4_method_7_code
def yX2_drowned : MethodName := ⟨RX2, "drowned", "()I"⟩
abbrev cX2_told : ByteArray := prog_4_method_8_code
def yX2_told : MethodName := ⟨RX2, "told", "(LKeelTolls$Trace;)I"⟩
abbrev cX2_toldAsHull : ByteArray := prog_4_method_9_code
def yX2_toldAsHull : MethodName := ⟨RX2, "toldAsHull", "(LKeelTolls$Trace;)I"⟩
abbrev cX2_launched : ByteArray := prog_4_method_10_code
def yX2_launched : MethodName := ⟨RX2, "launched", "(LKeelTolls$Trace;)I"⟩
def RX3 : String := "KeelTolls$Law"
def TX3 : u_T := fun k => match k with
  | 0 => ("KeelTolls$Law", "list", "[LKeelTolls$Word;", true)
  | _ => ("KeelTolls$Law", "count", "I", false)
def tyX3 : Nat → FieldType := fun k => match k with
  | 0 => .array (.object "KeelTolls$Word")
  | _ => .int
abbrev wsX30 : List Cond := u_ws RX3 TX3 2
theorem nmX3 : ∀ a, a < 2 → ∀ b, b < 2 → a ≠ b → (TX3 a).2.1 ≠ (TX3 b).2.1 := by decide +kernel
theorem tyX3_ok : ∀ k, k < 2 → parseFieldDescriptor (TX3 k).2.2.1 = some (tyX3 k) := by decide +kernel
abbrev cX3_init : ByteArray := prog_5_method_1_code
def yX3_init : MethodName := ⟨RX3, "<init>", "()V"⟩
abbrev cX3_hasWord : ByteArray := prog_5_method_2_code
def yX3_hasWord : MethodName := ⟨RX3, "hasWord", "(I)Z"⟩
abbrev cX3_owedBy : ByteArray := prog_5_method_3_code
def yX3_owedBy : MethodName := ⟨RX3, "owedBy", "([II)I"⟩
def RX4 : String := "KeelTolls$LawReader"
def TX4 : u_T := fun k => match k with
  | 0 => ("KeelTolls$LawReader", "text", "LKeelTolls$Sheet;", false)
  | 1 => ("KeelTolls$LawReader", "start", "I", false)
  | 2 => ("KeelTolls$LawReader", "length", "I", false)
  | 3 => ("KeelTolls$LawReader", "place", "I", false)
  | _ => ("KeelTolls$LawReader", "firstFault", "I", false)
def tyX4 : Nat → FieldType := fun k => match k with
  | 0 => .object "KeelTolls$Sheet"
  | 1 => .int
  | 2 => .int
  | 3 => .int
  | _ => .int
abbrev wsX40 : List Cond := u_ws RX4 TX4 5
theorem nmX4 : ∀ a, a < 5 → ∀ b, b < 5 → a ≠ b → (TX4 a).2.1 ≠ (TX4 b).2.1 := by decide +kernel
theorem tyX4_ok : ∀ k, k < 5 → parseFieldDescriptor (TX4 k).2.2.1 = some (tyX4 k) := by decide +kernel
abbrev cX4_init : ByteArray := prog_6_method_1_code
def yX4_init : MethodName := ⟨RX4, "<init>", "()V"⟩
abbrev cX4_read : ByteArray := prog_6_method_2_code
def yX4_read : MethodName := ⟨RX4, "read", "(LKeelTolls$Sheet;IILKeelTolls$Law;)I"⟩
abbrev cX4_readWord : ByteArray := prog_6_method_3_code
def yX4_readWord : MethodName := ⟨RX4, "readWord", "(LKeelTolls$Word;)V"⟩
abbrev cX4_readFactor : ByteArray := prog_6_method_4_code
def yX4_readFactor : MethodName := ⟨RX4, "readFactor", "(LKeelTolls$Word;)V"⟩
abbrev cX4_readNumber : ByteArray := prog_6_method_5_code
def yX4_readNumber : MethodName := ⟨RX4, "readNumber", "(II)I"⟩
abbrev cX4_takes : ByteArray := prog_6_method_6_code
def yX4_takes : MethodName := ⟨RX4, "takes", "(I)Z"⟩
abbrev cX4_code : ByteArray := prog_6_method_7_code
def yX4_code : MethodName := ⟨RX4, "code", "()I"⟩
abbrev cX4_failAt : ByteArray := prog_6_method_8_code
def yX4_failAt : MethodName := ⟨RX4, "failAt", "(I)V"⟩
abbrev cX4_isDigit : ByteArray := prog_6_method_9_code
def yX4_isDigit : MethodName := ⟨RX4, "isDigit", "(I)Z"⟩
abbrev cX4_measureOf : ByteArray := prog_6_method_10_code
def yX4_measureOf : MethodName := ⟨RX4, "measureOf", "(I)I"⟩
def RX5 : String := "KeelTolls$Needs"
def TX5 : u_T := fun k => match k with
  | _ => ("KeelTolls$Needs", "values", "[I", true)
def tyX5 : Nat → FieldType := fun k => match k with
  | _ => .array .int
abbrev wsX50 : List Cond := u_ws RX5 TX5 1
theorem nmX5 : ∀ a, a < 1 → ∀ b, b < 1 → a ≠ b → (TX5 a).2.1 ≠ (TX5 b).2.1 := by decide +kernel
theorem tyX5_ok : ∀ k, k < 1 → parseFieldDescriptor (TX5 k).2.2.1 = some (tyX5 k) := by decide +kernel
abbrev cX5_init : ByteArray := prog_7_method_1_code
def yX5_init : MethodName := ⟨RX5, "<init>", "()V"⟩
abbrev cX5_has : ByteArray := prog_7_method_2_code
def yX5_has : MethodName := ⟨RX5, "has", "(I)Z"⟩
abbrev cX5_allows : ByteArray := prog_7_method_3_code
def yX5_allows : MethodName := ⟨RX5, "allows", "(II)Z"⟩
abbrev cX5_costOf : ByteArray := prog_7_method_4_code
def yX5_costOf : MethodName := ⟨RX5, "costOf", "([I)I"⟩
abbrev cX5_freeWorth : ByteArray := prog_7_method_5_code
def yX5_freeWorth : MethodName := ⟨RX5, "freeWorth", "([II)I"⟩
abbrev cX5_firstBroken : ByteArray := prog_7_method_6_code
def yX5_firstBroken : MethodName := ⟨RX5, "firstBroken", "(LKeelTolls$Hull;[I)I"⟩
def RX6 : String := "KeelTolls$Raked"
def TX6 : u_T := fun k => match k with
  | 0 => ("KeelTolls$Hull", "number", "I", true)
  | 1 => ("KeelTolls$Hull", "parts", "[I", true)
  | 2 => ("KeelTolls$Hull", "stations", "I", false)
  | _ => ("KeelTolls$Hull", "measures", "[I", true)
def tyX6 : Nat → FieldType := fun k => match k with
  | 0 => .int
  | 1 => .array .int
  | 2 => .int
  | _ => .array .int
abbrev wsX60 : List Cond := u_ws RX6 TX6 4
theorem nmX6 : ∀ a, a < 4 → ∀ b, b < 4 → a ≠ b → (TX6 a).2.1 ≠ (TX6 b).2.1 := by decide +kernel
theorem tyX6_ok : ∀ k, k < 4 → parseFieldDescriptor (TX6 k).2.2.1 = some (tyX6 k) := by decide +kernel
abbrev cX6_init : ByteArray := prog_8_method_1_code
def yX6_init : MethodName := ⟨RX6, "<init>", "(I)V"⟩
abbrev cX6_kindNumber : ByteArray := prog_8_method_2_code
def yX6_kindNumber : MethodName := ⟨RX6, "kindNumber", "()I"⟩
abbrev cX6_measured : ByteArray := prog_8_method_3_code
def yX6_measured : MethodName := ⟨RX6, "measured", "()[I"⟩
abbrev cX6_told : ByteArray := prog_8_method_4_code
def yX6_told : MethodName := ⟨RX6, "told", "(LKeelTolls$Trace;)I"⟩
abbrev cX6_launched : ByteArray := prog_8_method_5_code
def yX6_launched : MethodName := ⟨RX6, "launched", "(LKeelTolls$Trace;)I"⟩
def RX7 : String := "KeelTolls$Search"
def TX7 : u_T := fun k => match k with
  | 0 => ("KeelTolls$Search", "free", "LKeelTolls$Best;", true)
  | 1 => ("KeelTolls$Search", "bests", "[LKeelTolls$Best;", true)
  | _ => ("KeelTolls$Search", "sought", "I", false)
def tyX7 : Nat → FieldType := fun k => match k with
  | 0 => .object "KeelTolls$Best"
  | 1 => .array (.object "KeelTolls$Best")
  | _ => .int
abbrev wsX70 : List Cond := u_ws RX7 TX7 3
theorem nmX7 : ∀ a, a < 3 → ∀ b, b < 3 → a ≠ b → (TX7 a).2.1 ≠ (TX7 b).2.1 := by decide +kernel
theorem tyX7_ok : ∀ k, k < 3 → parseFieldDescriptor (TX7 k).2.2.1 = some (tyX7 k) := by decide +kernel
abbrev cX7_init : ByteArray := prog_9_method_1_code
def yX7_init : MethodName := ⟨RX7, "<init>", "()V"⟩
abbrev cX7_clear : ByteArray := prog_9_method_2_code
def yX7_clear : MethodName := ⟨RX7, "clear", "()V"⟩
abbrev cX7_seek : ByteArray := prog_9_method_3_code
def yX7_seek : MethodName := ⟨RX7, "seek", "(LKeelTolls$Law;I)LKeelTolls$Best;"⟩
abbrev cX7_run : ByteArray := prog_9_method_4_code
def yX7_run : MethodName := ⟨RX7, "run", "(LKeelTolls$Hull;IILKeelTolls$Needs;)V"⟩
abbrev cX7_lossOf : ByteArray := prog_9_method_5_code
def yX7_lossOf : MethodName := ⟨RX7, "lossOf", "(LKeelTolls$Best;)I"⟩
abbrev cX7_leastLoss : ByteArray := prog_9_method_6_code
def yX7_leastLoss : MethodName := ⟨RX7, "leastLoss", "(I)I"⟩
abbrev cX7_countAll : ByteArray := prog_9_method_7_code
def yX7_countAll : MethodName := ⟨RX7, "countAll", "(LKeelTolls$Hull;IILKeelTolls$Needs;)I"⟩
abbrev cX7_countOwing : ByteArray := prog_9_method_8_code
def yX7_countOwing : MethodName := ⟨RX7, "countOwing", "(LKeelTolls$Hull;IILKeelTolls$Needs;LKeelTolls$Law;I)I"⟩
abbrev cX7_firstShape : ByteArray := prog_9_method_9_code
def yX7_firstShape : MethodName := ⟨RX7, "firstShape", "(LKeelTolls$Hull;II)I"⟩
abbrev cX7_nextShape : ByteArray := prog_9_method_10_code
def yX7_nextShape : MethodName := ⟨RX7, "nextShape", "(LKeelTolls$Hull;I)V"⟩
def RX8 : String := "KeelTolls$Sheet"
def TX8 : u_T := fun k => match k with
  | 0 => ("KeelTolls$Sheet", "cells", "[I", true)
  | 1 => ("KeelTolls$Sheet", "present", "Z", false)
  | 2 => ("KeelTolls$Sheet", "lane", "I", false)
  | _ => ("KeelTolls$Sheet", "length", "I", false)
def tyX8 : Nat → FieldType := fun k => match k with
  | 0 => .array .int
  | 1 => .boolean
  | 2 => .int
  | _ => .int
abbrev wsX80 : List Cond := u_ws RX8 TX8 4
theorem nmX8 : ∀ a, a < 4 → ∀ b, b < 4 → a ≠ b → (TX8 a).2.1 ≠ (TX8 b).2.1 := by decide +kernel
theorem tyX8_ok : ∀ k, k < 4 → parseFieldDescriptor (TX8 k).2.2.1 = some (tyX8 k) := by decide +kernel
abbrev cX8_init : ByteArray := prog_10_method_1_code
def yX8_init : MethodName := ⟨RX8, "<init>", "()V"⟩
abbrev cX8_begin : ByteArray := prog_10_method_2_code
def yX8_begin : MethodName := ⟨RX8, "begin", "(II)V"⟩
abbrev cX8_store : ByteArray := prog_10_method_3_code
def yX8_store : MethodName := ⟨RX8, "store", "(II)V"⟩
abbrev cX8_hasCells : ByteArray := prog_10_method_4_code
def yX8_hasCells : MethodName := ⟨RX8, "hasCells", "(IJ)Z"⟩
abbrev cX8_faultOfCells : ByteArray := prog_10_method_5_code
def yX8_faultOfCells : MethodName := ⟨RX8, "faultOfCells", "(IIII)I"⟩
abbrev cX8_hasOnlyParts : ByteArray := prog_10_method_6_code
def yX8_hasOnlyParts : MethodName := ⟨RX8, "hasOnlyParts", "(II)Z"⟩
def RX9 : String := "KeelTolls$Trace"
def TX9 : u_T := fun k => match k with
  | _ => ("KeelTolls$Trace", "value", "I", false)
def tyX9 : Nat → FieldType := fun k => match k with
  | _ => .int
abbrev wsX90 : List Cond := u_ws RX9 TX9 1
theorem nmX9 : ∀ a, a < 1 → ∀ b, b < 1 → a ≠ b → (TX9 a).2.1 ≠ (TX9 b).2.1 := by decide +kernel
theorem tyX9_ok : ∀ k, k < 1 → parseFieldDescriptor (TX9 k).2.2.1 = some (tyX9 k) := by decide +kernel
abbrev cX9_init : ByteArray := prog_11_method_1_code
def yX9_init : MethodName := ⟨RX9, "<init>", "()V"⟩
abbrev cX9_leave : ByteArray := prog_11_method_2_code
def yX9_leave : MethodName := ⟨RX9, "leave", "(I)V"⟩
def RX10 : String := "KeelTolls$Word"
def TX10 : u_T := fun k => match k with
  | 0 => ("KeelTolls$Word", "number", "I", false)
  | 1 => ("KeelTolls$Word", "letters", "[I", true)
  | 2 => ("KeelTolls$Word", "letterCount", "I", false)
  | 3 => ("KeelTolls$Word", "divisor", "I", false)
  | _ => ("KeelTolls$Word", "atMost", "I", false)
def tyX10 : Nat → FieldType := fun k => match k with
  | 0 => .int
  | 1 => .array .int
  | 2 => .int
  | 3 => .int
  | _ => .int
abbrev wsX100 : List Cond := u_ws RX10 TX10 5
theorem nmX10 : ∀ a, a < 5 → ∀ b, b < 5 → a ≠ b → (TX10 a).2.1 ≠ (TX10 b).2.1 := by decide +kernel
theorem tyX10_ok : ∀ k, k < 5 → parseFieldDescriptor (TX10 k).2.2.1 = some (tyX10 k) := by decide +kernel
abbrev cX10_init : ByteArray := prog_12_method_1_code
def yX10_init : MethodName := ⟨RX10, "<init>", "()V"⟩
abbrev cX10_clear : ByteArray := prog_12_method_2_code
def yX10_clear : MethodName := ⟨RX10, "clear", "()V"⟩
abbrev cX10_addNumber : ByteArray := prog_12_method_3_code
def yX10_addNumber : MethodName := ⟨RX10, "addNumber", "(I)V"⟩
abbrev cX10_addLetter : ByteArray := prog_12_method_4_code
def yX10_addLetter : MethodName := ⟨RX10, "addLetter", "(I)V"⟩
abbrev cX10_makes : ByteArray := prog_12_method_5_code
def yX10_makes : MethodName := ⟨RX10, "makes", "([I)I"⟩
def RX11 : String := "KeelTolls"
def TX11 : u_T := fun k => match k with
  | 0 => ("KeelTolls", "hulls", "[LKeelTolls$Hull;", true)
  | 1 => ("KeelTolls", "hullCount", "I", false)
  | 2 => ("KeelTolls", "laws", "[LKeelTolls$Law;", true)
  | 3 => ("KeelTolls", "lawCount", "I", false)
  | 4 => ("KeelTolls", "sheets", "[LKeelTolls$Sheet;", true)
  | 5 => ("KeelTolls", "needs", "LKeelTolls$Needs;", true)
  | 6 => ("KeelTolls", "spare", "[LKeelTolls$Hull;", true)
  | 7 => ("KeelTolls", "search", "LKeelTolls$Search;", true)
  | 8 => ("KeelTolls", "reader", "LKeelTolls$LawReader;", true)
  | 9 => ("KeelTolls", "trace", "LKeelTolls$Trace;", true)
  | _ => ("KeelTolls", "fault", "I", false)
def tyX11 : Nat → FieldType := fun k => match k with
  | 0 => .array (.object "KeelTolls$Hull")
  | 1 => .int
  | 2 => .array (.object "KeelTolls$Law")
  | 3 => .int
  | 4 => .array (.object "KeelTolls$Sheet")
  | 5 => .object "KeelTolls$Needs"
  | 6 => .array (.object "KeelTolls$Hull")
  | 7 => .object "KeelTolls$Search"
  | 8 => .object "KeelTolls$LawReader"
  | 9 => .object "KeelTolls$Trace"
  | _ => .int
abbrev wsX110 : List Cond := u_ws RX11 TX11 11
theorem nmX11 : ∀ a, a < 11 → ∀ b, b < 11 → a ≠ b → (TX11 a).2.1 ≠ (TX11 b).2.1 := by decide +kernel
theorem tyX11_ok : ∀ k, k < 11 → parseFieldDescriptor (TX11 k).2.2.1 = some (tyX11 k) := by decide +kernel
abbrev cX11_init : ByteArray := prog_1_method_1_code
def yX11_init : MethodName := ⟨RX11, "<init>", "()V"⟩
abbrev cX11_hull : ByteArray := prog_1_method_2_code
def yX11_hull : MethodName := ⟨RX11, "hull", "(IIIII)I"⟩
abbrev cX11_ofHull : ByteArray := prog_1_method_3_code
def yX11_ofHull : MethodName := ⟨RX11, "ofHull", "(II)I"⟩
abbrev cX11_station : ByteArray := prog_1_method_4_code
def yX11_station : MethodName := ⟨RX11, "station", "(III)I"⟩
abbrev cX11_build : ByteArray := prog_1_method_5_code
def yX11_build : MethodName := ⟨RX11, "build", "(IIII)I"⟩
abbrev cX11_law : ByteArray := prog_1_method_6_code
def yX11_law : MethodName := ⟨RX11, "law", "(IIII)I"⟩
abbrev cX11_words : ByteArray := prog_1_method_7_code
def yX11_words : MethodName := ⟨RX11, "words", "(I)I"⟩
abbrev cX11_owes : ByteArray := prog_1_method_8_code
def yX11_owes : MethodName := ⟨RX11, "owes", "(II)I"⟩
abbrev cX11_word : ByteArray := prog_1_method_9_code
def yX11_word : MethodName := ⟨RX11, "word", "(III)I"⟩
abbrev cX11_need : ByteArray := prog_1_method_10_code
def yX11_need : MethodName := ⟨RX11, "need", "(II)I"⟩
abbrev cX11_broken : ByteArray := prog_1_method_11_code
def yX11_broken : MethodName := ⟨RX11, "broken", "(II)I"⟩
abbrev cX11_worth : ByteArray := prog_1_method_12_code
def yX11_worth : MethodName := ⟨RX11, "worth", "(II)J"⟩
abbrev cX11_risk : ByteArray := prog_1_method_13_code
def yX11_risk : MethodName := ⟨RX11, "risk", "(II)J"⟩
abbrev cX11_best : ByteArray := prog_1_method_14_code
def yX11_best : MethodName := ⟨RX11, "best", "(IIIII)J"⟩
abbrev cX11_shape : ByteArray := prog_1_method_15_code
def yX11_shape : MethodName := ⟨RX11, "shape", "(IIIII)I"⟩
abbrev cX11_shapes : ByteArray := prog_1_method_16_code
def yX11_shapes : MethodName := ⟨RX11, "shapes", "(III)I"⟩
abbrev cX11_without : ByteArray := prog_1_method_17_code
def yX11_without : MethodName := ⟨RX11, "without", "(IIIIII)J"⟩
abbrev cX11_mend : ByteArray := prog_1_method_18_code
def yX11_mend : MethodName := ⟨RX11, "mend", "(IIII)I"⟩
abbrev cX11_crowd : ByteArray := prog_1_method_19_code
def yX11_crowd : MethodName := ⟨RX11, "crowd", "(IIIII)I"⟩
abbrev cX11_step : ByteArray := prog_1_method_20_code
def yX11_step : MethodName := ⟨RX11, "step", "(II)I"⟩
abbrev cX11_trim : ByteArray := prog_1_method_21_code
def yX11_trim : MethodName := ⟨RX11, "trim", "(III)I"⟩
abbrev cX11_route : ByteArray := prog_1_method_22_code
def yX11_route : MethodName := ⟨RX11, "route", "(II)I"⟩
abbrev cX11_paid : ByteArray := prog_1_method_23_code
def yX11_paid : MethodName := ⟨RX11, "paid", "(II)I"⟩
abbrev cX11_sheet : ByteArray := prog_1_method_24_code
def yX11_sheet : MethodName := ⟨RX11, "sheet", "(III)I"⟩
abbrev cX11_lose : ByteArray := prog_1_method_25_code
def yX11_lose : MethodName := ⟨RX11, "lose", "(I)I"⟩
abbrev cX11_put : ByteArray := prog_1_method_26_code
def yX11_put : MethodName := ⟨RX11, "put", "(III)I"⟩
abbrev cX11_cell : ByteArray := prog_1_method_27_code
def yX11_cell : MethodName := ⟨RX11, "cell", "(III)J"⟩
abbrev cX11_copy : ByteArray := prog_1_method_28_code
def yX11_copy : MethodName := ⟨RX11, "copy", "(IIIII)I"⟩
abbrev cX11_tell : ByteArray := prog_1_method_29_code
def yX11_tell : MethodName := ⟨RX11, "tell", "(I)I"⟩
abbrev cX11_launch : ByteArray := prog_1_method_30_code
def yX11_launch : MethodName := ⟨RX11, "launch", "(I)I"⟩
abbrev cX11_as : ByteArray := prog_1_method_31_code
def yX11_as : MethodName := ⟨RX11, "as", "(II)I"⟩
abbrev cX11_trace : ByteArray := prog_1_method_32_code
def yX11_trace : MethodName := ⟨RX11, "trace", "()I"⟩
abbrev cX11_fault : ByteArray := prog_1_method_33_code
def yX11_fault : MethodName := ⟨RX11, "fault", "()I"⟩
abbrev cX11_many : ByteArray := prog_1_method_34_code
def yX11_many : MethodName := ⟨RX11, "many", "(I)I"⟩
abbrev cX11_hullAt : ByteArray := prog_1_method_35_code
def yX11_hullAt : MethodName := ⟨RX11, "hullAt", "(I)LKeelTolls$Hull;"⟩
abbrev cX11_lawAt : ByteArray := prog_1_method_36_code
def yX11_lawAt : MethodName := ⟨RX11, "lawAt", "(I)LKeelTolls$Law;"⟩
abbrev cX11_isLawOrNone : ByteArray := prog_1_method_37_code
def yX11_isLawOrNone : MethodName := ⟨RX11, "isLawOrNone", "(I)Z"⟩
abbrev cX11_sheetAt : ByteArray := prog_1_method_38_code
def yX11_sheetAt : MethodName := ⟨RX11, "sheetAt", "(I)LKeelTolls$Sheet;"⟩
abbrev cX11_faulted : ByteArray := prog_1_method_39_code
def yX11_faulted : MethodName := ⟨RX11, "faulted", "(I)I"⟩
abbrev cX11_worthBy : ByteArray := prog_1_method_40_code
def yX11_worthBy : MethodName := ⟨RX11, "worthBy", "([ILKeelTolls$Law;I)I"⟩
abbrev cX11_bestBy : ByteArray := prog_1_method_41_code
def yX11_bestBy : MethodName := ⟨RX11, "bestBy", "(IIILKeelTolls$Law;I)LKeelTolls$Best;"⟩
abbrev cX11_hullThatGoes : ByteArray := prog_1_method_42_code
def yX11_hullThatGoes : MethodName := ⟨RX11, "hullThatGoes", "(ILKeelTolls$Law;)I"⟩
abbrev cX11_wordsOfAll : ByteArray := prog_1_method_43_code
def yX11_wordsOfAll : MethodName := ⟨RX11, "wordsOfAll", "()I"⟩
abbrev cX11_newHull : ByteArray := prog_1_method_44_code
def yX11_newHull : MethodName := ⟨RX11, "newHull", "(II)LKeelTolls$Hull;"⟩
abbrev cX11_isOfKind : ByteArray := prog_1_method_45_code
def yX11_isOfKind : MethodName := ⟨RX11, "isOfKind", "(LKeelTolls$Hull;I)Z"⟩
abbrev cX11_isKind : ByteArray := prog_1_method_46_code
def yX11_isKind : MethodName := ⟨RX11, "isKind", "(I)Z"⟩
abbrev cX11_isLane : ByteArray := prog_1_method_47_code
def yX11_isLane : MethodName := ⟨RX11, "isLane", "(I)Z"⟩
abbrev cX11_isPart : ByteArray := prog_1_method_48_code
def yX11_isPart : MethodName := ⟨RX11, "isPart", "(I)Z"⟩
abbrev cX11_areShapes : ByteArray := prog_1_method_49_code
def yX11_areShapes : MethodName := ⟨RX11, "areShapes", "(III)Z"⟩
abbrev cX11_commonDivisor : ByteArray := prog_1_method_50_code
def yX11_commonDivisor : MethodName := ⟨RX11, "commonDivisor", "(II)I"⟩
def RX12 : String := "KeelTollsModel"
def TX12 : u_T := fun k => match k with
  | 0 => ("KeelTollsModel", "fault", "I", false)
  | 1 => ("KeelTollsModel", "hulls", "I", false)
  | 2 => ("KeelTollsModel", "hullKind", "[I", true)
  | 3 => ("KeelTollsModel", "hullMany", "[I", true)
  | 4 => ("KeelTollsModel", "hullWide", "[I", true)
  | 5 => ("KeelTollsModel", "hullDeep", "[I", true)
  | 6 => ("KeelTollsModel", "kind", "I", false)
  | 7 => ("KeelTollsModel", "many", "I", false)
  | 8 => ("KeelTollsModel", "wide", "[I", true)
  | 9 => ("KeelTollsModel", "deep", "[I", true)
  | 10 => ("KeelTollsModel", "laws", "I", false)
  | 11 => ("KeelTollsModel", "lawMany", "[I", true)
  | 12 => ("KeelTollsModel", "lawWord", "[I", true)
  | 13 => ("KeelTollsModel", "readAt", "I", false)
  | 14 => ("KeelTollsModel", "readMany", "I", false)
  | 15 => ("KeelTollsModel", "readWord", "[I", true)
  | 16 => ("KeelTollsModel", "needs", "[I", true)
  | 17 => ("KeelTollsModel", "bestRow", "I", false)
  | 18 => ("KeelTollsModel", "bestValue", "I", false)
  | 19 => ("KeelTollsModel", "sheetSize", "[I", true)
  | 20 => ("KeelTollsModel", "sheetLane", "[I", true)
  | 21 => ("KeelTollsModel", "sheet", "[I", true)
  | 22 => ("KeelTollsModel", "hands", "[I", true)
  | _ => ("KeelTollsModel", "traceNow", "I", false)
def tyX12 : Nat → FieldType := fun k => match k with
  | 0 => .int
  | 1 => .int
  | 2 => .array .int
  | 3 => .array .int
  | 4 => .array .int
  | 5 => .array .int
  | 6 => .int
  | 7 => .int
  | 8 => .array .int
  | 9 => .array .int
  | 10 => .int
  | 11 => .array .int
  | 12 => .array .int
  | 13 => .int
  | 14 => .int
  | 15 => .array .int
  | 16 => .array .int
  | 17 => .int
  | 18 => .int
  | 19 => .array .int
  | 20 => .array .int
  | 21 => .array .int
  | 22 => .array .int
  | _ => .int
abbrev wsX120 : List Cond := u_ws RX12 TX12 24
theorem nmX12 : ∀ a, a < 24 → ∀ b, b < 24 → a ≠ b → (TX12 a).2.1 ≠ (TX12 b).2.1 := by decide +kernel
theorem tyX12_ok : ∀ k, k < 24 → parseFieldDescriptor (TX12 k).2.2.1 = some (tyX12 k) := by decide +kernel
abbrev cX12_init : ByteArray := prog_14_method_1_code
def yX12_init : MethodName := ⟨RX12, "<init>", "()V"⟩
abbrev cX12_in : ByteArray := prog_14_method_2_code
def yX12_in : MethodName := ⟨RX12, "in", "(JJJ)Z"⟩
abbrev cX12_lost : ByteArray := prog_14_method_3_code
def yX12_lost : MethodName := ⟨RX12, "lost", "()J"⟩
abbrev cX12_greater : ByteArray := prog_14_method_4_code
def yX12_greater : MethodName := ⟨RX12, "greater", "(II)I"⟩
abbrev cX12_share : ByteArray := prog_14_method_5_code
def yX12_share : MethodName := ⟨RX12, "share", "(JJI)J"⟩
abbrev cX12_refused : ByteArray := prog_14_method_6_code
def yX12_refused : MethodName := ⟨RX12, "refused", "(I)I"⟩
abbrev cX12_failed : ByteArray := prog_14_method_7_code
def yX12_failed : MethodName := ⟨RX12, "failed", "(I)I"⟩
abbrev cX12_failedLong : ByteArray := prog_14_method_8_code
def yX12_failedLong : MethodName := ⟨RX12, "failedLong", "(I)J"⟩
abbrev cX12_barred : ByteArray := prog_14_method_9_code
def yX12_barred : MethodName := ⟨RX12, "barred", "(IIIJ)I"⟩
abbrev cX12_isLane : ByteArray := prog_14_method_10_code
def yX12_isLane : MethodName := ⟨RX12, "isLane", "(I)Z"⟩
abbrev cX12_isKind : ByteArray := prog_14_method_11_code
def yX12_isKind : MethodName := ⟨RX12, "isKind", "(I)Z"⟩
abbrev cX12_noHull : ByteArray := prog_14_method_12_code
def yX12_noHull : MethodName := ⟨RX12, "noHull", "(I)Z"⟩
abbrev cX12_noStation : ByteArray := prog_14_method_13_code
def yX12_noStation : MethodName := ⟨RX12, "noStation", "(II)Z"⟩
abbrev cX12_hull : ByteArray := prog_14_method_14_code
def yX12_hull : MethodName := ⟨RX12, "hull", "(IIIII)I"⟩
abbrev cX12_takeUp : ByteArray := prog_14_method_15_code
def yX12_takeUp : MethodName := ⟨RX12, "takeUp", "(I)V"⟩
abbrev cX12_measure : ByteArray := prog_14_method_16_code
def yX12_measure : MethodName := ⟨RX12, "measure", "(I)I"⟩
abbrev cX12_room : ByteArray := prog_14_method_17_code
def yX12_room : MethodName := ⟨RX12, "room", "()I"⟩
abbrev cX12_price : ByteArray := prog_14_method_18_code
def yX12_price : MethodName := ⟨RX12, "price", "()I"⟩
abbrev cX12_ofHull : ByteArray := prog_14_method_19_code
def yX12_ofHull : MethodName := ⟨RX12, "ofHull", "(II)I"⟩
abbrev cX12_station : ByteArray := prog_14_method_20_code
def yX12_station : MethodName := ⟨RX12, "station", "(III)I"⟩
abbrev cX12_build : ByteArray := prog_14_method_21_code
def yX12_build : MethodName := ⟨RX12, "build", "(IIII)I"⟩
abbrev cX12_noLaw : ByteArray := prog_14_method_22_code
def yX12_noLaw : MethodName := ⟨RX12, "noLaw", "(I)Z"⟩
abbrev cX12_letterBy : ByteArray := prog_14_method_23_code
def yX12_letterBy : MethodName := ⟨RX12, "letterBy", "(I)I"⟩
abbrev cX12_codeAt : ByteArray := prog_14_method_24_code
def yX12_codeAt : MethodName := ⟨RX12, "codeAt", "(II)I"⟩
abbrev cX12_takes : ByteArray := prog_14_method_25_code
def yX12_takes : MethodName := ⟨RX12, "takes", "(III)Z"⟩
abbrev cX12_number : ByteArray := prog_14_method_26_code
def yX12_number : MethodName := ⟨RX12, "number", "(III)I"⟩
abbrev cX12_factor : ByteArray := prog_14_method_27_code
def yX12_factor : MethodName := ⟨RX12, "factor", "(II)I"⟩
abbrev cX12_readsWord : ByteArray := prog_14_method_28_code
def yX12_readsWord : MethodName := ⟨RX12, "readsWord", "(II)Z"⟩
abbrev cX12_readLaw : ByteArray := prog_14_method_29_code
def yX12_readLaw : MethodName := ⟨RX12, "readLaw", "(II)I"⟩
abbrev cX12_law : ByteArray := prog_14_method_30_code
def yX12_law : MethodName := ⟨RX12, "law", "(IIII)I"⟩
abbrev cX12_words : ByteArray := prog_14_method_31_code
def yX12_words : MethodName := ⟨RX12, "words", "(I)I"⟩
abbrev cX12_wordSum : ByteArray := prog_14_method_32_code
def yX12_wordSum : MethodName := ⟨RX12, "wordSum", "(II)I"⟩
abbrev cX12_toll : ByteArray := prog_14_method_33_code
def yX12_toll : MethodName := ⟨RX12, "toll", "(II)I"⟩
abbrev cX12_owes : ByteArray := prog_14_method_34_code
def yX12_owes : MethodName := ⟨RX12, "owes", "(II)I"⟩
abbrev cX12_word : ByteArray := prog_14_method_35_code
def yX12_word : MethodName := ⟨RX12, "word", "(III)I"⟩
abbrev cX12_greatestOf : ByteArray := prog_14_method_36_code
def yX12_greatestOf : MethodName := ⟨RX12, "greatestOf", "(I)I"⟩
abbrev cX12_need : ByteArray := prog_14_method_37_code
def yX12_need : MethodName := ⟨RX12, "need", "(II)I"⟩
abbrev cX12_breaksAt : ByteArray := prog_14_method_38_code
def yX12_breaksAt : MethodName := ⟨RX12, "breaksAt", "(I)I"⟩
abbrev cX12_firstBroken : ByteArray := prog_14_method_39_code
def yX12_firstBroken : MethodName := ⟨RX12, "firstBroken", "()I"⟩
abbrev cX12_broken : ByteArray := prog_14_method_40_code
def yX12_broken : MethodName := ⟨RX12, "broken", "(II)I"⟩
abbrev cX12_value : ByteArray := prog_14_method_41_code
def yX12_value : MethodName := ⟨RX12, "value", "(III)I"⟩
abbrev cX12_noneLaw : ByteArray := prog_14_method_42_code
def yX12_noneLaw : MethodName := ⟨RX12, "noneLaw", "(I)Z"⟩
abbrev cX12_worth : ByteArray := prog_14_method_43_code
def yX12_worth : MethodName := ⟨RX12, "worth", "(II)J"⟩
abbrev cX12_risk : ByteArray := prog_14_method_44_code
def yX12_risk : MethodName := ⟨RX12, "risk", "(II)J"⟩
abbrev cX12_isSort : ByteArray := prog_14_method_45_code
def yX12_isSort : MethodName := ⟨RX12, "isSort", "(III)Z"⟩
abbrev cX12_manyRows : ByteArray := prog_14_method_46_code
def yX12_manyRows : MethodName := ⟨RX12, "manyRows", "(II)I"⟩
abbrev cX12_takeRow : ByteArray := prog_14_method_47_code
def yX12_takeRow : MethodName := ⟨RX12, "takeRow", "(IIII)V"⟩
abbrev cX12_layBest : ByteArray := prog_14_method_48_code
def yX12_layBest : MethodName := ⟨RX12, "layBest", "(IIIII)V"⟩
abbrev cX12_loss : ByteArray := prog_14_method_49_code
def yX12_loss : MethodName := ⟨RX12, "loss", "(IIIII)I"⟩
abbrev cX12_best : ByteArray := prog_14_method_50_code
def yX12_best : MethodName := ⟨RX12, "best", "(IIIII)J"⟩
abbrev cX12_shape : ByteArray := prog_14_method_51_code
def yX12_shape : MethodName := ⟨RX12, "shape", "(IIIII)I"⟩
abbrev cX12_shapes : ByteArray := prog_14_method_52_code
def yX12_shapes : MethodName := ⟨RX12, "shapes", "(III)I"⟩
abbrev cX12_without : ByteArray := prog_14_method_53_code
def yX12_without : MethodName := ⟨RX12, "without", "(IIIIII)J"⟩
abbrev cX12_mend : ByteArray := prog_14_method_54_code
def yX12_mend : MethodName := ⟨RX12, "mend", "(IIII)I"⟩
abbrev cX12_crowd : ByteArray := prog_14_method_55_code
def yX12_crowd : MethodName := ⟨RX12, "crowd", "(IIIII)I"⟩
abbrev cX12_change : ByteArray := prog_14_method_56_code
def yX12_change : MethodName := ⟨RX12, "change", "(III)V"⟩
abbrev cX12_step : ByteArray := prog_14_method_57_code
def yX12_step : MethodName := ⟨RX12, "step", "(II)I"⟩
abbrev cX12_trim : ByteArray := prog_14_method_58_code
def yX12_trim : MethodName := ⟨RX12, "trim", "(III)I"⟩
abbrev cX12_goesFor : ByteArray := prog_14_method_59_code
def yX12_goesFor : MethodName := ⟨RX12, "goesFor", "(II)I"⟩
abbrev cX12_route : ByteArray := prog_14_method_60_code
def yX12_route : MethodName := ⟨RX12, "route", "(II)I"⟩
abbrev cX12_paid : ByteArray := prog_14_method_61_code
def yX12_paid : MethodName := ⟨RX12, "paid", "(II)I"⟩
abbrev cX12_noSheet : ByteArray := prog_14_method_62_code
def yX12_noSheet : MethodName := ⟨RX12, "noSheet", "(I)Z"⟩
abbrev cX12_sheet : ByteArray := prog_14_method_63_code
def yX12_sheet : MethodName := ⟨RX12, "sheet", "(III)I"⟩
abbrev cX12_lose : ByteArray := prog_14_method_64_code
def yX12_lose : MethodName := ⟨RX12, "lose", "(I)I"⟩
abbrev cX12_noCell : ByteArray := prog_14_method_65_code
def yX12_noCell : MethodName := ⟨RX12, "noCell", "(II)I"⟩
abbrev cX12_put : ByteArray := prog_14_method_66_code
def yX12_put : MethodName := ⟨RX12, "put", "(III)I"⟩
abbrev cX12_cell : ByteArray := prog_14_method_67_code
def yX12_cell : MethodName := ⟨RX12, "cell", "(III)J"⟩
abbrev cX12_isBeyond : ByteArray := prog_14_method_68_code
def yX12_isBeyond : MethodName := ⟨RX12, "isBeyond", "(IJI)Z"⟩
abbrev cX12_copy : ByteArray := prog_14_method_69_code
def yX12_copy : MethodName := ⟨RX12, "copy", "(IIIII)I"⟩
abbrev cX12_traced : ByteArray := prog_14_method_70_code
def yX12_traced : MethodName := ⟨RX12, "traced", "(I)V"⟩
abbrev cX12_tell : ByteArray := prog_14_method_71_code
def yX12_tell : MethodName := ⟨RX12, "tell", "(I)I"⟩
abbrev cX12_launch : ByteArray := prog_14_method_72_code
def yX12_launch : MethodName := ⟨RX12, "launch", "(I)I"⟩
abbrev cX12_as : ByteArray := prog_14_method_73_code
def yX12_as : MethodName := ⟨RX12, "as", "(II)I"⟩
abbrev cX12_trace : ByteArray := prog_14_method_74_code
def yX12_trace : MethodName := ⟨RX12, "trace", "()I"⟩
abbrev cX12_fault : ByteArray := prog_14_method_75_code
def yX12_fault : MethodName := ⟨RX12, "fault", "()I"⟩
abbrev cX12_many : ByteArray := prog_14_method_76_code
def yX12_many : MethodName := ⟨RX12, "many", "(I)I"⟩
def RJ9 : String := "java/lang/Math"
def TJ9 : u_T := fun k => match k with
  | _ => ("", "", "", false)
def tyJ9 : Nat → FieldType := fun k => match k with
  | _ => .int
abbrev wsJ90 : List Cond := u_ws RJ9 TJ9 0
theorem nmJ9 : ∀ a, a < 0 → ∀ b, b < 0 → a ≠ b → (TJ9 a).2.1 ≠ (TJ9 b).2.1 := by decide +kernel
theorem tyJ9_ok : ∀ k, k < 0 → parseFieldDescriptor (TJ9 k).2.2.1 = some (tyJ9 k) := by decide +kernel
abbrev cJ9_abs_0f7a4 : ByteArray := prog_15_method_59_code
def yJ9_abs_0f7a4 : MethodName := ⟨RJ9, "abs", "(I)I"⟩
abbrev cJ9_max_7cf53 : ByteArray := prog_15_method_65_code
def yJ9_max_7cf53 : MethodName := ⟨RJ9, "max", "(II)I"⟩
abbrev cJ9_min_7cf53 : ByteArray := prog_15_method_69_code
def yJ9_min_7cf53 : MethodName := ⟨RJ9, "min", "(II)I"⟩
def RJ10 : String := "java/lang/System"
def TJ10 : u_T := fun k => match k with
  | _ => ("", "", "", false)
def tyJ10 : Nat → FieldType := fun k => match k with
  | _ => .int
abbrev wsJ100 : List Cond := u_ws RJ10 TJ10 0
theorem nmJ10 : ∀ a, a < 0 → ∀ b, b < 0 → a ≠ b → (TJ10 a).2.1 ≠ (TJ10 b).2.1 := by decide +kernel
theorem tyJ10_ok : ∀ k, k < 0 → parseFieldDescriptor (TJ10 k).2.2.1 = some (tyJ10 k) := by decide +kernel
def RL : String := "KeelTollsLaw"
abbrev cL_law : ByteArray := code
def yL_law : MethodName := ⟨RL, "law", "([I)Z"⟩
abbrev vwCl : List vw_C := [(RX0, TX0, 8), (RX1, TX1, 4), (RX2, TX2, 4), (RX3, TX3, 2), (RX4, TX4, 5), (RX5, TX5, 1), (RX6, TX6, 4), (RX7, TX7, 3), (RX8, TX8, 4), (RX9, TX9, 1), (RX10, TX10, 5), (RX11, TX11, 11), (RX12, TX12, 24)]
