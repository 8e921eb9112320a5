section
-- ===== PART A: goes FIRST, ahead of the names: the tables' words, and 'selects' of the private methods out of them =====
/-- a private method of a class that the tables say can be made, by its rows of tables_1 -/
def lw_okq (q : MethodName × Nat) : Prop := (q.1.cls ≠ "java/lang/invoke/MethodHandle" ∧ q.1.cls ≠ "java/lang/invoke/VarHandle") ∧ Cond.instantiable q.1.cls q.2 ∈ tables_1 ∧ Cond.privateMethod q.1 ∈ tables_1 ∧ Cond.instanceMethod q.1 ∈ tables_1
theorem lw_p0 : lw_okq (⟨"OneLampAllOut", "refuse", "(I)I"⟩, 10) := ⟨⟨by decide +kernel, by decide +kernel⟩, List.mem_of_getElem? (i := 14) (by decide +kernel), List.mem_of_getElem? (i := 218) (by decide +kernel), List.mem_of_getElem? (i := 219) (by decide +kernel)⟩
theorem lw_p1 : lw_okq (⟨"OneLampAllOut", "formOfLetters", "()I"⟩, 10) := ⟨⟨by decide +kernel, by decide +kernel⟩, List.mem_of_getElem? (i := 14) (by decide +kernel), List.mem_of_getElem? (i := 230) (by decide +kernel), List.mem_of_getElem? (i := 231) (by decide +kernel)⟩
theorem lw_p2 : lw_okq (⟨"OneLampAllOut$Statement", "readNumber", "(LOneLampAllOut$Letters;I)I"⟩, 6) := ⟨⟨by decide +kernel, by decide +kernel⟩, List.mem_of_getElem? (i := 112) (by decide +kernel), List.mem_of_getElem? (i := 242) (by decide +kernel), List.mem_of_getElem? (i := 243) (by decide +kernel)⟩
theorem lw_p3 : lw_okq (⟨"OneLampAllOut$Statement", "readSign", "(LOneLampAllOut$Letters;C)V"⟩, 6) := ⟨⟨by decide +kernel, by decide +kernel⟩, List.mem_of_getElem? (i := 112) (by decide +kernel), List.mem_of_getElem? (i := 249) (by decide +kernel), List.mem_of_getElem? (i := 250) (by decide +kernel)⟩
theorem lw_p4 : lw_okq (⟨"OneLampAllOut", "takeLetters", "(LOneLampAllOut$Row;)I"⟩, 10) := ⟨⟨by decide +kernel, by decide +kernel⟩, List.mem_of_getElem? (i := 14) (by decide +kernel), List.mem_of_getElem? (i := 265) (by decide +kernel), List.mem_of_getElem? (i := 266) (by decide +kernel)⟩
theorem lw_p5 : lw_okq (⟨"OneLampAllOut$Row", "addLamp", "(III)Z"⟩, 4) := ⟨⟨by decide +kernel, by decide +kernel⟩, List.mem_of_getElem? (i := 22) (by decide +kernel), List.mem_of_getElem? (i := 273) (by decide +kernel), List.mem_of_getElem? (i := 274) (by decide +kernel)⟩
theorem lw_p6 : lw_okq (⟨"OneLampAllOut$Row", "takeSetting", "(II)Z"⟩, 4) := ⟨⟨by decide +kernel, by decide +kernel⟩, List.mem_of_getElem? (i := 22) (by decide +kernel), List.mem_of_getElem? (i := 285) (by decide +kernel), List.mem_of_getElem? (i := 286) (by decide +kernel)⟩
theorem lw_p7 : lw_okq (⟨"OneLampAllOut$Row", "takeCondition", "(II)Z"⟩, 4) := ⟨⟨by decide +kernel, by decide +kernel⟩, List.mem_of_getElem? (i := 22) (by decide +kernel), List.mem_of_getElem? (i := 293) (by decide +kernel), List.mem_of_getElem? (i := 294) (by decide +kernel)⟩
theorem lw_p8 : lw_okq (⟨"OneLampAllOut$Search", "fill", "(LOneLampAllOut$Row;III)V"⟩, 1) := ⟨⟨by decide +kernel, by decide +kernel⟩, List.mem_of_getElem? (i := 160) (by decide +kernel), List.mem_of_getElem? (i := 440) (by decide +kernel), List.mem_of_getElem? (i := 441) (by decide +kernel)⟩
theorem lw_p9 : lw_okq (⟨"OneLampAllOut$Search", "leastOf", "(LOneLampAllOut$Row;III)I"⟩, 1) := ⟨⟨by decide +kernel, by decide +kernel⟩, List.mem_of_getElem? (i := 160) (by decide +kernel), List.mem_of_getElem? (i := 444) (by decide +kernel), List.mem_of_getElem? (i := 445) (by decide +kernel)⟩
theorem lw_p10 : lw_okq (⟨"OneLampAllOut$Search", "costOf", "(LOneLampAllOut$Row;IIIII)I"⟩, 1) := ⟨⟨by decide +kernel, by decide +kernel⟩, List.mem_of_getElem? (i := 160) (by decide +kernel), List.mem_of_getElem? (i := 452) (by decide +kernel), List.mem_of_getElem? (i := 453) (by decide +kernel)⟩
theorem lw_p11 : lw_okq (⟨"OneLampAllOut$Mind", "firstGone", "(LOneLampAllOut$Row;)I"⟩, 1) := ⟨⟨by decide +kernel, by decide +kernel⟩, List.mem_of_getElem? (i := 85) (by decide +kernel), List.mem_of_getElem? (i := 533) (by decide +kernel), List.mem_of_getElem? (i := 534) (by decide +kernel)⟩
theorem lw_p12 : lw_okq (⟨"OneLampAllOut$Mind", "staysLive", "(I)Z"⟩, 1) := ⟨⟨by decide +kernel, by decide +kernel⟩, List.mem_of_getElem? (i := 85) (by decide +kernel), List.mem_of_getElem? (i := 593) (by decide +kernel), List.mem_of_getElem? (i := 594) (by decide +kernel)⟩
theorem lw_p13 : lw_okq (⟨"OneLampAllOut", "refusalsOf", "(I)I"⟩, 10) := ⟨⟨by decide +kernel, by decide +kernel⟩, List.mem_of_getElem? (i := 14) (by decide +kernel), List.mem_of_getElem? (i := 656) (by decide +kernel), List.mem_of_getElem? (i := 657) (by decide +kernel)⟩
theorem lw_p14 : lw_okq (⟨"OneLampAllOutModel", "no", "(I)I"⟩, 31) := ⟨⟨by decide +kernel, by decide +kernel⟩, List.mem_of_getElem? (i := 660) (by decide +kernel), List.mem_of_getElem? (i := 767) (by decide +kernel), List.mem_of_getElem? (i := 768) (by decide +kernel)⟩
theorem lw_p15 : lw_okq (⟨"OneLampAllOutModel", "statement", "()Z"⟩, 31) := ⟨⟨by decide +kernel, by decide +kernel⟩, List.mem_of_getElem? (i := 660) (by decide +kernel), List.mem_of_getElem? (i := 775) (by decide +kernel), List.mem_of_getElem? (i := 776) (by decide +kernel)⟩
def lw_privs_1 : List (MethodName × Nat) := [(⟨"OneLampAllOut", "refuse", "(I)I"⟩, 10), (⟨"OneLampAllOut", "formOfLetters", "()I"⟩, 10), (⟨"OneLampAllOut$Statement", "readNumber", "(LOneLampAllOut$Letters;I)I"⟩, 6), (⟨"OneLampAllOut$Statement", "readSign", "(LOneLampAllOut$Letters;C)V"⟩, 6), (⟨"OneLampAllOut", "takeLetters", "(LOneLampAllOut$Row;)I"⟩, 10), (⟨"OneLampAllOut$Row", "addLamp", "(III)Z"⟩, 4), (⟨"OneLampAllOut$Row", "takeSetting", "(II)Z"⟩, 4), (⟨"OneLampAllOut$Row", "takeCondition", "(II)Z"⟩, 4), (⟨"OneLampAllOut$Search", "fill", "(LOneLampAllOut$Row;III)V"⟩, 1), (⟨"OneLampAllOut$Search", "leastOf", "(LOneLampAllOut$Row;III)I"⟩, 1), (⟨"OneLampAllOut$Search", "costOf", "(LOneLampAllOut$Row;IIIII)I"⟩, 1), (⟨"OneLampAllOut$Mind", "firstGone", "(LOneLampAllOut$Row;)I"⟩, 1), (⟨"OneLampAllOut$Mind", "staysLive", "(I)Z"⟩, 1), (⟨"OneLampAllOut", "refusalsOf", "(I)I"⟩, 10), (⟨"OneLampAllOutModel", "no", "(I)I"⟩, 31), (⟨"OneLampAllOutModel", "statement", "()Z"⟩, 31)]
theorem lw_r1 : ∀ q ∈ lw_privs_1, lw_okq q := List.forall_mem_cons.mpr ⟨lw_p0, List.forall_mem_cons.mpr ⟨lw_p1, List.forall_mem_cons.mpr ⟨lw_p2, List.forall_mem_cons.mpr ⟨lw_p3, List.forall_mem_cons.mpr ⟨lw_p4, List.forall_mem_cons.mpr ⟨lw_p5, List.forall_mem_cons.mpr ⟨lw_p6, List.forall_mem_cons.mpr ⟨lw_p7, List.forall_mem_cons.mpr ⟨lw_p8, List.forall_mem_cons.mpr ⟨lw_p9, List.forall_mem_cons.mpr ⟨lw_p10, List.forall_mem_cons.mpr ⟨lw_p11, List.forall_mem_cons.mpr ⟨lw_p12, List.forall_mem_cons.mpr ⟨lw_p13, List.forall_mem_cons.mpr ⟨lw_p14, List.forall_mem_cons.mpr ⟨lw_p15, fun _ h => absurd h List.not_mem_nil⟩⟩⟩⟩⟩⟩⟩⟩⟩⟩⟩⟩⟩⟩⟩⟩
theorem lw_p16 : lw_okq (⟨"OneLampAllOutModel", "nextLetter", "()I"⟩, 31) := ⟨⟨by decide +kernel, by decide +kernel⟩, List.mem_of_getElem? (i := 660) (by decide +kernel), List.mem_of_getElem? (i := 779) (by decide +kernel), List.mem_of_getElem? (i := 780) (by decide +kernel)⟩
theorem lw_p17 : lw_okq (⟨"OneLampAllOutModel", "reads", "(II)Z"⟩, 31) := ⟨⟨by decide +kernel, by decide +kernel⟩, List.mem_of_getElem? (i := 660) (by decide +kernel), List.mem_of_getElem? (i := 783) (by decide +kernel), List.mem_of_getElem? (i := 784) (by decide +kernel)⟩
theorem lw_p18 : lw_okq (⟨"OneLampAllOutModel", "isNext", "(I)Z"⟩, 31) := ⟨⟨by decide +kernel, by decide +kernel⟩, List.mem_of_getElem? (i := 660) (by decide +kernel), List.mem_of_getElem? (i := 790) (by decide +kernel), List.mem_of_getElem? (i := 791) (by decide +kernel)⟩
theorem lw_p19 : lw_okq (⟨"OneLampAllOutModel", "passesAll", "(IZ)V"⟩, 31) := ⟨⟨by decide +kernel, by decide +kernel⟩, List.mem_of_getElem? (i := 660) (by decide +kernel), List.mem_of_getElem? (i := 794) (by decide +kernel), List.mem_of_getElem? (i := 795) (by decide +kernel)⟩
theorem lw_p20 : lw_okq (⟨"OneLampAllOutModel", "passes", "([I)V"⟩, 31) := ⟨⟨by decide +kernel, by decide +kernel⟩, List.mem_of_getElem? (i := 660) (by decide +kernel), List.mem_of_getElem? (i := 798) (by decide +kernel), List.mem_of_getElem? (i := 799) (by decide +kernel)⟩
theorem lw_p21 : lw_okq (⟨"OneLampAllOutModel", "passOne", "(I)I"⟩, 31) := ⟨⟨by decide +kernel, by decide +kernel⟩, List.mem_of_getElem? (i := 660) (by decide +kernel), List.mem_of_getElem? (i := 802) (by decide +kernel), List.mem_of_getElem? (i := 803) (by decide +kernel)⟩
theorem lw_p22 : lw_okq (⟨"OneLampAllOutModel", "comes", "(I)Z"⟩, 31) := ⟨⟨by decide +kernel, by decide +kernel⟩, List.mem_of_getElem? (i := 660) (by decide +kernel), List.mem_of_getElem? (i := 806) (by decide +kernel), List.mem_of_getElem? (i := 807) (by decide +kernel)⟩
theorem lw_p23 : lw_okq (⟨"OneLampAllOutModel", "comesLamp", "(I)Z"⟩, 31) := ⟨⟨by decide +kernel, by decide +kernel⟩, List.mem_of_getElem? (i := 660) (by decide +kernel), List.mem_of_getElem? (i := 810) (by decide +kernel), List.mem_of_getElem? (i := 811) (by decide +kernel)⟩
theorem lw_p24 : lw_okq (⟨"OneLampAllOutModel", "isLamp", "(I)Z"⟩, 31) := ⟨⟨by decide +kernel, by decide +kernel⟩, List.mem_of_getElem? (i := 660) (by decide +kernel), List.mem_of_getElem? (i := 814) (by decide +kernel), List.mem_of_getElem? (i := 815) (by decide +kernel)⟩
theorem lw_p25 : lw_okq (⟨"OneLampAllOutModel", "dragOf", "(I)I"⟩, 31) := ⟨⟨by decide +kernel, by decide +kernel⟩, List.mem_of_getElem? (i := 660) (by decide +kernel), List.mem_of_getElem? (i := 830) (by decide +kernel), List.mem_of_getElem? (i := 831) (by decide +kernel)⟩
theorem lw_p26 : lw_okq (⟨"OneLampAllOutModel", "flowNow", "()I"⟩, 31) := ⟨⟨by decide +kernel, by decide +kernel⟩, List.mem_of_getElem? (i := 660) (by decide +kernel), List.mem_of_getElem? (i := 834) (by decide +kernel), List.mem_of_getElem? (i := 835) (by decide +kernel)⟩
theorem lw_p27 : lw_okq (⟨"OneLampAllOutModel", "isLive", "()Z"⟩, 31) := ⟨⟨by decide +kernel, by decide +kernel⟩, List.mem_of_getElem? (i := 660) (by decide +kernel), List.mem_of_getElem? (i := 838) (by decide +kernel), List.mem_of_getElem? (i := 839) (by decide +kernel)⟩
theorem lw_p28 : lw_okq (⟨"OneLampAllOutModel", "isWhole", "(II)Z"⟩, 31) := ⟨⟨by decide +kernel, by decide +kernel⟩, List.mem_of_getElem? (i := 660) (by decide +kernel), List.mem_of_getElem? (i := 842) (by decide +kernel), List.mem_of_getElem? (i := 843) (by decide +kernel)⟩
theorem lw_p29 : lw_okq (⟨"OneLampAllOutModel", "drags", "()I"⟩, 31) := ⟨⟨by decide +kernel, by decide +kernel⟩, List.mem_of_getElem? (i := 660) (by decide +kernel), List.mem_of_getElem? (i := 846) (by decide +kernel), List.mem_of_getElem? (i := 847) (by decide +kernel)⟩
theorem lw_p30 : lw_okq (⟨"OneLampAllOutModel", "brightBy", "(II)I"⟩, 31) := ⟨⟨by decide +kernel, by decide +kernel⟩, List.mem_of_getElem? (i := 660) (by decide +kernel), List.mem_of_getElem? (i := 853) (by decide +kernel), List.mem_of_getElem? (i := 854) (by decide +kernel)⟩
theorem lw_p31 : lw_okq (⟨"OneLampAllOutModel", "likelyOf", "(I)I"⟩, 31) := ⟨⟨by decide +kernel, by decide +kernel⟩, List.mem_of_getElem? (i := 660) (by decide +kernel), List.mem_of_getElem? (i := 857) (by decide +kernel), List.mem_of_getElem? (i := 858) (by decide +kernel)⟩
def lw_privs_2 : List (MethodName × Nat) := [(⟨"OneLampAllOutModel", "nextLetter", "()I"⟩, 31), (⟨"OneLampAllOutModel", "reads", "(II)Z"⟩, 31), (⟨"OneLampAllOutModel", "isNext", "(I)Z"⟩, 31), (⟨"OneLampAllOutModel", "passesAll", "(IZ)V"⟩, 31), (⟨"OneLampAllOutModel", "passes", "([I)V"⟩, 31), (⟨"OneLampAllOutModel", "passOne", "(I)I"⟩, 31), (⟨"OneLampAllOutModel", "comes", "(I)Z"⟩, 31), (⟨"OneLampAllOutModel", "comesLamp", "(I)Z"⟩, 31), (⟨"OneLampAllOutModel", "isLamp", "(I)Z"⟩, 31), (⟨"OneLampAllOutModel", "dragOf", "(I)I"⟩, 31), (⟨"OneLampAllOutModel", "flowNow", "()I"⟩, 31), (⟨"OneLampAllOutModel", "isLive", "()Z"⟩, 31), (⟨"OneLampAllOutModel", "isWhole", "(II)Z"⟩, 31), (⟨"OneLampAllOutModel", "drags", "()I"⟩, 31), (⟨"OneLampAllOutModel", "brightBy", "(II)I"⟩, 31), (⟨"OneLampAllOutModel", "likelyOf", "(I)I"⟩, 31)]
theorem lw_r2 : ∀ q ∈ lw_privs_2, lw_okq q := List.forall_mem_cons.mpr ⟨lw_p16, List.forall_mem_cons.mpr ⟨lw_p17, List.forall_mem_cons.mpr ⟨lw_p18, List.forall_mem_cons.mpr ⟨lw_p19, List.forall_mem_cons.mpr ⟨lw_p20, List.forall_mem_cons.mpr ⟨lw_p21, List.forall_mem_cons.mpr ⟨lw_p22, List.forall_mem_cons.mpr ⟨lw_p23, List.forall_mem_cons.mpr ⟨lw_p24, List.forall_mem_cons.mpr ⟨lw_p25, List.forall_mem_cons.mpr ⟨lw_p26, List.forall_mem_cons.mpr ⟨lw_p27, List.forall_mem_cons.mpr ⟨lw_p28, List.forall_mem_cons.mpr ⟨lw_p29, List.forall_mem_cons.mpr ⟨lw_p30, List.forall_mem_cons.mpr ⟨lw_p31, fun _ h => absurd h List.not_mem_nil⟩⟩⟩⟩⟩⟩⟩⟩⟩⟩⟩⟩⟩⟩⟩⟩
theorem lw_p32 : lw_okq (⟨"OneLampAllOutModel", "doesBridge", "(I)Z"⟩, 31) := ⟨⟨by decide +kernel, by decide +kernel⟩, List.mem_of_getElem? (i := 660) (by decide +kernel), List.mem_of_getElem? (i := 861) (by decide +kernel), List.mem_of_getElem? (i := 862) (by decide +kernel)⟩
theorem lw_p33 : lw_okq (⟨"OneLampAllOutModel", "isLoose", "(I)Z"⟩, 31) := ⟨⟨by decide +kernel, by decide +kernel⟩, List.mem_of_getElem? (i := 660) (by decide +kernel), List.mem_of_getElem? (i := 865) (by decide +kernel), List.mem_of_getElem? (i := 866) (by decide +kernel)⟩
theorem lw_p34 : lw_okq (⟨"OneLampAllOutModel", "goesHour", "()I"⟩, 31) := ⟨⟨by decide +kernel, by decide +kernel⟩, List.mem_of_getElem? (i := 660) (by decide +kernel), List.mem_of_getElem? (i := 885) (by decide +kernel), List.mem_of_getElem? (i := 886) (by decide +kernel)⟩
theorem lw_p35 : lw_okq (⟨"OneLampAllOutModel", "doesDie", "(II)Z"⟩, 31) := ⟨⟨by decide +kernel, by decide +kernel⟩, List.mem_of_getElem? (i := 660) (by decide +kernel), List.mem_of_getElem? (i := 889) (by decide +kernel), List.mem_of_getElem? (i := 890) (by decide +kernel)⟩
theorem lw_p36 : lw_okq (⟨"OneLampAllOutModel", "doesHang", "(I)Z"⟩, 31) := ⟨⟨by decide +kernel, by decide +kernel⟩, List.mem_of_getElem? (i := 660) (by decide +kernel), List.mem_of_getElem? (i := 893) (by decide +kernel), List.mem_of_getElem? (i := 894) (by decide +kernel)⟩
theorem lw_p37 : lw_okq (⟨"OneLampAllOutModel", "putsAnew", "(I)V"⟩, 31) := ⟨⟨by decide +kernel, by decide +kernel⟩, List.mem_of_getElem? (i := 660) (by decide +kernel), List.mem_of_getElem? (i := 901) (by decide +kernel), List.mem_of_getElem? (i := 902) (by decide +kernel)⟩
theorem lw_p38 : lw_okq (⟨"OneLampAllOutModel", "areLamps", "(II)Z"⟩, 31) := ⟨⟨by decide +kernel, by decide +kernel⟩, List.mem_of_getElem? (i := 660) (by decide +kernel), List.mem_of_getElem? (i := 909) (by decide +kernel), List.mem_of_getElem? (i := 910) (by decide +kernel)⟩
theorem lw_p39 : lw_okq (⟨"OneLampAllOutModel", "touches", "(I)V"⟩, 31) := ⟨⟨by decide +kernel, by decide +kernel⟩, List.mem_of_getElem? (i := 660) (by decide +kernel), List.mem_of_getElem? (i := 921) (by decide +kernel), List.mem_of_getElem? (i := 922) (by decide +kernel)⟩
theorem lw_p40 : lw_okq (⟨"OneLampAllOutModel", "findStretches", "()V"⟩, 31) := ⟨⟨by decide +kernel, by decide +kernel⟩, List.mem_of_getElem? (i := 660) (by decide +kernel), List.mem_of_getElem? (i := 929) (by decide +kernel), List.mem_of_getElem? (i := 930) (by decide +kernel)⟩
theorem lw_p41 : lw_okq (⟨"OneLampAllOutModel", "findStretch", "(II)V"⟩, 31) := ⟨⟨by decide +kernel, by decide +kernel⟩, List.mem_of_getElem? (i := 660) (by decide +kernel), List.mem_of_getElem? (i := 933) (by decide +kernel), List.mem_of_getElem? (i := 934) (by decide +kernel)⟩
theorem lw_p42 : lw_okq (⟨"OneLampAllOutModel", "weightOf", "(II)I"⟩, 31) := ⟨⟨by decide +kernel, by decide +kernel⟩, List.mem_of_getElem? (i := 660) (by decide +kernel), List.mem_of_getElem? (i := 937) (by decide +kernel), List.mem_of_getElem? (i := 938) (by decide +kernel)⟩
theorem lw_p43 : lw_okq (⟨"OneLampAllOutModel", "findOrder", "()V"⟩, 31) := ⟨⟨by decide +kernel, by decide +kernel⟩, List.mem_of_getElem? (i := 660) (by decide +kernel), List.mem_of_getElem? (i := 949) (by decide +kernel), List.mem_of_getElem? (i := 950) (by decide +kernel)⟩
theorem lw_p44 : lw_okq (⟨"OneLampAllOutModel", "openBy", "(I)I"⟩, 31) := ⟨⟨by decide +kernel, by decide +kernel⟩, List.mem_of_getElem? (i := 660) (by decide +kernel), List.mem_of_getElem? (i := 965) (by decide +kernel), List.mem_of_getElem? (i := 966) (by decide +kernel)⟩
theorem lw_p45 : lw_okq (⟨"OneLampAllOutModel", "findNext", "()V"⟩, 31) := ⟨⟨by decide +kernel, by decide +kernel⟩, List.mem_of_getElem? (i := 660) (by decide +kernel), List.mem_of_getElem? (i := 981) (by decide +kernel), List.mem_of_getElem? (i := 982) (by decide +kernel)⟩
theorem lw_p46 : lw_okq (⟨"OneLampAllOutModel", "stateMany", "(I)I"⟩, 31) := ⟨⟨by decide +kernel, by decide +kernel⟩, List.mem_of_getElem? (i := 660) (by decide +kernel), List.mem_of_getElem? (i := 989) (by decide +kernel), List.mem_of_getElem? (i := 990) (by decide +kernel)⟩
theorem lw_p47 : lw_okq (⟨"OneLampAllOutModel", "isLiveBy", "(I)Z"⟩, 31) := ⟨⟨by decide +kernel, by decide +kernel⟩, List.mem_of_getElem? (i := 660) (by decide +kernel), List.mem_of_getElem? (i := 1009) (by decide +kernel), List.mem_of_getElem? (i := 1010) (by decide +kernel)⟩
def lw_privs_3 : List (MethodName × Nat) := [(⟨"OneLampAllOutModel", "doesBridge", "(I)Z"⟩, 31), (⟨"OneLampAllOutModel", "isLoose", "(I)Z"⟩, 31), (⟨"OneLampAllOutModel", "goesHour", "()I"⟩, 31), (⟨"OneLampAllOutModel", "doesDie", "(II)Z"⟩, 31), (⟨"OneLampAllOutModel", "doesHang", "(I)Z"⟩, 31), (⟨"OneLampAllOutModel", "putsAnew", "(I)V"⟩, 31), (⟨"OneLampAllOutModel", "areLamps", "(II)Z"⟩, 31), (⟨"OneLampAllOutModel", "touches", "(I)V"⟩, 31), (⟨"OneLampAllOutModel", "findStretches", "()V"⟩, 31), (⟨"OneLampAllOutModel", "findStretch", "(II)V"⟩, 31), (⟨"OneLampAllOutModel", "weightOf", "(II)I"⟩, 31), (⟨"OneLampAllOutModel", "findOrder", "()V"⟩, 31), (⟨"OneLampAllOutModel", "openBy", "(I)I"⟩, 31), (⟨"OneLampAllOutModel", "findNext", "()V"⟩, 31), (⟨"OneLampAllOutModel", "stateMany", "(I)I"⟩, 31), (⟨"OneLampAllOutModel", "isLiveBy", "(I)Z"⟩, 31)]
theorem lw_r3 : ∀ q ∈ lw_privs_3, lw_okq q := List.forall_mem_cons.mpr ⟨lw_p32, List.forall_mem_cons.mpr ⟨lw_p33, List.forall_mem_cons.mpr ⟨lw_p34, List.forall_mem_cons.mpr ⟨lw_p35, List.forall_mem_cons.mpr ⟨lw_p36, List.forall_mem_cons.mpr ⟨lw_p37, List.forall_mem_cons.mpr ⟨lw_p38, List.forall_mem_cons.mpr ⟨lw_p39, List.forall_mem_cons.mpr ⟨lw_p40, List.forall_mem_cons.mpr ⟨lw_p41, List.forall_mem_cons.mpr ⟨lw_p42, List.forall_mem_cons.mpr ⟨lw_p43, List.forall_mem_cons.mpr ⟨lw_p44, List.forall_mem_cons.mpr ⟨lw_p45, List.forall_mem_cons.mpr ⟨lw_p46, List.forall_mem_cons.mpr ⟨lw_p47, fun _ h => absurd h List.not_mem_nil⟩⟩⟩⟩⟩⟩⟩⟩⟩⟩⟩⟩⟩⟩⟩⟩
theorem lw_p48 : lw_okq (⟨"OneLampAllOutModel", "lowest", "(I)J"⟩, 31) := ⟨⟨by decide +kernel, by decide +kernel⟩, List.mem_of_getElem? (i := 660) (by decide +kernel), List.mem_of_getElem? (i := 1021) (by decide +kernel), List.mem_of_getElem? (i := 1022) (by decide +kernel)⟩
def lw_privs_4 : List (MethodName × Nat) := [(⟨"OneLampAllOutModel", "lowest", "(I)J"⟩, 31)]
theorem lw_r4 : ∀ q ∈ lw_privs_4, lw_okq q := List.forall_mem_cons.mpr ⟨lw_p48, fun _ h => absurd h List.not_mem_nil⟩
def lw_privs : List (MethodName × Nat) := lw_privs_1 ++ (lw_privs_2 ++ (lw_privs_3 ++ (lw_privs_4)))
def lw_tbl : List Cond := k2_sels lw_privs ++ tables_1
theorem lw_privs_ok : ∀ q ∈ lw_privs, lw_okq q := by
  show ∀ q ∈ lw_privs_1 ++ (lw_privs_2 ++ (lw_privs_3 ++ (lw_privs_4))), lw_okq q
  exact List.forall_mem_append.mpr ⟨lw_r1, List.forall_mem_append.mpr ⟨lw_r2, List.forall_mem_append.mpr ⟨lw_r3, lw_r4⟩⟩⟩
end
section
/-! ===== BEGIN words of one list among another's, by their places ===== -/
/-! ===== END ===== -/


/-! ===== BEGIN printed: names, fields, word lists, decode rows ===== -/
def RX0 : String := "OneLampAllOut$Chance"
def TX0 : u_T := fun k => match k with
  | _ => ("", "", "", false)
def tyX0 : Nat → FieldType := fun k => match k with
  | _ => .int
abbrev wsX00 : List Cond := u_ws RX0 TX0 0
theorem nmX0 : ∀ a, a < 0 → ∀ b, b < 0 → a ≠ b → (TX0 a).2.1 ≠ (TX0 b).2.1 := by decide +kernel
theorem tyX0_ok : ∀ k, k < 0 → parseFieldDescriptor (TX0 k).2.2.1 = some (tyX0 k) := by decide +kernel
abbrev cX0_ofTwo : ByteArray := prog_2_method_2_code
def yX0_ofTwo : MethodName := ⟨RX0, "ofTwo", "(LOneLampAllOut$Row;Z)J"⟩
abbrev cX0_greatestShared : ByteArray := prog_2_method_3_code
def yX0_greatestShared : MethodName := ⟨RX0, "greatestShared", "(JJ)J"⟩
def RX1 : String := "OneLampAllOut$Lamp"
def TX1 : u_T := fun k => match k with
  | 0 => ("OneLampAllOut$Lamp", "kind", "I", false)
  | 1 => ("OneLampAllOut$Lamp", "life", "I", false)
  | 2 => ("OneLampAllOut$Lamp", "minutes", "I", false)
  | 3 => ("OneLampAllOut$Lamp", "hurt", "I", false)
  | _ => ("OneLampAllOut$Lamp", "condition", "I", false)
def tyX1 : Nat → FieldType := fun k => match k with
  | 0 => .int
  | 1 => .int
  | 2 => .int
  | 3 => .int
  | _ => .int
abbrev wsX10 : List Cond := u_ws RX1 TX1 5
theorem nmX1 : ∀ a, a < 5 → ∀ b, b < 5 → a ≠ b → (TX1 a).2.1 ≠ (TX1 b).2.1 := by decide +kernel
theorem tyX1_ok : ∀ k, k < 5 → parseFieldDescriptor (TX1 k).2.2.1 = some (tyX1 k) := by decide +kernel
abbrev cX1_init : ByteArray := prog_3_method_1_code
def yX1_init : MethodName := ⟨RX1, "<init>", "()V"⟩
abbrev cX1_begin : ByteArray := prog_3_method_2_code
def yX1_begin : MethodName := ⟨RX1, "begin", "(III)V"⟩
abbrev cX1_copyFrom : ByteArray := prog_3_method_3_code
def yX1_copyFrom : MethodName := ⟨RX1, "copyFrom", "(LOneLampAllOut$Lamp;)V"⟩
abbrev cX1_putAnew : ByteArray := prog_3_method_4_code
def yX1_putAnew : MethodName := ⟨RX1, "putAnew", "()V"⟩
abbrev cX1_isWell : ByteArray := prog_3_method_5_code
def yX1_isWell : MethodName := ⟨RX1, "isWell", "()Z"⟩
abbrev cX1_breaksRow : ByteArray := prog_3_method_6_code
def yX1_breaksRow : MethodName := ⟨RX1, "breaksRow", "()Z"⟩
abbrev cX1_isLoose : ByteArray := prog_3_method_7_code
def yX1_isLoose : MethodName := ⟨RX1, "isLoose", "()Z"⟩
abbrev cX1_isBridger : ByteArray := prog_3_method_8_code
def yX1_isBridger : MethodName := ⟨RX1, "isBridger", "()Z"⟩
abbrev cX1_drag : ByteArray := prog_3_method_9_code
def yX1_drag : MethodName := ⟨RX1, "drag", "()I"⟩
abbrev cX1_brightAt : ByteArray := prog_3_method_10_code
def yX1_brightAt : MethodName := ⟨RX1, "brightAt", "(I)I"⟩
abbrev cX1_likely : ByteArray := prog_3_method_11_code
def yX1_likely : MethodName := ⟨RX1, "likely", "()I"⟩
abbrev cX1_burn : ByteArray := prog_3_method_12_code
def yX1_burn : MethodName := ⟨RX1, "burn", "(I)V"⟩
abbrev cX1_mustDie : ByteArray := prog_3_method_13_code
def yX1_mustDie : MethodName := ⟨RX1, "mustDie", "(I)Z"⟩
abbrev cX1_whenDead : ByteArray := prog_3_method_14_code
def yX1_whenDead : MethodName := ⟨RX1, "whenDead", "()I"⟩
abbrev cX1_worksLoose : ByteArray := prog_3_method_15_code
def yX1_worksLoose : MethodName := ⟨RX1, "worksLoose", "(II)Z"⟩
abbrev cX1_touchWith : ByteArray := prog_3_method_16_code
def yX1_touchWith : MethodName := ⟨RX1, "touchWith", "(I)V"⟩
def RX2 : String := "OneLampAllOut$Letters"
def TX2 : u_T := fun k => match k with
  | 0 => ("OneLampAllOut$Letters", "signs", "[C", true)
  | _ => ("OneLampAllOut$Letters", "size", "I", false)
def tyX2 : Nat → FieldType := fun k => match k with
  | 0 => .array .char
  | _ => .int
abbrev wsX20 : List Cond := u_ws RX2 TX2 2
theorem nmX2 : ∀ a, a < 2 → ∀ b, b < 2 → a ≠ b → (TX2 a).2.1 ≠ (TX2 b).2.1 := by decide +kernel
theorem tyX2_ok : ∀ k, k < 2 → parseFieldDescriptor (TX2 k).2.2.1 = some (tyX2 k) := by decide +kernel
abbrev cX2_init : ByteArray := prog_4_method_1_code
def yX2_init : MethodName := ⟨RX2, "<init>", "()V"⟩
abbrev cX2_add : ByteArray := prog_4_method_2_code
def yX2_add : MethodName := ⟨RX2, "add", "(I)V"⟩
abbrev cX2_signAt : ByteArray := prog_4_method_3_code
def yX2_signAt : MethodName := ⟨RX2, "signAt", "(I)I"⟩
def RX3 : String := "OneLampAllOut$Looks"
def TX3 : u_T := fun k => match k with
  | 0 => ("OneLampAllOut$Looks", "places", "[I", true)
  | 1 => ("OneLampAllOut$Looks", "answers", "[I", true)
  | _ => ("OneLampAllOut$Looks", "size", "I", false)
def tyX3 : Nat → FieldType := fun k => match k with
  | 0 => .array .int
  | 1 => .array .int
  | _ => .int
abbrev wsX30 : List Cond := u_ws RX3 TX3 3
theorem nmX3 : ∀ a, a < 3 → ∀ b, b < 3 → a ≠ b → (TX3 a).2.1 ≠ (TX3 b).2.1 := by decide +kernel
theorem tyX3_ok : ∀ k, k < 3 → parseFieldDescriptor (TX3 k).2.2.1 = some (tyX3 k) := by decide +kernel
abbrev cX3_init : ByteArray := prog_5_method_1_code
def yX3_init : MethodName := ⟨RX3, "<init>", "()V"⟩
abbrev cX3_add : ByteArray := prog_5_method_2_code
def yX3_add : MethodName := ⟨RX3, "add", "(II)V"⟩
abbrev cX3_leftAfter : ByteArray := prog_5_method_3_code
def yX3_leftAfter : MethodName := ⟨RX3, "leftAfter", "(II)I"⟩
abbrev cX3_firstThatLeavesNone : ByteArray := prog_5_method_4_code
def yX3_firstThatLeavesNone : MethodName := ⟨RX3, "firstThatLeavesNone", "(I)I"⟩
def RX4 : String := "OneLampAllOut$Mind"
def TX4 : u_T := fun k => match k with
  | _ => ("OneLampAllOut$Mind", "tried", "LOneLampAllOut$Row;", true)
def tyX4 : Nat → FieldType := fun k => match k with
  | _ => .object "OneLampAllOut$Row"
abbrev wsX40 : List Cond := u_ws RX4 TX4 1
theorem nmX4 : ∀ a, a < 1 → ∀ b, b < 1 → a ≠ b → (TX4 a).2.1 ≠ (TX4 b).2.1 := by decide +kernel
theorem tyX4_ok : ∀ k, k < 1 → parseFieldDescriptor (TX4 k).2.2.1 = some (tyX4 k) := by decide +kernel
abbrev cX4_init : ByteArray := prog_6_method_1_code
def yX4_init : MethodName := ⟨RX4, "<init>", "()V"⟩
abbrev cX4_startFrom : ByteArray := prog_6_method_2_code
def yX4_startFrom : MethodName := ⟨RX4, "startFrom", "(LOneLampAllOut$Row;)LOneLampAllOut$Row;"⟩
abbrev cX4_hoursTillDark : ByteArray := prog_6_method_3_code
def yX4_hoursTillDark : MethodName := ⟨RX4, "hoursTillDark", "(LOneLampAllOut$Row;)I"⟩
abbrev cX4_firstToGo : ByteArray := prog_6_method_4_code
def yX4_firstToGo : MethodName := ⟨RX4, "firstToGo", "(LOneLampAllOut$Row;Z)I"⟩
abbrev cX4_firstGone : ByteArray := prog_6_method_5_code
def yX4_firstGone : MethodName := ⟨RX4, "firstGone", "(LOneLampAllOut$Row;)I"⟩
abbrev cX4_hoursTillBridged : ByteArray := prog_6_method_6_code
def yX4_hoursTillBridged : MethodName := ⟨RX4, "hoursTillBridged", "(LOneLampAllOut$Row;I)I"⟩
abbrev cX4_lightOf : ByteArray := prog_6_method_7_code
def yX4_lightOf : MethodName := ⟨RX4, "lightOf", "(LOneLampAllOut$Row;I)I"⟩
abbrev cX4_sparesTaken : ByteArray := prog_6_method_8_code
def yX4_sparesTaken : MethodName := ⟨RX4, "sparesTaken", "(LOneLampAllOut$Row;I)I"⟩
abbrev cX4_greatestAnew : ByteArray := prog_6_method_9_code
def yX4_greatestAnew : MethodName := ⟨RX4, "greatestAnew", "(LOneLampAllOut$Row;)I"⟩
abbrev cX4_staysLive : ByteArray := prog_6_method_10_code
def yX4_staysLive : MethodName := ⟨RX4, "staysLive", "(I)Z"⟩
abbrev cX4_wellAfterTouches : ByteArray := prog_6_method_11_code
def yX4_wellAfterTouches : MethodName := ⟨RX4, "wellAfterTouches", "(LOneLampAllOut$Row;II)I"⟩
abbrev cX4_drawBelow : ByteArray := prog_6_method_12_code
def yX4_drawBelow : MethodName := ⟨RX4, "drawBelow", "(II)I"⟩
def RX5 : String := "OneLampAllOut$Row"
def TX5 : u_T := fun k => match k with
  | 0 => ("OneLampAllOut$Row", "lamps", "[LOneLampAllOut$Lamp;", true)
  | 1 => ("OneLampAllOut$Row", "settings", "[I", true)
  | 2 => ("OneLampAllOut$Row", "size", "I", false)
  | _ => ("OneLampAllOut$Row", "hours", "I", false)
def tyX5 : Nat → FieldType := fun k => match k with
  | 0 => .array (.object "OneLampAllOut$Lamp")
  | 1 => .array .int
  | 2 => .int
  | _ => .int
abbrev wsX50 : List Cond := u_ws RX5 TX5 4
theorem nmX5 : ∀ a, a < 4 → ∀ b, b < 4 → a ≠ b → (TX5 a).2.1 ≠ (TX5 b).2.1 := by decide +kernel
theorem tyX5_ok : ∀ k, k < 4 → parseFieldDescriptor (TX5 k).2.2.1 = some (tyX5 k) := by decide +kernel
abbrev cX5_init : ByteArray := prog_7_method_1_code
def yX5_init : MethodName := ⟨RX5, "<init>", "()V"⟩
abbrev cX5_copyFrom : ByteArray := prog_7_method_2_code
def yX5_copyFrom : MethodName := ⟨RX5, "copyFrom", "(LOneLampAllOut$Row;)V"⟩
abbrev cX5_has : ByteArray := prog_7_method_3_code
def yX5_has : MethodName := ⟨RX5, "has", "(I)Z"⟩
abbrev cX5_hasStretch : ByteArray := prog_7_method_4_code
def yX5_hasStretch : MethodName := ⟨RX5, "hasStretch", "(II)Z"⟩
abbrev cX5_take : ByteArray := prog_7_method_5_code
def yX5_take : MethodName := ⟨RX5, "take", "(LOneLampAllOut$Statement;)Z"⟩
abbrev cX5_addLamp : ByteArray := prog_7_method_6_code
def yX5_addLamp : MethodName := ⟨RX5, "addLamp", "(III)Z"⟩
abbrev cX5_takeSetting : ByteArray := prog_7_method_7_code
def yX5_takeSetting : MethodName := ⟨RX5, "takeSetting", "(II)Z"⟩
abbrev cX5_takeCondition : ByteArray := prog_7_method_8_code
def yX5_takeCondition : MethodName := ⟨RX5, "takeCondition", "(II)Z"⟩
abbrev cX5_howMany : ByteArray := prog_7_method_9_code
def yX5_howMany : MethodName := ⟨RX5, "howMany", "(I)I"⟩
abbrev cX5_allHurt : ByteArray := prog_7_method_10_code
def yX5_allHurt : MethodName := ⟨RX5, "allHurt", "()I"⟩
abbrev cX5_isWhole : ByteArray := prog_7_method_11_code
def yX5_isWhole : MethodName := ⟨RX5, "isWhole", "(II)Z"⟩
abbrev cX5_allDrags : ByteArray := prog_7_method_12_code
def yX5_allDrags : MethodName := ⟨RX5, "allDrags", "()I"⟩
abbrev cX5_isLive : ByteArray := prog_7_method_13_code
def yX5_isLive : MethodName := ⟨RX5, "isLive", "()Z"⟩
abbrev cX5_flowNow : ByteArray := prog_7_method_14_code
def yX5_flowNow : MethodName := ⟨RX5, "flowNow", "()I"⟩
abbrev cX5_flowThrough : ByteArray := prog_7_method_15_code
def yX5_flowThrough : MethodName := ⟨RX5, "flowThrough", "(I)I"⟩
abbrev cX5_allBright : ByteArray := prog_7_method_16_code
def yX5_allBright : MethodName := ⟨RX5, "allBright", "()I"⟩
abbrev cX5_passHour : ByteArray := prog_7_method_17_code
def yX5_passHour : MethodName := ⟨RX5, "passHour", "()I"⟩
abbrev cX5_touchAt : ByteArray := prog_7_method_18_code
def yX5_touchAt : MethodName := ⟨RX5, "touchAt", "(I)V"⟩
abbrev cX5_putAllAnew : ByteArray := prog_7_method_19_code
def yX5_putAllAnew : MethodName := ⟨RX5, "putAllAnew", "()V"⟩
abbrev cX5_mendAll : ByteArray := prog_7_method_20_code
def yX5_mendAll : MethodName := ⟨RX5, "mendAll", "()I"⟩
abbrev cX5_bridgedAboveLimit : ByteArray := prog_7_method_21_code
def yX5_bridgedAboveLimit : MethodName := ⟨RX5, "bridgedAboveLimit", "()I"⟩
abbrev cX5_stringsWithinLimit : ByteArray := prog_7_method_22_code
def yX5_stringsWithinLimit : MethodName := ⟨RX5, "stringsWithinLimit", "()I"⟩
def RX6 : String := "OneLampAllOut$Search"
def TX6 : u_T := fun k => match k with
  | _ => ("OneLampAllOut$Search", "least", "[[I", true)
def tyX6 : Nat → FieldType := fun k => match k with
  | _ => .array (.array .int)
abbrev wsX60 : List Cond := u_ws RX6 TX6 1
theorem nmX6 : ∀ a, a < 1 → ∀ b, b < 1 → a ≠ b → (TX6 a).2.1 ≠ (TX6 b).2.1 := by decide +kernel
theorem tyX6_ok : ∀ k, k < 1 → parseFieldDescriptor (TX6 k).2.2.1 = some (tyX6 k) := by decide +kernel
abbrev cX6_init : ByteArray := prog_8_method_1_code
def yX6_init : MethodName := ⟨RX6, "<init>", "()V"⟩
abbrev cX6_leastCost : ByteArray := prog_8_method_2_code
def yX6_leastCost : MethodName := ⟨RX6, "leastCost", "(LOneLampAllOut$Row;III)I"⟩
abbrev cX6_bestPlace : ByteArray := prog_8_method_3_code
def yX6_bestPlace : MethodName := ⟨RX6, "bestPlace", "(LOneLampAllOut$Row;III)I"⟩
abbrev cX6_fill : ByteArray := prog_8_method_4_code
def yX6_fill : MethodName := ⟨RX6, "fill", "(LOneLampAllOut$Row;III)V"⟩
abbrev cX6_leastOf : ByteArray := prog_8_method_5_code
def yX6_leastOf : MethodName := ⟨RX6, "leastOf", "(LOneLampAllOut$Row;III)I"⟩
abbrev cX6_costOf : ByteArray := prog_8_method_6_code
def yX6_costOf : MethodName := ⟨RX6, "costOf", "(LOneLampAllOut$Row;IIIII)I"⟩
abbrev cX6_weightOf : ByteArray := prog_8_method_7_code
def yX6_weightOf : MethodName := ⟨RX6, "weightOf", "(LOneLampAllOut$Row;II)I"⟩
def RX7 : String := "OneLampAllOut$Statement"
def TX7 : u_T := fun k => match k with
  | 0 => ("OneLampAllOut$Statement", "sign", "I", false)
  | 1 => ("OneLampAllOut$Statement", "first", "I", false)
  | 2 => ("OneLampAllOut$Statement", "second", "I", false)
  | 3 => ("OneLampAllOut$Statement", "third", "I", false)
  | 4 => ("OneLampAllOut$Statement", "place", "I", false)
  | _ => ("OneLampAllOut$Statement", "sound", "Z", false)
def tyX7 : Nat → FieldType := fun k => match k with
  | 0 => .int
  | 1 => .int
  | 2 => .int
  | 3 => .int
  | 4 => .int
  | _ => .boolean
abbrev wsX70 : List Cond := u_ws RX7 TX7 6
theorem nmX7 : ∀ a, a < 6 → ∀ b, b < 6 → a ≠ b → (TX7 a).2.1 ≠ (TX7 b).2.1 := by decide +kernel
theorem tyX7_ok : ∀ k, k < 6 → parseFieldDescriptor (TX7 k).2.2.1 = some (tyX7 k) := by decide +kernel
abbrev cX7_init : ByteArray := prog_9_method_1_code
def yX7_init : MethodName := ⟨RX7, "<init>", "()V"⟩
abbrev cX7_read : ByteArray := prog_9_method_2_code
def yX7_read : MethodName := ⟨RX7, "read", "(LOneLampAllOut$Letters;I)V"⟩
abbrev cX7_readSign : ByteArray := prog_9_method_3_code
def yX7_readSign : MethodName := ⟨RX7, "readSign", "(LOneLampAllOut$Letters;C)V"⟩
abbrev cX7_readNumber : ByteArray := prog_9_method_4_code
def yX7_readNumber : MethodName := ⟨RX7, "readNumber", "(LOneLampAllOut$Letters;I)I"⟩
abbrev cX7_isDigit : ByteArray := prog_9_method_5_code
def yX7_isDigit : MethodName := ⟨RX7, "isDigit", "(I)Z"⟩
def RX8 : String := "OneLampAllOut$SwapOrder"
def TX8 : u_T := fun k => match k with
  | _ => ("OneLampAllOut$SwapOrder", "places", "[I", true)
def tyX8 : Nat → FieldType := fun k => match k with
  | _ => .array .int
abbrev wsX80 : List Cond := u_ws RX8 TX8 1
theorem nmX8 : ∀ a, a < 1 → ∀ b, b < 1 → a ≠ b → (TX8 a).2.1 ≠ (TX8 b).2.1 := by decide +kernel
theorem tyX8_ok : ∀ k, k < 1 → parseFieldDescriptor (TX8 k).2.2.1 = some (tyX8 k) := by decide +kernel
abbrev cX8_init : ByteArray := prog_10_method_1_code
def yX8_init : MethodName := ⟨RX8, "<init>", "()V"⟩
abbrev cX8_arrange : ByteArray := prog_10_method_2_code
def yX8_arrange : MethodName := ⟨RX8, "arrange", "(LOneLampAllOut$Row;)V"⟩
abbrev cX8_comesFirst : ByteArray := prog_10_method_3_code
def yX8_comesFirst : MethodName := ⟨RX8, "comesFirst", "(LOneLampAllOut$Lamp;LOneLampAllOut$Lamp;)Z"⟩
abbrev cX8_cost : ByteArray := prog_10_method_4_code
def yX8_cost : MethodName := ⟨RX8, "cost", "(LOneLampAllOut$Row;)I"⟩
def RX9 : String := "OneLampAllOut"
def TX9 : u_T := fun k => match k with
  | 0 => ("OneLampAllOut", "row", "LOneLampAllOut$Row;", true)
  | 1 => ("OneLampAllOut", "kept", "LOneLampAllOut$Row;", true)
  | 2 => ("OneLampAllOut", "mind", "LOneLampAllOut$Mind;", true)
  | 3 => ("OneLampAllOut", "letters", "LOneLampAllOut$Letters;", true)
  | 4 => ("OneLampAllOut", "statement", "LOneLampAllOut$Statement;", true)
  | 5 => ("OneLampAllOut", "looks", "LOneLampAllOut$Looks;", true)
  | 6 => ("OneLampAllOut", "search", "LOneLampAllOut$Search;", true)
  | 7 => ("OneLampAllOut", "swaps", "LOneLampAllOut$SwapOrder;", true)
  | 8 => ("OneLampAllOut", "refusals", "[I", true)
  | _ => ("OneLampAllOut", "hasImage", "Z", false)
def tyX9 : Nat → FieldType := fun k => match k with
  | 0 => .object "OneLampAllOut$Row"
  | 1 => .object "OneLampAllOut$Row"
  | 2 => .object "OneLampAllOut$Mind"
  | 3 => .object "OneLampAllOut$Letters"
  | 4 => .object "OneLampAllOut$Statement"
  | 5 => .object "OneLampAllOut$Looks"
  | 6 => .object "OneLampAllOut$Search"
  | 7 => .object "OneLampAllOut$SwapOrder"
  | 8 => .array .int
  | _ => .boolean
abbrev wsX90 : List Cond := u_ws RX9 TX9 10
theorem nmX9 : ∀ a, a < 10 → ∀ b, b < 10 → a ≠ b → (TX9 a).2.1 ≠ (TX9 b).2.1 := by decide +kernel
theorem tyX9_ok : ∀ k, k < 10 → parseFieldDescriptor (TX9 k).2.2.1 = some (tyX9 k) := by decide +kernel
abbrev cX9_init : ByteArray := prog_1_method_1_code
def yX9_init : MethodName := ⟨RX9, "<init>", "()V"⟩
abbrev cX9_feed : ByteArray := prog_1_method_2_code
def yX9_feed : MethodName := ⟨RX9, "feed", "(I)I"⟩
abbrev cX9_string : ByteArray := prog_1_method_3_code
def yX9_string : MethodName := ⟨RX9, "string", "()I"⟩
abbrev cX9_lamp : ByteArray := prog_1_method_4_code
def yX9_lamp : MethodName := ⟨RX9, "lamp", "(II)I"⟩
abbrev cX9_set : ByteArray := prog_1_method_5_code
def yX9_set : MethodName := ⟨RX9, "set", "(II)I"⟩
abbrev cX9_flow : ByteArray := prog_1_method_6_code
def yX9_flow : MethodName := ⟨RX9, "flow", "()I"⟩
abbrev cX9_hour : ByteArray := prog_1_method_7_code
def yX9_hour : MethodName := ⟨RX9, "hour", "()I"⟩
abbrev cX9_swap : ByteArray := prog_1_method_8_code
def yX9_swap : MethodName := ⟨RX9, "swap", "(I)I"⟩
abbrev cX9_meter : ByteArray := prog_1_method_9_code
def yX9_meter : MethodName := ⟨RX9, "meter", "(II)I"⟩
abbrev cX9_finder : ByteArray := prog_1_method_10_code
def yX9_finder : MethodName := ⟨RX9, "finder", "(I)I"⟩
abbrev cX9_touch : ByteArray := prog_1_method_11_code
def yX9_touch : MethodName := ⟨RX9, "touch", "(I)I"⟩
abbrev cX9_find : ByteArray := prog_1_method_12_code
def yX9_find : MethodName := ⟨RX9, "find", "(III)I"⟩
abbrev cX9_look : ByteArray := prog_1_method_13_code
def yX9_look : MethodName := ⟨RX9, "look", "(III)I"⟩
abbrev cX9_order : ByteArray := prog_1_method_14_code
def yX9_order : MethodName := ⟨RX9, "order", "(I)I"⟩
abbrev cX9_orderSum : ByteArray := prog_1_method_15_code
def yX9_orderSum : MethodName := ⟨RX9, "orderSum", "()I"⟩
abbrev cX9_told : ByteArray := prog_1_method_16_code
def yX9_told : MethodName := ⟨RX9, "told", "(II)I"⟩
abbrev cX9_openTo : ByteArray := prog_1_method_17_code
def yX9_openTo : MethodName := ⟨RX9, "openTo", "()I"⟩
abbrev cX9_judge : ByteArray := prog_1_method_18_code
def yX9_judge : MethodName := ⟨RX9, "judge", "()I"⟩
abbrev cX9_lasts : ByteArray := prog_1_method_19_code
def yX9_lasts : MethodName := ⟨RX9, "lasts", "()I"⟩
abbrev cX9_next : ByteArray := prog_1_method_20_code
def yX9_next : MethodName := ⟨RX9, "next", "(I)I"⟩
abbrev cX9_bridged : ByteArray := prog_1_method_21_code
def yX9_bridged : MethodName := ⟨RX9, "bridged", "(I)I"⟩
abbrev cX9_stop : ByteArray := prog_1_method_22_code
def yX9_stop : MethodName := ⟨RX9, "stop", "()I"⟩
abbrev cX9_light : ByteArray := prog_1_method_23_code
def yX9_light : MethodName := ⟨RX9, "light", "(I)I"⟩
abbrev cX9_keeps : ByteArray := prog_1_method_24_code
def yX9_keeps : MethodName := ⟨RX9, "keeps", "(I)I"⟩
abbrev cX9_allAnew : ByteArray := prog_1_method_25_code
def yX9_allAnew : MethodName := ⟨RX9, "allAnew", "()I"⟩
abbrev cX9_joined : ByteArray := prog_1_method_26_code
def yX9_joined : MethodName := ⟨RX9, "joined", "()I"⟩
abbrev cX9_two : ByteArray := prog_1_method_27_code
def yX9_two : MethodName := ⟨RX9, "two", "(I)J"⟩
abbrev cX9_seeds : ByteArray := prog_1_method_28_code
def yX9_seeds : MethodName := ⟨RX9, "seeds", "(II)I"⟩
abbrev cX9_image : ByteArray := prog_1_method_29_code
def yX9_image : MethodName := ⟨RX9, "image", "()I"⟩
abbrev cX9_restore : ByteArray := prog_1_method_30_code
def yX9_restore : MethodName := ⟨RX9, "restore", "()I"⟩
abbrev cX9_count : ByteArray := prog_1_method_31_code
def yX9_count : MethodName := ⟨RX9, "count", "(I)I"⟩
abbrev cX9_refusalsOf : ByteArray := prog_1_method_32_code
def yX9_refusalsOf : MethodName := ⟨RX9, "refusalsOf", "(I)I"⟩
abbrev cX9_refuse : ByteArray := prog_1_method_33_code
def yX9_refuse : MethodName := ⟨RX9, "refuse", "(I)I"⟩
abbrev cX9_asNumber : ByteArray := prog_1_method_34_code
def yX9_asNumber : MethodName := ⟨RX9, "asNumber", "(Z)I"⟩
abbrev cX9_formOfLetters : ByteArray := prog_1_method_35_code
def yX9_formOfLetters : MethodName := ⟨RX9, "formOfLetters", "()I"⟩
abbrev cX9_takeLetters : ByteArray := prog_1_method_36_code
def yX9_takeLetters : MethodName := ⟨RX9, "takeLetters", "(LOneLampAllOut$Row;)I"⟩
def RX10 : String := "OneLampAllOutModel"
def TX10 : u_T := fun k => match k with
  | 0 => ("OneLampAllOutModel", "refused", "[I", true)
  | 1 => ("OneLampAllOutModel", "kind", "[I", true)
  | 2 => ("OneLampAllOutModel", "life", "[I", true)
  | 3 => ("OneLampAllOutModel", "minutes", "[I", true)
  | 4 => ("OneLampAllOutModel", "hurt", "[I", true)
  | 5 => ("OneLampAllOutModel", "state", "[I", true)
  | 6 => ("OneLampAllOutModel", "setting", "[I", true)
  | 7 => ("OneLampAllOutModel", "lamps", "I", false)
  | 8 => ("OneLampAllOutModel", "hour", "I", false)
  | 9 => ("OneLampAllOutModel", "tape", "[I", true)
  | 10 => ("OneLampAllOutModel", "letter", "[I", true)
  | 11 => ("OneLampAllOutModel", "letterAt", "[I", true)
  | 12 => ("OneLampAllOutModel", "number", "[I", true)
  | 13 => ("OneLampAllOutModel", "taped", "I", false)
  | 14 => ("OneLampAllOutModel", "at", "I", false)
  | 15 => ("OneLampAllOutModel", "statements", "I", false)
  | 16 => ("OneLampAllOutModel", "kept", "[I", true)
  | 17 => ("OneLampAllOutModel", "hasImage", "Z", false)
  | 18 => ("OneLampAllOutModel", "isKeeping", "Z", false)
  | 19 => ("OneLampAllOutModel", "cursor", "I", false)
  | 20 => ("OneLampAllOutModel", "gain", "[I", true)
  | 21 => ("OneLampAllOutModel", "mean", "[I", true)
  | 22 => ("OneLampAllOutModel", "worst", "[I", true)
  | 23 => ("OneLampAllOutModel", "meanAt", "[I", true)
  | 24 => ("OneLampAllOutModel", "worstAt", "[I", true)
  | 25 => ("OneLampAllOutModel", "order", "[I", true)
  | 26 => ("OneLampAllOutModel", "lookAt", "[I", true)
  | 27 => ("OneLampAllOutModel", "lookIs", "[I", true)
  | 28 => ("OneLampAllOutModel", "looks", "I", false)
  | 29 => ("OneLampAllOutModel", "firstOut", "I", false)
  | _ => ("OneLampAllOutModel", "firstAfter", "I", false)
def tyX10 : Nat → FieldType := fun k => match k with
  | 0 => .array .int
  | 1 => .array .int
  | 2 => .array .int
  | 3 => .array .int
  | 4 => .array .int
  | 5 => .array .int
  | 6 => .array .int
  | 7 => .int
  | 8 => .int
  | 9 => .array .int
  | 10 => .array .int
  | 11 => .array .int
  | 12 => .array .int
  | 13 => .int
  | 14 => .int
  | 15 => .int
  | 16 => .array .int
  | 17 => .boolean
  | 18 => .boolean
  | 19 => .int
  | 20 => .array .int
  | 21 => .array .int
  | 22 => .array .int
  | 23 => .array .int
  | 24 => .array .int
  | 25 => .array .int
  | 26 => .array .int
  | 27 => .array .int
  | 28 => .int
  | 29 => .int
  | _ => .int
abbrev wsX100 : List Cond := u_ws RX10 TX10 31
theorem nmX10 : ∀ a, a < 31 → ∀ b, b < 31 → a ≠ b → (TX10 a).2.1 ≠ (TX10 b).2.1 := by decide +kernel
theorem tyX10_ok : ∀ k, k < 31 → parseFieldDescriptor (TX10 k).2.2.1 = some (tyX10 k) := by decide +kernel
abbrev cX10_init : ByteArray := prog_12_method_1_code
def yX10_init : MethodName := ⟨RX10, "<init>", "()V"⟩
abbrev cX10_no : ByteArray := prog_12_method_2_code
def yX10_no : MethodName := ⟨RX10, "no", "(I)I"⟩
abbrev cX10_lowest : ByteArray := prog_12_method_3_code
def yX10_lowest : MethodName := ⟨RX10, "lowest", "(I)J"⟩
abbrev cX10_isIn : ByteArray := prog_12_method_4_code
def yX10_isIn : MethodName := ⟨RX10, "isIn", "(III)Z"⟩
abbrev cX10_bound : ByteArray := prog_12_method_5_code
def yX10_bound : MethodName := ⟨RX10, "bound", "(III)I"⟩
abbrev cX10_isLamp : ByteArray := prog_12_method_6_code
def yX10_isLamp : MethodName := ⟨RX10, "isLamp", "(I)Z"⟩
abbrev cX10_least : ByteArray := prog_12_method_7_code
def yX10_least : MethodName := ⟨RX10, "least", "(II)I"⟩
abbrev cX10_feed : ByteArray := prog_12_method_8_code
def yX10_feed : MethodName := ⟨RX10, "feed", "(I)I"⟩
abbrev cX10_nextLetter : ByteArray := prog_12_method_9_code
def yX10_nextLetter : MethodName := ⟨RX10, "nextLetter", "()I"⟩
abbrev cX10_isNext : ByteArray := prog_12_method_10_code
def yX10_isNext : MethodName := ⟨RX10, "isNext", "(I)Z"⟩
abbrev cX10_reads : ByteArray := prog_12_method_11_code
def yX10_reads : MethodName := ⟨RX10, "reads", "(II)Z"⟩
abbrev cX10_statement : ByteArray := prog_12_method_12_code
def yX10_statement : MethodName := ⟨RX10, "statement", "()Z"⟩
abbrev cX10_comesLamp : ByteArray := prog_12_method_13_code
def yX10_comesLamp : MethodName := ⟨RX10, "comesLamp", "(I)Z"⟩
abbrev cX10_comes : ByteArray := prog_12_method_14_code
def yX10_comes : MethodName := ⟨RX10, "comes", "(I)Z"⟩
abbrev cX10_string : ByteArray := prog_12_method_15_code
def yX10_string : MethodName := ⟨RX10, "string", "()I"⟩
abbrev cX10_passes : ByteArray := prog_12_method_16_code
def yX10_passes : MethodName := ⟨RX10, "passes", "([I)V"⟩
abbrev cX10_passOne : ByteArray := prog_12_method_17_code
def yX10_passOne : MethodName := ⟨RX10, "passOne", "(I)I"⟩
abbrev cX10_passesAll : ByteArray := prog_12_method_18_code
def yX10_passesAll : MethodName := ⟨RX10, "passesAll", "(IZ)V"⟩
abbrev cX10_image : ByteArray := prog_12_method_19_code
def yX10_image : MethodName := ⟨RX10, "image", "()I"⟩
abbrev cX10_restore : ByteArray := prog_12_method_20_code
def yX10_restore : MethodName := ⟨RX10, "restore", "()I"⟩
abbrev cX10_dragOf : ByteArray := prog_12_method_21_code
def yX10_dragOf : MethodName := ⟨RX10, "dragOf", "(I)I"⟩
abbrev cX10_isWhole : ByteArray := prog_12_method_22_code
def yX10_isWhole : MethodName := ⟨RX10, "isWhole", "(II)Z"⟩
abbrev cX10_drags : ByteArray := prog_12_method_23_code
def yX10_drags : MethodName := ⟨RX10, "drags", "()I"⟩
abbrev cX10_isLive : ByteArray := prog_12_method_24_code
def yX10_isLive : MethodName := ⟨RX10, "isLive", "()Z"⟩
abbrev cX10_flowNow : ByteArray := prog_12_method_25_code
def yX10_flowNow : MethodName := ⟨RX10, "flowNow", "()I"⟩
abbrev cX10_brightBy : ByteArray := prog_12_method_26_code
def yX10_brightBy : MethodName := ⟨RX10, "brightBy", "(II)I"⟩
abbrev cX10_isLoose : ByteArray := prog_12_method_27_code
def yX10_isLoose : MethodName := ⟨RX10, "isLoose", "(I)Z"⟩
abbrev cX10_doesBridge : ByteArray := prog_12_method_28_code
def yX10_doesBridge : MethodName := ⟨RX10, "doesBridge", "(I)Z"⟩
abbrev cX10_likelyOf : ByteArray := prog_12_method_29_code
def yX10_likelyOf : MethodName := ⟨RX10, "likelyOf", "(I)I"⟩
abbrev cX10_lamp : ByteArray := prog_12_method_30_code
def yX10_lamp : MethodName := ⟨RX10, "lamp", "(II)I"⟩
abbrev cX10_set : ByteArray := prog_12_method_31_code
def yX10_set : MethodName := ⟨RX10, "set", "(II)I"⟩
abbrev cX10_flow : ByteArray := prog_12_method_32_code
def yX10_flow : MethodName := ⟨RX10, "flow", "()I"⟩
abbrev cX10_doesDie : ByteArray := prog_12_method_33_code
def yX10_doesDie : MethodName := ⟨RX10, "doesDie", "(II)Z"⟩
abbrev cX10_doesHang : ByteArray := prog_12_method_34_code
def yX10_doesHang : MethodName := ⟨RX10, "doesHang", "(I)Z"⟩
abbrev cX10_goesHour : ByteArray := prog_12_method_35_code
def yX10_goesHour : MethodName := ⟨RX10, "goesHour", "()I"⟩
abbrev cX10_hour : ByteArray := prog_12_method_36_code
def yX10_hour : MethodName := ⟨RX10, "hour", "()I"⟩
abbrev cX10_putsAnew : ByteArray := prog_12_method_37_code
def yX10_putsAnew : MethodName := ⟨RX10, "putsAnew", "(I)V"⟩
abbrev cX10_swap : ByteArray := prog_12_method_38_code
def yX10_swap : MethodName := ⟨RX10, "swap", "(I)I"⟩
abbrev cX10_areLamps : ByteArray := prog_12_method_39_code
def yX10_areLamps : MethodName := ⟨RX10, "areLamps", "(II)Z"⟩
abbrev cX10_meter : ByteArray := prog_12_method_40_code
def yX10_meter : MethodName := ⟨RX10, "meter", "(II)I"⟩
abbrev cX10_finder : ByteArray := prog_12_method_41_code
def yX10_finder : MethodName := ⟨RX10, "finder", "(I)I"⟩
abbrev cX10_touches : ByteArray := prog_12_method_42_code
def yX10_touches : MethodName := ⟨RX10, "touches", "(I)V"⟩
abbrev cX10_touch : ByteArray := prog_12_method_43_code
def yX10_touch : MethodName := ⟨RX10, "touch", "(I)I"⟩
abbrev cX10_weightOf : ByteArray := prog_12_method_44_code
def yX10_weightOf : MethodName := ⟨RX10, "weightOf", "(II)I"⟩
abbrev cX10_findStretch : ByteArray := prog_12_method_45_code
def yX10_findStretch : MethodName := ⟨RX10, "findStretch", "(II)V"⟩
abbrev cX10_findStretches : ByteArray := prog_12_method_46_code
def yX10_findStretches : MethodName := ⟨RX10, "findStretches", "()V"⟩
abbrev cX10_find : ByteArray := prog_12_method_47_code
def yX10_find : MethodName := ⟨RX10, "find", "(III)I"⟩
abbrev cX10_look : ByteArray := prog_12_method_48_code
def yX10_look : MethodName := ⟨RX10, "look", "(III)I"⟩
abbrev cX10_findOrder : ByteArray := prog_12_method_49_code
def yX10_findOrder : MethodName := ⟨RX10, "findOrder", "()V"⟩
abbrev cX10_order : ByteArray := prog_12_method_50_code
def yX10_order : MethodName := ⟨RX10, "order", "(I)I"⟩
abbrev cX10_orderSum : ByteArray := prog_12_method_51_code
def yX10_orderSum : MethodName := ⟨RX10, "orderSum", "()I"⟩
abbrev cX10_told : ByteArray := prog_12_method_52_code
def yX10_told : MethodName := ⟨RX10, "told", "(II)I"⟩
abbrev cX10_openBy : ByteArray := prog_12_method_53_code
def yX10_openBy : MethodName := ⟨RX10, "openBy", "(I)I"⟩
abbrev cX10_openTo : ByteArray := prog_12_method_54_code
def yX10_openTo : MethodName := ⟨RX10, "openTo", "()I"⟩
abbrev cX10_judge : ByteArray := prog_12_method_55_code
def yX10_judge : MethodName := ⟨RX10, "judge", "()I"⟩
abbrev cX10_lasts : ByteArray := prog_12_method_56_code
def yX10_lasts : MethodName := ⟨RX10, "lasts", "()I"⟩
abbrev cX10_findNext : ByteArray := prog_12_method_57_code
def yX10_findNext : MethodName := ⟨RX10, "findNext", "()V"⟩
abbrev cX10_next : ByteArray := prog_12_method_58_code
def yX10_next : MethodName := ⟨RX10, "next", "(I)I"⟩
abbrev cX10_stateMany : ByteArray := prog_12_method_59_code
def yX10_stateMany : MethodName := ⟨RX10, "stateMany", "(I)I"⟩
abbrev cX10_bridged : ByteArray := prog_12_method_60_code
def yX10_bridged : MethodName := ⟨RX10, "bridged", "(I)I"⟩
abbrev cX10_stop : ByteArray := prog_12_method_61_code
def yX10_stop : MethodName := ⟨RX10, "stop", "()I"⟩
abbrev cX10_light : ByteArray := prog_12_method_62_code
def yX10_light : MethodName := ⟨RX10, "light", "(I)I"⟩
abbrev cX10_keeps : ByteArray := prog_12_method_63_code
def yX10_keeps : MethodName := ⟨RX10, "keeps", "(I)I"⟩
abbrev cX10_isLiveBy : ByteArray := prog_12_method_64_code
def yX10_isLiveBy : MethodName := ⟨RX10, "isLiveBy", "(I)Z"⟩
abbrev cX10_allAnew : ByteArray := prog_12_method_65_code
def yX10_allAnew : MethodName := ⟨RX10, "allAnew", "()I"⟩
abbrev cX10_joined : ByteArray := prog_12_method_66_code
def yX10_joined : MethodName := ⟨RX10, "joined", "()I"⟩
abbrev cX10_divisor : ByteArray := prog_12_method_67_code
def yX10_divisor : MethodName := ⟨RX10, "divisor", "(JJ)J"⟩
abbrev cX10_two : ByteArray := prog_12_method_68_code
def yX10_two : MethodName := ⟨RX10, "two", "(I)J"⟩
abbrev cX10_seeds : ByteArray := prog_12_method_69_code
def yX10_seeds : MethodName := ⟨RX10, "seeds", "(II)I"⟩
abbrev cX10_count : ByteArray := prog_12_method_70_code
def yX10_count : MethodName := ⟨RX10, "count", "(I)I"⟩
def RL : String := "OneLampAllOutLaw"
abbrev cL_law : ByteArray := code
def yL_law : MethodName := ⟨RL, "law", "([I)Z"⟩
abbrev vwCl : List vw_C := [(RX1, TX1, 5), (RX2, TX2, 2), (RX3, TX3, 3), (RX4, TX4, 1), (RX5, TX5, 4), (RX6, TX6, 1), (RX7, TX7, 6), (RX8, TX8, 1), (RX9, TX9, 10), (RX10, TX10, 31)]
end
section
theorem dX0_ofTwo_0 : decode cX0_ofTwo 0 = .ok (.lconst 1, 1) := by decide +kernel
theorem dX0_ofTwo_1 : decode cX0_ofTwo 1 = .ok (.lstore_n 2, 1) := by decide +kernel
theorem dX0_ofTwo_2 : decode cX0_ofTwo 2 = .ok (.lconst 1, 1) := by decide +kernel
theorem dX0_ofTwo_3 : decode cX0_ofTwo 3 = .ok (.lstore 4, 2) := by decide +kernel
theorem dX0_ofTwo_5 : decode cX0_ofTwo 5 = .ok (.lconst 0, 1) := by decide +kernel
theorem dX0_ofTwo_6 : decode cX0_ofTwo 6 = .ok (.lstore 6, 2) := by decide +kernel
theorem dX0_ofTwo_8 : decode cX0_ofTwo 8 = .ok (.iconst 0, 1) := by decide +kernel
theorem dX0_ofTwo_9 : decode cX0_ofTwo 9 = .ok (.istore 8, 2) := by decide +kernel
theorem dX0_ofTwo_11 : decode cX0_ofTwo 11 = .ok (.iload 8, 2) := by decide +kernel
theorem dX0_ofTwo_13 : decode cX0_ofTwo 13 = .ok (.aload_n 0, 1) := by decide +kernel
theorem dX0_ofTwo_14 : decode cX0_ofTwo 14 = .ok (.getfield 9, 3) := by decide +kernel
theorem dX0_ofTwo_17 : decode cX0_ofTwo 17 = .ok (.if_icmp .ge 68, 3) := by decide +kernel
theorem dX0_ofTwo_20 : decode cX0_ofTwo 20 = .ok (.iload 8, 2) := by decide +kernel
theorem dX0_ofTwo_22 : decode cX0_ofTwo 22 = .ok (.bipush 8, 2) := by decide +kernel
theorem dX0_ofTwo_24 : decode cX0_ofTwo 24 = .ok (.if_icmp .ge 61, 3) := by decide +kernel
theorem dX0_ofTwo_27 : decode cX0_ofTwo 27 = .ok (.bipush 99, 2) := by decide +kernel
theorem dX0_ofTwo_29 : decode cX0_ofTwo 29 = .ok (.aload_n 0, 1) := by decide +kernel
theorem dX0_ofTwo_30 : decode cX0_ofTwo 30 = .ok (.getfield 15, 3) := by decide +kernel
theorem dX0_ofTwo_33 : decode cX0_ofTwo 33 = .ok (.iload 8, 2) := by decide +kernel
theorem dX0_ofTwo_35 : decode cX0_ofTwo 35 = .ok (.aaload, 1) := by decide +kernel
theorem dX0_ofTwo_36 : decode cX0_ofTwo 36 = .ok (.invokevirtual 19, 3) := by decide +kernel
theorem dX0_ofTwo_39 : decode cX0_ofTwo 39 = .ok (.invokestatic 25, 3) := by decide +kernel
theorem dX0_ofTwo_42 : decode cX0_ofTwo 42 = .ok (.i2l, 1) := by decide +kernel
theorem dX0_ofTwo_43 : decode cX0_ofTwo 43 = .ok (.lstore 9, 2) := by decide +kernel
theorem dX0_ofTwo_45 : decode cX0_ofTwo 45 = .ok (.lload_n 2, 1) := by decide +kernel
theorem dX0_ofTwo_46 : decode cX0_ofTwo 46 = .ok (.ldc2_w 31, 3) := by decide +kernel
theorem dX0_ofTwo_49 : decode cX0_ofTwo 49 = .ok (.lmul, 1) := by decide +kernel
theorem dX0_ofTwo_50 : decode cX0_ofTwo 50 = .ok (.lstore_n 2, 1) := by decide +kernel
theorem dX0_ofTwo_51 : decode cX0_ofTwo 51 = .ok (.lload 6, 2) := by decide +kernel
theorem dX0_ofTwo_53 : decode cX0_ofTwo 53 = .ok (.ldc2_w 31, 3) := by decide +kernel
theorem dX0_ofTwo_56 : decode cX0_ofTwo 56 = .ok (.lload 9, 2) := by decide +kernel
theorem dX0_ofTwo_58 : decode cX0_ofTwo 58 = .ok (.lsub, 1) := by decide +kernel
theorem dX0_ofTwo_59 : decode cX0_ofTwo 59 = .ok (.lmul, 1) := by decide +kernel
theorem dX0_ofTwo_60 : decode cX0_ofTwo 60 = .ok (.lload 4, 2) := by decide +kernel
theorem dX0_ofTwo_62 : decode cX0_ofTwo 62 = .ok (.lload 9, 2) := by decide +kernel
theorem dX0_ofTwo_64 : decode cX0_ofTwo 64 = .ok (.lmul, 1) := by decide +kernel
theorem dX0_ofTwo_65 : decode cX0_ofTwo 65 = .ok (.ladd, 1) := by decide +kernel
theorem dX0_ofTwo_66 : decode cX0_ofTwo 66 = .ok (.lstore 6, 2) := by decide +kernel
theorem dX0_ofTwo_68 : decode cX0_ofTwo 68 = .ok (.lload 4, 2) := by decide +kernel
theorem dX0_ofTwo_70 : decode cX0_ofTwo 70 = .ok (.ldc2_w 31, 3) := by decide +kernel
theorem dX0_ofTwo_73 : decode cX0_ofTwo 73 = .ok (.lload 9, 2) := by decide +kernel
theorem dX0_ofTwo_75 : decode cX0_ofTwo 75 = .ok (.lsub, 1) := by decide +kernel
theorem dX0_ofTwo_76 : decode cX0_ofTwo 76 = .ok (.lmul, 1) := by decide +kernel
theorem dX0_ofTwo_77 : decode cX0_ofTwo 77 = .ok (.lstore 4, 2) := by decide +kernel
theorem dX0_ofTwo_79 : decode cX0_ofTwo 79 = .ok (.iinc 8 1, 3) := by decide +kernel
theorem dX0_ofTwo_82 : decode cX0_ofTwo 82 = .ok (.goto (-71), 3) := by decide +kernel
theorem dX0_ofTwo_85 : decode cX0_ofTwo 85 = .ok (.lload_n 2, 1) := by decide +kernel
theorem dX0_ofTwo_86 : decode cX0_ofTwo 86 = .ok (.lload 4, 2) := by decide +kernel
theorem dX0_ofTwo_88 : decode cX0_ofTwo 88 = .ok (.lsub, 1) := by decide +kernel
theorem dX0_ofTwo_89 : decode cX0_ofTwo 89 = .ok (.lstore 8, 2) := by decide +kernel
theorem dX0_ofTwo_91 : decode cX0_ofTwo 91 = .ok (.lload 8, 2) := by decide +kernel
theorem dX0_ofTwo_93 : decode cX0_ofTwo 93 = .ok (.lload 6, 2) := by decide +kernel
theorem dX0_ofTwo_95 : decode cX0_ofTwo 95 = .ok (.lsub, 1) := by decide +kernel
theorem dX0_ofTwo_96 : decode cX0_ofTwo 96 = .ok (.lstore 10, 2) := by decide +kernel
theorem dX0_ofTwo_98 : decode cX0_ofTwo 98 = .ok (.lload 8, 2) := by decide +kernel
theorem dX0_ofTwo_100 : decode cX0_ofTwo 100 = .ok (.lload 10, 2) := by decide +kernel
theorem dX0_ofTwo_102 : decode cX0_ofTwo 102 = .ok (.invokestatic 33, 3) := by decide +kernel
theorem dX0_ofTwo_105 : decode cX0_ofTwo 105 = .ok (.lstore 12, 2) := by decide +kernel
theorem dX0_ofTwo_107 : decode cX0_ofTwo 107 = .ok (.lload 12, 2) := by decide +kernel
theorem dX0_ofTwo_109 : decode cX0_ofTwo 109 = .ok (.lconst 0, 1) := by decide +kernel
theorem dX0_ofTwo_110 : decode cX0_ofTwo 110 = .ok (.lcmp, 1) := by decide +kernel
theorem dX0_ofTwo_111 : decode cX0_ofTwo 111 = .ok (.ifCond .gt 5, 3) := by decide +kernel
theorem dX0_ofTwo_114 : decode cX0_ofTwo 114 = .ok (.lconst 0, 1) := by decide +kernel
theorem dX0_ofTwo_115 : decode cX0_ofTwo 115 = .ok (.lreturn, 1) := by decide +kernel
theorem dX0_ofTwo_116 : decode cX0_ofTwo 116 = .ok (.iload_n 1, 1) := by decide +kernel
theorem dX0_ofTwo_117 : decode cX0_ofTwo 117 = .ok (.ifCond .eq 8, 3) := by decide +kernel
theorem dX0_ofTwo_120 : decode cX0_ofTwo 120 = .ok (.lload 10, 2) := by decide +kernel
theorem dX0_ofTwo_122 : decode cX0_ofTwo 122 = .ok (.goto 5, 3) := by decide +kernel
theorem dX0_ofTwo_125 : decode cX0_ofTwo 125 = .ok (.lload 8, 2) := by decide +kernel
theorem dX0_ofTwo_127 : decode cX0_ofTwo 127 = .ok (.lload 12, 2) := by decide +kernel
theorem dX0_ofTwo_129 : decode cX0_ofTwo 129 = .ok (.ldiv, 1) := by decide +kernel
theorem dX0_ofTwo_130 : decode cX0_ofTwo 130 = .ok (.lreturn, 1) := by decide +kernel
theorem dX0_greatestShared_0 : decode cX0_greatestShared 0 = .ok (.lload_n 0, 1) := by decide +kernel
theorem dX0_greatestShared_1 : decode cX0_greatestShared 1 = .ok (.lstore 4, 2) := by decide +kernel
theorem dX0_greatestShared_3 : decode cX0_greatestShared 3 = .ok (.lload_n 2, 1) := by decide +kernel
theorem dX0_greatestShared_4 : decode cX0_greatestShared 4 = .ok (.lstore 6, 2) := by decide +kernel
theorem dX0_greatestShared_6 : decode cX0_greatestShared 6 = .ok (.iconst 0, 1) := by decide +kernel
theorem dX0_greatestShared_7 : decode cX0_greatestShared 7 = .ok (.istore 8, 2) := by decide +kernel
theorem dX0_greatestShared_9 : decode cX0_greatestShared 9 = .ok (.iload 8, 2) := by decide +kernel
theorem dX0_greatestShared_11 : decode cX0_greatestShared 11 = .ok (.sipush 1000, 3) := by decide +kernel
theorem dX0_greatestShared_14 : decode cX0_greatestShared 14 = .ok (.if_icmp .ge 31, 3) := by decide +kernel
theorem dX0_greatestShared_17 : decode cX0_greatestShared 17 = .ok (.lload 6, 2) := by decide +kernel
theorem dX0_greatestShared_19 : decode cX0_greatestShared 19 = .ok (.lconst 0, 1) := by decide +kernel
theorem dX0_greatestShared_20 : decode cX0_greatestShared 20 = .ok (.lcmp, 1) := by decide +kernel
theorem dX0_greatestShared_21 : decode cX0_greatestShared 21 = .ok (.ifCond .eq 24, 3) := by decide +kernel
theorem dX0_greatestShared_24 : decode cX0_greatestShared 24 = .ok (.lload 4, 2) := by decide +kernel
theorem dX0_greatestShared_26 : decode cX0_greatestShared 26 = .ok (.lload 6, 2) := by decide +kernel
theorem dX0_greatestShared_28 : decode cX0_greatestShared 28 = .ok (.lrem, 1) := by decide +kernel
theorem dX0_greatestShared_29 : decode cX0_greatestShared 29 = .ok (.lstore 9, 2) := by decide +kernel
theorem dX0_greatestShared_31 : decode cX0_greatestShared 31 = .ok (.lload 6, 2) := by decide +kernel
theorem dX0_greatestShared_33 : decode cX0_greatestShared 33 = .ok (.lstore 4, 2) := by decide +kernel
theorem dX0_greatestShared_35 : decode cX0_greatestShared 35 = .ok (.lload 9, 2) := by decide +kernel
theorem dX0_greatestShared_37 : decode cX0_greatestShared 37 = .ok (.lstore 6, 2) := by decide +kernel
theorem dX0_greatestShared_39 : decode cX0_greatestShared 39 = .ok (.iinc 8 1, 3) := by decide +kernel
theorem dX0_greatestShared_42 : decode cX0_greatestShared 42 = .ok (.goto (-33), 3) := by decide +kernel
theorem dX0_greatestShared_45 : decode cX0_greatestShared 45 = .ok (.lload 4, 2) := by decide +kernel
theorem dX0_greatestShared_47 : decode cX0_greatestShared 47 = .ok (.lreturn, 1) := by decide +kernel
theorem dX1_init_0 : decode cX1_init 0 = .ok (.aload_n 0, 1) := by decide +kernel
theorem dX1_init_1 : decode cX1_init 1 = .ok (.invokespecial 3, 3) := by decide +kernel
theorem dX1_init_4 : decode cX1_init 4 = .ok (.return_, 1) := by decide +kernel
theorem dX1_begin_0 : decode cX1_begin 0 = .ok (.aload_n 0, 1) := by decide +kernel
theorem dX1_begin_1 : decode cX1_begin 1 = .ok (.iload_n 1, 1) := by decide +kernel
theorem dX1_begin_2 : decode cX1_begin 2 = .ok (.putfield 9, 3) := by decide +kernel
theorem dX1_begin_5 : decode cX1_begin 5 = .ok (.aload_n 0, 1) := by decide +kernel
theorem dX1_begin_6 : decode cX1_begin 6 = .ok (.iload_n 2, 1) := by decide +kernel
theorem dX1_begin_7 : decode cX1_begin 7 = .ok (.putfield 15, 3) := by decide +kernel
theorem dX1_begin_10 : decode cX1_begin 10 = .ok (.aload_n 0, 1) := by decide +kernel
theorem dX1_begin_11 : decode cX1_begin 11 = .ok (.iload_n 3, 1) := by decide +kernel
theorem dX1_begin_12 : decode cX1_begin 12 = .ok (.putfield 18, 3) := by decide +kernel
theorem dX1_begin_15 : decode cX1_begin 15 = .ok (.aload_n 0, 1) := by decide +kernel
theorem dX1_begin_16 : decode cX1_begin 16 = .ok (.invokevirtual 21, 3) := by decide +kernel
theorem dX1_begin_19 : decode cX1_begin 19 = .ok (.return_, 1) := by decide +kernel
theorem dX1_copyFrom_0 : decode cX1_copyFrom 0 = .ok (.aload_n 0, 1) := by decide +kernel
theorem dX1_copyFrom_1 : decode cX1_copyFrom 1 = .ok (.aload_n 1, 1) := by decide +kernel
theorem dX1_copyFrom_2 : decode cX1_copyFrom 2 = .ok (.getfield 9, 3) := by decide +kernel
theorem dX1_copyFrom_5 : decode cX1_copyFrom 5 = .ok (.putfield 9, 3) := by decide +kernel
theorem dX1_copyFrom_8 : decode cX1_copyFrom 8 = .ok (.aload_n 0, 1) := by decide +kernel
theorem dX1_copyFrom_9 : decode cX1_copyFrom 9 = .ok (.aload_n 1, 1) := by decide +kernel
theorem dX1_copyFrom_10 : decode cX1_copyFrom 10 = .ok (.getfield 15, 3) := by decide +kernel
theorem dX1_copyFrom_13 : decode cX1_copyFrom 13 = .ok (.putfield 15, 3) := by decide +kernel
theorem dX1_copyFrom_16 : decode cX1_copyFrom 16 = .ok (.aload_n 0, 1) := by decide +kernel
theorem dX1_copyFrom_17 : decode cX1_copyFrom 17 = .ok (.aload_n 1, 1) := by decide +kernel
theorem dX1_copyFrom_18 : decode cX1_copyFrom 18 = .ok (.getfield 18, 3) := by decide +kernel
theorem dX1_copyFrom_21 : decode cX1_copyFrom 21 = .ok (.putfield 18, 3) := by decide +kernel
theorem dX1_copyFrom_24 : decode cX1_copyFrom 24 = .ok (.aload_n 0, 1) := by decide +kernel
theorem dX1_copyFrom_25 : decode cX1_copyFrom 25 = .ok (.aload_n 1, 1) := by decide +kernel
theorem dX1_copyFrom_26 : decode cX1_copyFrom 26 = .ok (.getfield 24, 3) := by decide +kernel
theorem dX1_copyFrom_29 : decode cX1_copyFrom 29 = .ok (.putfield 24, 3) := by decide +kernel
theorem dX1_copyFrom_32 : decode cX1_copyFrom 32 = .ok (.aload_n 0, 1) := by decide +kernel
theorem dX1_copyFrom_33 : decode cX1_copyFrom 33 = .ok (.aload_n 1, 1) := by decide +kernel
theorem dX1_copyFrom_34 : decode cX1_copyFrom 34 = .ok (.getfield 27, 3) := by decide +kernel
theorem dX1_copyFrom_37 : decode cX1_copyFrom 37 = .ok (.putfield 27, 3) := by decide +kernel
theorem dX1_copyFrom_40 : decode cX1_copyFrom 40 = .ok (.return_, 1) := by decide +kernel
theorem dX1_putAnew_0 : decode cX1_putAnew 0 = .ok (.aload_n 0, 1) := by decide +kernel
theorem dX1_putAnew_1 : decode cX1_putAnew 1 = .ok (.iconst 0, 1) := by decide +kernel
theorem dX1_putAnew_2 : decode cX1_putAnew 2 = .ok (.putfield 24, 3) := by decide +kernel
theorem dX1_putAnew_5 : decode cX1_putAnew 5 = .ok (.aload_n 0, 1) := by decide +kernel
theorem dX1_putAnew_6 : decode cX1_putAnew 6 = .ok (.iconst 0, 1) := by decide +kernel
theorem dX1_putAnew_7 : decode cX1_putAnew 7 = .ok (.putfield 27, 3) := by decide +kernel
theorem dX1_putAnew_10 : decode cX1_putAnew 10 = .ok (.return_, 1) := by decide +kernel
theorem dX1_isWell_0 : decode cX1_isWell 0 = .ok (.aload_n 0, 1) := by decide +kernel
theorem dX1_isWell_1 : decode cX1_isWell 1 = .ok (.getfield 27, 3) := by decide +kernel
theorem dX1_isWell_4 : decode cX1_isWell 4 = .ok (.ifCond .ne 7, 3) := by decide +kernel
theorem dX1_isWell_7 : decode cX1_isWell 7 = .ok (.iconst 1, 1) := by decide +kernel
theorem dX1_isWell_8 : decode cX1_isWell 8 = .ok (.goto 4, 3) := by decide +kernel
theorem dX1_isWell_11 : decode cX1_isWell 11 = .ok (.iconst 0, 1) := by decide +kernel
theorem dX1_isWell_12 : decode cX1_isWell 12 = .ok (.ireturn, 1) := by decide +kernel
theorem dX1_breaksRow_0 : decode cX1_breaksRow 0 = .ok (.aload_n 0, 1) := by decide +kernel
theorem dX1_breaksRow_1 : decode cX1_breaksRow 1 = .ok (.getfield 27, 3) := by decide +kernel
theorem dX1_breaksRow_4 : decode cX1_breaksRow 4 = .ok (.iconst 1, 1) := by decide +kernel
theorem dX1_breaksRow_5 : decode cX1_breaksRow 5 = .ok (.if_icmp .eq 11, 3) := by decide +kernel
theorem dX1_breaksRow_8 : decode cX1_breaksRow 8 = .ok (.aload_n 0, 1) := by decide +kernel
theorem dX1_breaksRow_9 : decode cX1_breaksRow 9 = .ok (.getfield 27, 3) := by decide +kernel
theorem dX1_breaksRow_12 : decode cX1_breaksRow 12 = .ok (.iconst 3, 1) := by decide +kernel
theorem dX1_breaksRow_13 : decode cX1_breaksRow 13 = .ok (.if_icmp .ne 7, 3) := by decide +kernel
theorem dX1_breaksRow_16 : decode cX1_breaksRow 16 = .ok (.iconst 1, 1) := by decide +kernel
theorem dX1_breaksRow_17 : decode cX1_breaksRow 17 = .ok (.goto 4, 3) := by decide +kernel
theorem dX1_breaksRow_20 : decode cX1_breaksRow 20 = .ok (.iconst 0, 1) := by decide +kernel
theorem dX1_breaksRow_21 : decode cX1_breaksRow 21 = .ok (.ireturn, 1) := by decide +kernel
theorem dX1_isLoose_0 : decode cX1_isLoose 0 = .ok (.aload_n 0, 1) := by decide +kernel
theorem dX1_isLoose_1 : decode cX1_isLoose 1 = .ok (.getfield 9, 3) := by decide +kernel
theorem dX1_isLoose_4 : decode cX1_isLoose 4 = .ok (.iconst 2, 1) := by decide +kernel
theorem dX1_isLoose_5 : decode cX1_isLoose 5 = .ok (.if_icmp .eq 11, 3) := by decide +kernel
theorem dX1_isLoose_8 : decode cX1_isLoose 8 = .ok (.aload_n 0, 1) := by decide +kernel
theorem dX1_isLoose_9 : decode cX1_isLoose 9 = .ok (.getfield 9, 3) := by decide +kernel
theorem dX1_isLoose_12 : decode cX1_isLoose 12 = .ok (.iconst 3, 1) := by decide +kernel
theorem dX1_isLoose_13 : decode cX1_isLoose 13 = .ok (.if_icmp .ne 7, 3) := by decide +kernel
theorem dX1_isLoose_16 : decode cX1_isLoose 16 = .ok (.iconst 1, 1) := by decide +kernel
theorem dX1_isLoose_17 : decode cX1_isLoose 17 = .ok (.goto 4, 3) := by decide +kernel
theorem dX1_isLoose_20 : decode cX1_isLoose 20 = .ok (.iconst 0, 1) := by decide +kernel
theorem dX1_isLoose_21 : decode cX1_isLoose 21 = .ok (.ireturn, 1) := by decide +kernel
theorem dX1_isBridger_0 : decode cX1_isBridger 0 = .ok (.aload_n 0, 1) := by decide +kernel
theorem dX1_isBridger_1 : decode cX1_isBridger 1 = .ok (.getfield 9, 3) := by decide +kernel
theorem dX1_isBridger_4 : decode cX1_isBridger 4 = .ok (.iconst 1, 1) := by decide +kernel
theorem dX1_isBridger_5 : decode cX1_isBridger 5 = .ok (.if_icmp .eq 11, 3) := by decide +kernel
theorem dX1_isBridger_8 : decode cX1_isBridger 8 = .ok (.aload_n 0, 1) := by decide +kernel
theorem dX1_isBridger_9 : decode cX1_isBridger 9 = .ok (.getfield 9, 3) := by decide +kernel
theorem dX1_isBridger_12 : decode cX1_isBridger 12 = .ok (.iconst 5, 1) := by decide +kernel
theorem dX1_isBridger_13 : decode cX1_isBridger 13 = .ok (.if_icmp .ne 7, 3) := by decide +kernel
theorem dX1_isBridger_16 : decode cX1_isBridger 16 = .ok (.iconst 1, 1) := by decide +kernel
theorem dX1_isBridger_17 : decode cX1_isBridger 17 = .ok (.goto 4, 3) := by decide +kernel
theorem dX1_isBridger_20 : decode cX1_isBridger 20 = .ok (.iconst 0, 1) := by decide +kernel
theorem dX1_isBridger_21 : decode cX1_isBridger 21 = .ok (.ireturn, 1) := by decide +kernel
theorem dX1_drag_0 : decode cX1_drag 0 = .ok (.aload_n 0, 1) := by decide +kernel
theorem dX1_drag_1 : decode cX1_drag 1 = .ok (.getfield 27, 3) := by decide +kernel
theorem dX1_drag_4 : decode cX1_drag 4 = .ok (.iconst 2, 1) := by decide +kernel
theorem dX1_drag_5 : decode cX1_drag 5 = .ok (.if_icmp .ne 5, 3) := by decide +kernel
theorem dX1_drag_8 : decode cX1_drag 8 = .ok (.iconst 0, 1) := by decide +kernel
theorem dX1_drag_9 : decode cX1_drag 9 = .ok (.ireturn, 1) := by decide +kernel
theorem dX1_drag_10 : decode cX1_drag 10 = .ok (.aload_n 0, 1) := by decide +kernel
theorem dX1_drag_11 : decode cX1_drag 11 = .ok (.getfield 9, 3) := by decide +kernel
theorem dX1_drag_14 : decode cX1_drag 14 = .ok (.tableswitch 35 3 5 #[26, 29, 32], 26) := by decide +kernel
theorem dX1_drag_40 : decode cX1_drag 40 = .ok (.bipush 15, 2) := by decide +kernel
theorem dX1_drag_42 : decode cX1_drag 42 = .ok (.ireturn, 1) := by decide +kernel
theorem dX1_drag_43 : decode cX1_drag 43 = .ok (.bipush 6, 2) := by decide +kernel
theorem dX1_drag_45 : decode cX1_drag 45 = .ok (.ireturn, 1) := by decide +kernel
theorem dX1_drag_46 : decode cX1_drag 46 = .ok (.bipush 20, 2) := by decide +kernel
theorem dX1_drag_48 : decode cX1_drag 48 = .ok (.ireturn, 1) := by decide +kernel
theorem dX1_drag_49 : decode cX1_drag 49 = .ok (.bipush 10, 2) := by decide +kernel
theorem dX1_drag_51 : decode cX1_drag 51 = .ok (.ireturn, 1) := by decide +kernel
theorem dX1_brightAt_0 : decode cX1_brightAt 0 = .ok (.aload_n 0, 1) := by decide +kernel
theorem dX1_brightAt_1 : decode cX1_brightAt 1 = .ok (.invokevirtual 30, 3) := by decide +kernel
theorem dX1_brightAt_4 : decode cX1_brightAt 4 = .ok (.ifCond .eq 15, 3) := by decide +kernel
theorem dX1_brightAt_7 : decode cX1_brightAt 7 = .ok (.iload_n 1, 1) := by decide +kernel
theorem dX1_brightAt_8 : decode cX1_brightAt 8 = .ok (.aload_n 0, 1) := by decide +kernel
theorem dX1_brightAt_9 : decode cX1_brightAt 9 = .ok (.invokevirtual 34, 3) := by decide +kernel
theorem dX1_brightAt_12 : decode cX1_brightAt 12 = .ok (.imul, 1) := by decide +kernel
theorem dX1_brightAt_13 : decode cX1_brightAt 13 = .ok (.bipush 100, 2) := by decide +kernel
theorem dX1_brightAt_15 : decode cX1_brightAt 15 = .ok (.idiv, 1) := by decide +kernel
theorem dX1_brightAt_16 : decode cX1_brightAt 16 = .ok (.goto 4, 3) := by decide +kernel
theorem dX1_brightAt_19 : decode cX1_brightAt 19 = .ok (.iconst 0, 1) := by decide +kernel
theorem dX1_brightAt_20 : decode cX1_brightAt 20 = .ok (.ireturn, 1) := by decide +kernel
theorem dX1_likely_0 : decode cX1_likely 0 = .ok (.aload_n 0, 1) := by decide +kernel
theorem dX1_likely_1 : decode cX1_likely 1 = .ok (.invokevirtual 38, 3) := by decide +kernel
theorem dX1_likely_4 : decode cX1_likely 4 = .ok (.ifCond .eq 5, 3) := by decide +kernel
theorem dX1_likely_7 : decode cX1_likely 7 = .ok (.iconst 1, 1) := by decide +kernel
theorem dX1_likely_8 : decode cX1_likely 8 = .ok (.ireturn, 1) := by decide +kernel
theorem dX1_likely_9 : decode cX1_likely 9 = .ok (.aload_n 0, 1) := by decide +kernel
theorem dX1_likely_10 : decode cX1_likely 10 = .ok (.getfield 24, 3) := by decide +kernel
theorem dX1_likely_13 : decode cX1_likely 13 = .ok (.bipush 10, 2) := by decide +kernel
theorem dX1_likely_15 : decode cX1_likely 15 = .ok (.idiv, 1) := by decide +kernel
theorem dX1_likely_16 : decode cX1_likely 16 = .ok (.iconst 1, 1) := by decide +kernel
theorem dX1_likely_17 : decode cX1_likely 17 = .ok (.iadd, 1) := by decide +kernel
theorem dX1_likely_18 : decode cX1_likely 18 = .ok (.istore_n 1, 1) := by decide +kernel
theorem dX1_likely_19 : decode cX1_likely 19 = .ok (.aload_n 0, 1) := by decide +kernel
theorem dX1_likely_20 : decode cX1_likely 20 = .ok (.invokevirtual 41, 3) := by decide +kernel
theorem dX1_likely_23 : decode cX1_likely 23 = .ok (.ifCond .eq 9, 3) := by decide +kernel
theorem dX1_likely_26 : decode cX1_likely 26 = .ok (.iload_n 1, 1) := by decide +kernel
theorem dX1_likely_27 : decode cX1_likely 27 = .ok (.iconst 3, 1) := by decide +kernel
theorem dX1_likely_28 : decode cX1_likely 28 = .ok (.iadd, 1) := by decide +kernel
theorem dX1_likely_29 : decode cX1_likely 29 = .ok (.goto 4, 3) := by decide +kernel
theorem dX1_likely_32 : decode cX1_likely 32 = .ok (.iload_n 1, 1) := by decide +kernel
theorem dX1_likely_33 : decode cX1_likely 33 = .ok (.ireturn, 1) := by decide +kernel
theorem dX1_burn_0 : decode cX1_burn 0 = .ok (.aload_n 0, 1) := by decide +kernel
theorem dX1_burn_1 : decode cX1_burn 1 = .ok (.sipush 9999, 3) := by decide +kernel
theorem dX1_burn_4 : decode cX1_burn 4 = .ok (.aload_n 0, 1) := by decide +kernel
theorem dX1_burn_5 : decode cX1_burn 5 = .ok (.getfield 24, 3) := by decide +kernel
theorem dX1_burn_8 : decode cX1_burn 8 = .ok (.aload_n 0, 1) := by decide +kernel
theorem dX1_burn_9 : decode cX1_burn 9 = .ok (.iload_n 1, 1) := by decide +kernel
theorem dX1_burn_10 : decode cX1_burn 10 = .ok (.invokevirtual 44, 3) := by decide +kernel
theorem dX1_burn_13 : decode cX1_burn 13 = .ok (.bipush 10, 2) := by decide +kernel
theorem dX1_burn_15 : decode cX1_burn 15 = .ok (.idiv, 1) := by decide +kernel
theorem dX1_burn_16 : decode cX1_burn 16 = .ok (.iadd, 1) := by decide +kernel
theorem dX1_burn_17 : decode cX1_burn 17 = .ok (.invokestatic 48, 3) := by decide +kernel
theorem dX1_burn_20 : decode cX1_burn 20 = .ok (.putfield 24, 3) := by decide +kernel
theorem dX1_burn_23 : decode cX1_burn 23 = .ok (.aload_n 0, 1) := by decide +kernel
theorem dX1_burn_24 : decode cX1_burn 24 = .ok (.iload_n 1, 1) := by decide +kernel
theorem dX1_burn_25 : decode cX1_burn 25 = .ok (.invokevirtual 54, 3) := by decide +kernel
theorem dX1_burn_28 : decode cX1_burn 28 = .ok (.ifCond .eq 11, 3) := by decide +kernel
theorem dX1_burn_31 : decode cX1_burn 31 = .ok (.aload_n 0, 1) := by decide +kernel
theorem dX1_burn_32 : decode cX1_burn 32 = .ok (.aload_n 0, 1) := by decide +kernel
theorem dX1_burn_33 : decode cX1_burn 33 = .ok (.invokevirtual 58, 3) := by decide +kernel
theorem dX1_burn_36 : decode cX1_burn 36 = .ok (.putfield 27, 3) := by decide +kernel
theorem dX1_burn_39 : decode cX1_burn 39 = .ok (.return_, 1) := by decide +kernel
theorem dX1_mustDie_0 : decode cX1_mustDie 0 = .ok (.aload_n 0, 1) := by decide +kernel
theorem dX1_mustDie_1 : decode cX1_mustDie 1 = .ok (.getfield 9, 3) := by decide +kernel
theorem dX1_mustDie_4 : decode cX1_mustDie 4 = .ok (.lookupswitch 64 #[(4, 28), (5, 44)], 28) := by decide +kernel
theorem dX1_mustDie_32 : decode cX1_mustDie 32 = .ok (.iload_n 1, 1) := by decide +kernel
theorem dX1_mustDie_33 : decode cX1_mustDie 33 = .ok (.iconst 5, 1) := by decide +kernel
theorem dX1_mustDie_34 : decode cX1_mustDie 34 = .ok (.aload_n 0, 1) := by decide +kernel
theorem dX1_mustDie_35 : decode cX1_mustDie 35 = .ok (.getfield 15, 3) := by decide +kernel
theorem dX1_mustDie_38 : decode cX1_mustDie 38 = .ok (.imul, 1) := by decide +kernel
theorem dX1_mustDie_39 : decode cX1_mustDie 39 = .ok (.if_icmp .le 7, 3) := by decide +kernel
theorem dX1_mustDie_42 : decode cX1_mustDie 42 = .ok (.iconst 1, 1) := by decide +kernel
theorem dX1_mustDie_43 : decode cX1_mustDie 43 = .ok (.goto 4, 3) := by decide +kernel
theorem dX1_mustDie_46 : decode cX1_mustDie 46 = .ok (.iconst 0, 1) := by decide +kernel
theorem dX1_mustDie_47 : decode cX1_mustDie 47 = .ok (.ireturn, 1) := by decide +kernel
theorem dX1_mustDie_48 : decode cX1_mustDie 48 = .ok (.aload_n 0, 1) := by decide +kernel
theorem dX1_mustDie_49 : decode cX1_mustDie 49 = .ok (.getfield 24, 3) := by decide +kernel
theorem dX1_mustDie_52 : decode cX1_mustDie 52 = .ok (.bipush 20, 2) := by decide +kernel
theorem dX1_mustDie_54 : decode cX1_mustDie 54 = .ok (.aload_n 0, 1) := by decide +kernel
theorem dX1_mustDie_55 : decode cX1_mustDie 55 = .ok (.getfield 15, 3) := by decide +kernel
theorem dX1_mustDie_58 : decode cX1_mustDie 58 = .ok (.imul, 1) := by decide +kernel
theorem dX1_mustDie_59 : decode cX1_mustDie 59 = .ok (.if_icmp .lt 7, 3) := by decide +kernel
theorem dX1_mustDie_62 : decode cX1_mustDie 62 = .ok (.iconst 1, 1) := by decide +kernel
theorem dX1_mustDie_63 : decode cX1_mustDie 63 = .ok (.goto 4, 3) := by decide +kernel
theorem dX1_mustDie_66 : decode cX1_mustDie 66 = .ok (.iconst 0, 1) := by decide +kernel
theorem dX1_mustDie_67 : decode cX1_mustDie 67 = .ok (.ireturn, 1) := by decide +kernel
theorem dX1_mustDie_68 : decode cX1_mustDie 68 = .ok (.aload_n 0, 1) := by decide +kernel
theorem dX1_mustDie_69 : decode cX1_mustDie 69 = .ok (.getfield 24, 3) := by decide +kernel
theorem dX1_mustDie_72 : decode cX1_mustDie 72 = .ok (.bipush 10, 2) := by decide +kernel
theorem dX1_mustDie_74 : decode cX1_mustDie 74 = .ok (.aload_n 0, 1) := by decide +kernel
theorem dX1_mustDie_75 : decode cX1_mustDie 75 = .ok (.getfield 15, 3) := by decide +kernel
theorem dX1_mustDie_78 : decode cX1_mustDie 78 = .ok (.imul, 1) := by decide +kernel
theorem dX1_mustDie_79 : decode cX1_mustDie 79 = .ok (.if_icmp .lt 7, 3) := by decide +kernel
theorem dX1_mustDie_82 : decode cX1_mustDie 82 = .ok (.iconst 1, 1) := by decide +kernel
theorem dX1_mustDie_83 : decode cX1_mustDie 83 = .ok (.goto 4, 3) := by decide +kernel
theorem dX1_mustDie_86 : decode cX1_mustDie 86 = .ok (.iconst 0, 1) := by decide +kernel
theorem dX1_mustDie_87 : decode cX1_mustDie 87 = .ok (.ireturn, 1) := by decide +kernel
theorem dX1_whenDead_0 : decode cX1_whenDead 0 = .ok (.aload_n 0, 1) := by decide +kernel
theorem dX1_whenDead_1 : decode cX1_whenDead 1 = .ok (.invokevirtual 38, 3) := by decide +kernel
theorem dX1_whenDead_4 : decode cX1_whenDead 4 = .ok (.ifCond .eq 5, 3) := by decide +kernel
theorem dX1_whenDead_7 : decode cX1_whenDead 7 = .ok (.iconst 2, 1) := by decide +kernel
theorem dX1_whenDead_8 : decode cX1_whenDead 8 = .ok (.ireturn, 1) := by decide +kernel
theorem dX1_whenDead_9 : decode cX1_whenDead 9 = .ok (.aload_n 0, 1) := by decide +kernel
theorem dX1_whenDead_10 : decode cX1_whenDead 10 = .ok (.getfield 9, 3) := by decide +kernel
theorem dX1_whenDead_13 : decode cX1_whenDead 13 = .ok (.iconst 3, 1) := by decide +kernel
theorem dX1_whenDead_14 : decode cX1_whenDead 14 = .ok (.if_icmp .ne 7, 3) := by decide +kernel
theorem dX1_whenDead_17 : decode cX1_whenDead 17 = .ok (.iconst 3, 1) := by decide +kernel
theorem dX1_whenDead_18 : decode cX1_whenDead 18 = .ok (.goto 4, 3) := by decide +kernel
theorem dX1_whenDead_21 : decode cX1_whenDead 21 = .ok (.iconst 1, 1) := by decide +kernel
theorem dX1_whenDead_22 : decode cX1_whenDead 22 = .ok (.ireturn, 1) := by decide +kernel
theorem dX1_worksLoose_0 : decode cX1_worksLoose 0 = .ok (.aload_n 0, 1) := by decide +kernel
theorem dX1_worksLoose_1 : decode cX1_worksLoose 1 = .ok (.getfield 9, 3) := by decide +kernel
theorem dX1_worksLoose_4 : decode cX1_worksLoose 4 = .ok (.lookupswitch 57 #[(2, 28), (3, 42)], 28) := by decide +kernel
theorem dX1_worksLoose_32 : decode cX1_worksLoose 32 = .ok (.iload_n 1, 1) := by decide +kernel
theorem dX1_worksLoose_33 : decode cX1_worksLoose 33 = .ok (.bipush 10, 2) := by decide +kernel
theorem dX1_worksLoose_35 : decode cX1_worksLoose 35 = .ok (.irem, 1) := by decide +kernel
theorem dX1_worksLoose_36 : decode cX1_worksLoose 36 = .ok (.iload_n 2, 1) := by decide +kernel
theorem dX1_worksLoose_37 : decode cX1_worksLoose 37 = .ok (.if_icmp .ne 7, 3) := by decide +kernel
theorem dX1_worksLoose_40 : decode cX1_worksLoose 40 = .ok (.iconst 1, 1) := by decide +kernel
theorem dX1_worksLoose_41 : decode cX1_worksLoose 41 = .ok (.goto 4, 3) := by decide +kernel
theorem dX1_worksLoose_44 : decode cX1_worksLoose 44 = .ok (.iconst 0, 1) := by decide +kernel
theorem dX1_worksLoose_45 : decode cX1_worksLoose 45 = .ok (.ireturn, 1) := by decide +kernel
theorem dX1_worksLoose_46 : decode cX1_worksLoose 46 = .ok (.iload_n 1, 1) := by decide +kernel
theorem dX1_worksLoose_47 : decode cX1_worksLoose 47 = .ok (.iconst 5, 1) := by decide +kernel
theorem dX1_worksLoose_48 : decode cX1_worksLoose 48 = .ok (.irem, 1) := by decide +kernel
theorem dX1_worksLoose_49 : decode cX1_worksLoose 49 = .ok (.iload_n 2, 1) := by decide +kernel
theorem dX1_worksLoose_50 : decode cX1_worksLoose 50 = .ok (.iconst 5, 1) := by decide +kernel
theorem dX1_worksLoose_51 : decode cX1_worksLoose 51 = .ok (.irem, 1) := by decide +kernel
theorem dX1_worksLoose_52 : decode cX1_worksLoose 52 = .ok (.if_icmp .ne 7, 3) := by decide +kernel
theorem dX1_worksLoose_55 : decode cX1_worksLoose 55 = .ok (.iconst 1, 1) := by decide +kernel
theorem dX1_worksLoose_56 : decode cX1_worksLoose 56 = .ok (.goto 4, 3) := by decide +kernel
theorem dX1_worksLoose_59 : decode cX1_worksLoose 59 = .ok (.iconst 0, 1) := by decide +kernel
theorem dX1_worksLoose_60 : decode cX1_worksLoose 60 = .ok (.ireturn, 1) := by decide +kernel
theorem dX1_worksLoose_61 : decode cX1_worksLoose 61 = .ok (.iconst 0, 1) := by decide +kernel
theorem dX1_worksLoose_62 : decode cX1_worksLoose 62 = .ok (.ireturn, 1) := by decide +kernel
theorem dX1_touchWith_0 : decode cX1_touchWith 0 = .ok (.aload_n 0, 1) := by decide +kernel
theorem dX1_touchWith_1 : decode cX1_touchWith 1 = .ok (.getfield 27, 3) := by decide +kernel
theorem dX1_touchWith_4 : decode cX1_touchWith 4 = .ok (.iconst 3, 1) := by decide +kernel
theorem dX1_touchWith_5 : decode cX1_touchWith 5 = .ok (.if_icmp .ne 11, 3) := by decide +kernel
theorem dX1_touchWith_8 : decode cX1_touchWith 8 = .ok (.aload_n 0, 1) := by decide +kernel
theorem dX1_touchWith_9 : decode cX1_touchWith 9 = .ok (.iconst 0, 1) := by decide +kernel
theorem dX1_touchWith_10 : decode cX1_touchWith 10 = .ok (.putfield 27, 3) := by decide +kernel
theorem dX1_touchWith_13 : decode cX1_touchWith 13 = .ok (.goto 27, 3) := by decide +kernel
theorem dX1_touchWith_16 : decode cX1_touchWith 16 = .ok (.aload_n 0, 1) := by decide +kernel
theorem dX1_touchWith_17 : decode cX1_touchWith 17 = .ok (.invokevirtual 30, 3) := by decide +kernel
theorem dX1_touchWith_20 : decode cX1_touchWith 20 = .ok (.ifCond .eq 20, 3) := by decide +kernel
theorem dX1_touchWith_23 : decode cX1_touchWith 23 = .ok (.aload_n 0, 1) := by decide +kernel
theorem dX1_touchWith_24 : decode cX1_touchWith 24 = .ok (.invokevirtual 41, 3) := by decide +kernel
theorem dX1_touchWith_27 : decode cX1_touchWith 27 = .ok (.ifCond .eq 13, 3) := by decide +kernel
theorem dX1_touchWith_30 : decode cX1_touchWith 30 = .ok (.iload_n 1, 1) := by decide +kernel
theorem dX1_touchWith_31 : decode cX1_touchWith 31 = .ok (.iconst 3, 1) := by decide +kernel
theorem dX1_touchWith_32 : decode cX1_touchWith 32 = .ok (.if_icmp .gt 8, 3) := by decide +kernel
theorem dX1_touchWith_35 : decode cX1_touchWith 35 = .ok (.aload_n 0, 1) := by decide +kernel
theorem dX1_touchWith_36 : decode cX1_touchWith 36 = .ok (.iconst 3, 1) := by decide +kernel
theorem dX1_touchWith_37 : decode cX1_touchWith 37 = .ok (.putfield 27, 3) := by decide +kernel
theorem dX1_touchWith_40 : decode cX1_touchWith 40 = .ok (.return_, 1) := by decide +kernel
theorem dX2_init_0 : decode cX2_init 0 = .ok (.aload_n 0, 1) := by decide +kernel
theorem dX2_init_1 : decode cX2_init 1 = .ok (.invokespecial 3, 3) := by decide +kernel
theorem dX2_init_4 : decode cX2_init 4 = .ok (.aload_n 0, 1) := by decide +kernel
theorem dX2_init_5 : decode cX2_init 5 = .ok (.bipush 64, 2) := by decide +kernel
theorem dX2_init_7 : decode cX2_init 7 = .ok (.newarray .char, 2) := by decide +kernel
theorem dX2_init_9 : decode cX2_init 9 = .ok (.putfield 9, 3) := by decide +kernel
theorem dX2_init_12 : decode cX2_init 12 = .ok (.return_, 1) := by decide +kernel
theorem dX2_add_0 : decode cX2_add 0 = .ok (.aload_n 0, 1) := by decide +kernel
theorem dX2_add_1 : decode cX2_add 1 = .ok (.getfield 15, 3) := by decide +kernel
theorem dX2_add_4 : decode cX2_add 4 = .ok (.bipush 64, 2) := by decide +kernel
theorem dX2_add_6 : decode cX2_add 6 = .ok (.if_icmp .ge 24, 3) := by decide +kernel
theorem dX2_add_9 : decode cX2_add 9 = .ok (.aload_n 0, 1) := by decide +kernel
theorem dX2_add_10 : decode cX2_add 10 = .ok (.getfield 9, 3) := by decide +kernel
theorem dX2_add_13 : decode cX2_add 13 = .ok (.aload_n 0, 1) := by decide +kernel
theorem dX2_add_14 : decode cX2_add 14 = .ok (.getfield 15, 3) := by decide +kernel
theorem dX2_add_17 : decode cX2_add 17 = .ok (.iload_n 1, 1) := by decide +kernel
theorem dX2_add_18 : decode cX2_add 18 = .ok (.i2c, 1) := by decide +kernel
theorem dX2_add_19 : decode cX2_add 19 = .ok (.castore, 1) := by decide +kernel
theorem dX2_add_20 : decode cX2_add 20 = .ok (.aload_n 0, 1) := by decide +kernel
theorem dX2_add_21 : decode cX2_add 21 = .ok (.dup, 1) := by decide +kernel
theorem dX2_add_22 : decode cX2_add 22 = .ok (.getfield 15, 3) := by decide +kernel
theorem dX2_add_25 : decode cX2_add 25 = .ok (.iconst 1, 1) := by decide +kernel
theorem dX2_add_26 : decode cX2_add 26 = .ok (.iadd, 1) := by decide +kernel
theorem dX2_add_27 : decode cX2_add 27 = .ok (.putfield 15, 3) := by decide +kernel
theorem dX2_add_30 : decode cX2_add 30 = .ok (.return_, 1) := by decide +kernel
theorem dX2_signAt_0 : decode cX2_signAt 0 = .ok (.iload_n 1, 1) := by decide +kernel
theorem dX2_signAt_1 : decode cX2_signAt 1 = .ok (.ifCond .lt 20, 3) := by decide +kernel
theorem dX2_signAt_4 : decode cX2_signAt 4 = .ok (.iload_n 1, 1) := by decide +kernel
theorem dX2_signAt_5 : decode cX2_signAt 5 = .ok (.aload_n 0, 1) := by decide +kernel
theorem dX2_signAt_6 : decode cX2_signAt 6 = .ok (.getfield 15, 3) := by decide +kernel
theorem dX2_signAt_9 : decode cX2_signAt 9 = .ok (.if_icmp .ge 12, 3) := by decide +kernel
theorem dX2_signAt_12 : decode cX2_signAt 12 = .ok (.aload_n 0, 1) := by decide +kernel
theorem dX2_signAt_13 : decode cX2_signAt 13 = .ok (.getfield 9, 3) := by decide +kernel
theorem dX2_signAt_16 : decode cX2_signAt 16 = .ok (.iload_n 1, 1) := by decide +kernel
theorem dX2_signAt_17 : decode cX2_signAt 17 = .ok (.caload, 1) := by decide +kernel
theorem dX2_signAt_18 : decode cX2_signAt 18 = .ok (.goto 4, 3) := by decide +kernel
theorem dX2_signAt_21 : decode cX2_signAt 21 = .ok (.iconst (-1), 1) := by decide +kernel
theorem dX2_signAt_22 : decode cX2_signAt 22 = .ok (.ireturn, 1) := by decide +kernel
theorem dX3_init_0 : decode cX3_init 0 = .ok (.aload_n 0, 1) := by decide +kernel
theorem dX3_init_1 : decode cX3_init 1 = .ok (.invokespecial 3, 3) := by decide +kernel
theorem dX3_init_4 : decode cX3_init 4 = .ok (.aload_n 0, 1) := by decide +kernel
theorem dX3_init_5 : decode cX3_init 5 = .ok (.bipush 6, 2) := by decide +kernel
theorem dX3_init_7 : decode cX3_init 7 = .ok (.newarray .int, 2) := by decide +kernel
theorem dX3_init_9 : decode cX3_init 9 = .ok (.putfield 9, 3) := by decide +kernel
theorem dX3_init_12 : decode cX3_init 12 = .ok (.aload_n 0, 1) := by decide +kernel
theorem dX3_init_13 : decode cX3_init 13 = .ok (.bipush 6, 2) := by decide +kernel
theorem dX3_init_15 : decode cX3_init 15 = .ok (.newarray .int, 2) := by decide +kernel
theorem dX3_init_17 : decode cX3_init 17 = .ok (.putfield 15, 3) := by decide +kernel
theorem dX3_init_20 : decode cX3_init 20 = .ok (.return_, 1) := by decide +kernel
theorem dX3_add_0 : decode cX3_add 0 = .ok (.aload_n 0, 1) := by decide +kernel
theorem dX3_add_1 : decode cX3_add 1 = .ok (.getfield 18, 3) := by decide +kernel
theorem dX3_add_4 : decode cX3_add 4 = .ok (.bipush 6, 2) := by decide +kernel
theorem dX3_add_6 : decode cX3_add 6 = .ok (.if_icmp .ge 33, 3) := by decide +kernel
theorem dX3_add_9 : decode cX3_add 9 = .ok (.aload_n 0, 1) := by decide +kernel
theorem dX3_add_10 : decode cX3_add 10 = .ok (.getfield 9, 3) := by decide +kernel
theorem dX3_add_13 : decode cX3_add 13 = .ok (.aload_n 0, 1) := by decide +kernel
theorem dX3_add_14 : decode cX3_add 14 = .ok (.getfield 18, 3) := by decide +kernel
theorem dX3_add_17 : decode cX3_add 17 = .ok (.iload_n 1, 1) := by decide +kernel
theorem dX3_add_18 : decode cX3_add 18 = .ok (.iastore, 1) := by decide +kernel
theorem dX3_add_19 : decode cX3_add 19 = .ok (.aload_n 0, 1) := by decide +kernel
theorem dX3_add_20 : decode cX3_add 20 = .ok (.getfield 15, 3) := by decide +kernel
theorem dX3_add_23 : decode cX3_add 23 = .ok (.aload_n 0, 1) := by decide +kernel
theorem dX3_add_24 : decode cX3_add 24 = .ok (.getfield 18, 3) := by decide +kernel
theorem dX3_add_27 : decode cX3_add 27 = .ok (.iload_n 2, 1) := by decide +kernel
theorem dX3_add_28 : decode cX3_add 28 = .ok (.iastore, 1) := by decide +kernel
theorem dX3_add_29 : decode cX3_add 29 = .ok (.aload_n 0, 1) := by decide +kernel
theorem dX3_add_30 : decode cX3_add 30 = .ok (.dup, 1) := by decide +kernel
theorem dX3_add_31 : decode cX3_add 31 = .ok (.getfield 18, 3) := by decide +kernel
theorem dX3_add_34 : decode cX3_add 34 = .ok (.iconst 1, 1) := by decide +kernel
theorem dX3_add_35 : decode cX3_add 35 = .ok (.iadd, 1) := by decide +kernel
theorem dX3_add_36 : decode cX3_add 36 = .ok (.putfield 18, 3) := by decide +kernel
theorem dX3_add_39 : decode cX3_add 39 = .ok (.return_, 1) := by decide +kernel
theorem dX3_leftAfter_0 : decode cX3_leftAfter 0 = .ok (.iconst 1, 1) := by decide +kernel
theorem dX3_leftAfter_1 : decode cX3_leftAfter 1 = .ok (.iload_n 2, 1) := by decide +kernel
theorem dX3_leftAfter_2 : decode cX3_leftAfter 2 = .ok (.ishl, 1) := by decide +kernel
theorem dX3_leftAfter_3 : decode cX3_leftAfter 3 = .ok (.iconst 1, 1) := by decide +kernel
theorem dX3_leftAfter_4 : decode cX3_leftAfter 4 = .ok (.isub, 1) := by decide +kernel
theorem dX3_leftAfter_5 : decode cX3_leftAfter 5 = .ok (.istore_n 3, 1) := by decide +kernel
theorem dX3_leftAfter_6 : decode cX3_leftAfter 6 = .ok (.iconst 0, 1) := by decide +kernel
theorem dX3_leftAfter_7 : decode cX3_leftAfter 7 = .ok (.istore 4, 2) := by decide +kernel
theorem dX3_leftAfter_9 : decode cX3_leftAfter 9 = .ok (.iload 4, 2) := by decide +kernel
theorem dX3_leftAfter_11 : decode cX3_leftAfter 11 = .ok (.iload_n 1, 1) := by decide +kernel
theorem dX3_leftAfter_12 : decode cX3_leftAfter 12 = .ok (.if_icmp .ge 54, 3) := by decide +kernel
theorem dX3_leftAfter_15 : decode cX3_leftAfter 15 = .ok (.iload 4, 2) := by decide +kernel
theorem dX3_leftAfter_17 : decode cX3_leftAfter 17 = .ok (.aload_n 0, 1) := by decide +kernel
theorem dX3_leftAfter_18 : decode cX3_leftAfter 18 = .ok (.getfield 18, 3) := by decide +kernel
theorem dX3_leftAfter_21 : decode cX3_leftAfter 21 = .ok (.if_icmp .ge 45, 3) := by decide +kernel
theorem dX3_leftAfter_24 : decode cX3_leftAfter 24 = .ok (.iconst 1, 1) := by decide +kernel
theorem dX3_leftAfter_25 : decode cX3_leftAfter 25 = .ok (.aload_n 0, 1) := by decide +kernel
theorem dX3_leftAfter_26 : decode cX3_leftAfter 26 = .ok (.getfield 9, 3) := by decide +kernel
theorem dX3_leftAfter_29 : decode cX3_leftAfter 29 = .ok (.iload 4, 2) := by decide +kernel
theorem dX3_leftAfter_31 : decode cX3_leftAfter 31 = .ok (.iaload, 1) := by decide +kernel
theorem dX3_leftAfter_32 : decode cX3_leftAfter 32 = .ok (.ishl, 1) := by decide +kernel
theorem dX3_leftAfter_33 : decode cX3_leftAfter 33 = .ok (.iconst 1, 1) := by decide +kernel
theorem dX3_leftAfter_34 : decode cX3_leftAfter 34 = .ok (.isub, 1) := by decide +kernel
theorem dX3_leftAfter_35 : decode cX3_leftAfter 35 = .ok (.istore 5, 2) := by decide +kernel
theorem dX3_leftAfter_37 : decode cX3_leftAfter 37 = .ok (.iload_n 3, 1) := by decide +kernel
theorem dX3_leftAfter_38 : decode cX3_leftAfter 38 = .ok (.aload_n 0, 1) := by decide +kernel
theorem dX3_leftAfter_39 : decode cX3_leftAfter 39 = .ok (.getfield 15, 3) := by decide +kernel
theorem dX3_leftAfter_42 : decode cX3_leftAfter 42 = .ok (.iload 4, 2) := by decide +kernel
theorem dX3_leftAfter_44 : decode cX3_leftAfter 44 = .ok (.iaload, 1) := by decide +kernel
theorem dX3_leftAfter_45 : decode cX3_leftAfter 45 = .ok (.iconst 1, 1) := by decide +kernel
theorem dX3_leftAfter_46 : decode cX3_leftAfter 46 = .ok (.if_icmp .ne 10, 3) := by decide +kernel
theorem dX3_leftAfter_49 : decode cX3_leftAfter 49 = .ok (.iload 5, 2) := by decide +kernel
theorem dX3_leftAfter_51 : decode cX3_leftAfter 51 = .ok (.iconst (-1), 1) := by decide +kernel
theorem dX3_leftAfter_52 : decode cX3_leftAfter 52 = .ok (.ixor, 1) := by decide +kernel
theorem dX3_leftAfter_53 : decode cX3_leftAfter 53 = .ok (.goto 5, 3) := by decide +kernel
theorem dX3_leftAfter_56 : decode cX3_leftAfter 56 = .ok (.iload 5, 2) := by decide +kernel
theorem dX3_leftAfter_58 : decode cX3_leftAfter 58 = .ok (.iand, 1) := by decide +kernel
theorem dX3_leftAfter_59 : decode cX3_leftAfter 59 = .ok (.istore_n 3, 1) := by decide +kernel
theorem dX3_leftAfter_60 : decode cX3_leftAfter 60 = .ok (.iinc 4 1, 3) := by decide +kernel
theorem dX3_leftAfter_63 : decode cX3_leftAfter 63 = .ok (.goto (-54), 3) := by decide +kernel
theorem dX3_leftAfter_66 : decode cX3_leftAfter 66 = .ok (.iload_n 3, 1) := by decide +kernel
theorem dX3_leftAfter_67 : decode cX3_leftAfter 67 = .ok (.ireturn, 1) := by decide +kernel
theorem dX3_firstThatLeavesNone_0 : decode cX3_firstThatLeavesNone 0 = .ok (.iconst 0, 1) := by decide +kernel
theorem dX3_firstThatLeavesNone_1 : decode cX3_firstThatLeavesNone 1 = .ok (.istore_n 2, 1) := by decide +kernel
theorem dX3_firstThatLeavesNone_2 : decode cX3_firstThatLeavesNone 2 = .ok (.iload_n 2, 1) := by decide +kernel
theorem dX3_firstThatLeavesNone_3 : decode cX3_firstThatLeavesNone 3 = .ok (.aload_n 0, 1) := by decide +kernel
theorem dX3_firstThatLeavesNone_4 : decode cX3_firstThatLeavesNone 4 = .ok (.getfield 18, 3) := by decide +kernel
theorem dX3_firstThatLeavesNone_7 : decode cX3_firstThatLeavesNone 7 = .ok (.if_icmp .ge 22, 3) := by decide +kernel
theorem dX3_firstThatLeavesNone_10 : decode cX3_firstThatLeavesNone 10 = .ok (.aload_n 0, 1) := by decide +kernel
theorem dX3_firstThatLeavesNone_11 : decode cX3_firstThatLeavesNone 11 = .ok (.iload_n 2, 1) := by decide +kernel
theorem dX3_firstThatLeavesNone_12 : decode cX3_firstThatLeavesNone 12 = .ok (.iconst 1, 1) := by decide +kernel
theorem dX3_firstThatLeavesNone_13 : decode cX3_firstThatLeavesNone 13 = .ok (.iadd, 1) := by decide +kernel
theorem dX3_firstThatLeavesNone_14 : decode cX3_firstThatLeavesNone 14 = .ok (.iload_n 1, 1) := by decide +kernel
theorem dX3_firstThatLeavesNone_15 : decode cX3_firstThatLeavesNone 15 = .ok (.invokevirtual 22, 3) := by decide +kernel
theorem dX3_firstThatLeavesNone_18 : decode cX3_firstThatLeavesNone 18 = .ok (.ifCond .ne 5, 3) := by decide +kernel
theorem dX3_firstThatLeavesNone_21 : decode cX3_firstThatLeavesNone 21 = .ok (.iload_n 2, 1) := by decide +kernel
theorem dX3_firstThatLeavesNone_22 : decode cX3_firstThatLeavesNone 22 = .ok (.ireturn, 1) := by decide +kernel
theorem dX3_firstThatLeavesNone_23 : decode cX3_firstThatLeavesNone 23 = .ok (.iinc 2 1, 3) := by decide +kernel
theorem dX3_firstThatLeavesNone_26 : decode cX3_firstThatLeavesNone 26 = .ok (.goto (-24), 3) := by decide +kernel
theorem dX3_firstThatLeavesNone_29 : decode cX3_firstThatLeavesNone 29 = .ok (.bipush (-9), 2) := by decide +kernel
theorem dX3_firstThatLeavesNone_31 : decode cX3_firstThatLeavesNone 31 = .ok (.ireturn, 1) := by decide +kernel
theorem dX4_init_0 : decode cX4_init 0 = .ok (.aload_n 0, 1) := by decide +kernel
theorem dX4_init_1 : decode cX4_init 1 = .ok (.invokespecial 3, 3) := by decide +kernel
theorem dX4_init_4 : decode cX4_init 4 = .ok (.aload_n 0, 1) := by decide +kernel
theorem dX4_init_5 : decode cX4_init 5 = .ok (.new 9, 3) := by decide +kernel
theorem dX4_init_8 : decode cX4_init 8 = .ok (.dup, 1) := by decide +kernel
theorem dX4_init_9 : decode cX4_init 9 = .ok (.invokespecial 11, 3) := by decide +kernel
theorem dX4_init_12 : decode cX4_init 12 = .ok (.putfield 12, 3) := by decide +kernel
theorem dX4_init_15 : decode cX4_init 15 = .ok (.return_, 1) := by decide +kernel
theorem dX4_startFrom_0 : decode cX4_startFrom 0 = .ok (.aload_n 0, 1) := by decide +kernel
theorem dX4_startFrom_1 : decode cX4_startFrom 1 = .ok (.getfield 12, 3) := by decide +kernel
theorem dX4_startFrom_4 : decode cX4_startFrom 4 = .ok (.aload_n 1, 1) := by decide +kernel
theorem dX4_startFrom_5 : decode cX4_startFrom 5 = .ok (.invokevirtual 18, 3) := by decide +kernel
theorem dX4_startFrom_8 : decode cX4_startFrom 8 = .ok (.aload_n 0, 1) := by decide +kernel
theorem dX4_startFrom_9 : decode cX4_startFrom 9 = .ok (.getfield 12, 3) := by decide +kernel
theorem dX4_startFrom_12 : decode cX4_startFrom 12 = .ok (.areturn, 1) := by decide +kernel
theorem dX4_hoursTillDark_0 : decode cX4_hoursTillDark 0 = .ok (.aload_n 0, 1) := by decide +kernel
theorem dX4_hoursTillDark_1 : decode cX4_hoursTillDark 1 = .ok (.aload_n 1, 1) := by decide +kernel
theorem dX4_hoursTillDark_2 : decode cX4_hoursTillDark 2 = .ok (.invokevirtual 22, 3) := by decide +kernel
theorem dX4_hoursTillDark_5 : decode cX4_hoursTillDark 5 = .ok (.pop, 1) := by decide +kernel
theorem dX4_hoursTillDark_6 : decode cX4_hoursTillDark 6 = .ok (.iconst 0, 1) := by decide +kernel
theorem dX4_hoursTillDark_7 : decode cX4_hoursTillDark 7 = .ok (.istore_n 2, 1) := by decide +kernel
theorem dX4_hoursTillDark_8 : decode cX4_hoursTillDark 8 = .ok (.iload_n 2, 1) := by decide +kernel
theorem dX4_hoursTillDark_9 : decode cX4_hoursTillDark 9 = .ok (.sipush 400, 3) := by decide +kernel
theorem dX4_hoursTillDark_12 : decode cX4_hoursTillDark 12 = .ok (.if_icmp .gt 29, 3) := by decide +kernel
theorem dX4_hoursTillDark_15 : decode cX4_hoursTillDark 15 = .ok (.aload_n 0, 1) := by decide +kernel
theorem dX4_hoursTillDark_16 : decode cX4_hoursTillDark 16 = .ok (.getfield 12, 3) := by decide +kernel
theorem dX4_hoursTillDark_19 : decode cX4_hoursTillDark 19 = .ok (.invokevirtual 26, 3) := by decide +kernel
theorem dX4_hoursTillDark_22 : decode cX4_hoursTillDark 22 = .ok (.ifCond .ne 5, 3) := by decide +kernel
theorem dX4_hoursTillDark_25 : decode cX4_hoursTillDark 25 = .ok (.iload_n 2, 1) := by decide +kernel
theorem dX4_hoursTillDark_26 : decode cX4_hoursTillDark 26 = .ok (.ireturn, 1) := by decide +kernel
theorem dX4_hoursTillDark_27 : decode cX4_hoursTillDark 27 = .ok (.aload_n 0, 1) := by decide +kernel
theorem dX4_hoursTillDark_28 : decode cX4_hoursTillDark 28 = .ok (.getfield 12, 3) := by decide +kernel
theorem dX4_hoursTillDark_31 : decode cX4_hoursTillDark 31 = .ok (.invokevirtual 30, 3) := by decide +kernel
theorem dX4_hoursTillDark_34 : decode cX4_hoursTillDark 34 = .ok (.pop, 1) := by decide +kernel
theorem dX4_hoursTillDark_35 : decode cX4_hoursTillDark 35 = .ok (.iinc 2 1, 3) := by decide +kernel
theorem dX4_hoursTillDark_38 : decode cX4_hoursTillDark 38 = .ok (.goto (-30), 3) := by decide +kernel
theorem dX4_hoursTillDark_41 : decode cX4_hoursTillDark 41 = .ok (.bipush (-9), 2) := by decide +kernel
theorem dX4_hoursTillDark_43 : decode cX4_hoursTillDark 43 = .ok (.ireturn, 1) := by decide +kernel
theorem dX4_firstToGo_0 : decode cX4_firstToGo 0 = .ok (.aload_n 0, 1) := by decide +kernel
theorem dX4_firstToGo_1 : decode cX4_firstToGo 1 = .ok (.aload_n 1, 1) := by decide +kernel
theorem dX4_firstToGo_2 : decode cX4_firstToGo 2 = .ok (.invokevirtual 22, 3) := by decide +kernel
theorem dX4_firstToGo_5 : decode cX4_firstToGo 5 = .ok (.pop, 1) := by decide +kernel
theorem dX4_firstToGo_6 : decode cX4_firstToGo 6 = .ok (.iconst 1, 1) := by decide +kernel
theorem dX4_firstToGo_7 : decode cX4_firstToGo 7 = .ok (.istore_n 3, 1) := by decide +kernel
theorem dX4_firstToGo_8 : decode cX4_firstToGo 8 = .ok (.iload_n 3, 1) := by decide +kernel
theorem dX4_firstToGo_9 : decode cX4_firstToGo 9 = .ok (.sipush 400, 3) := by decide +kernel
theorem dX4_firstToGo_12 : decode cX4_firstToGo 12 = .ok (.if_icmp .gt 40, 3) := by decide +kernel
theorem dX4_firstToGo_15 : decode cX4_firstToGo 15 = .ok (.aload_n 0, 1) := by decide +kernel
theorem dX4_firstToGo_16 : decode cX4_firstToGo 16 = .ok (.getfield 12, 3) := by decide +kernel
theorem dX4_firstToGo_19 : decode cX4_firstToGo 19 = .ok (.invokevirtual 30, 3) := by decide +kernel
theorem dX4_firstToGo_22 : decode cX4_firstToGo 22 = .ok (.pop, 1) := by decide +kernel
theorem dX4_firstToGo_23 : decode cX4_firstToGo 23 = .ok (.aload_n 0, 1) := by decide +kernel
theorem dX4_firstToGo_24 : decode cX4_firstToGo 24 = .ok (.aload_n 1, 1) := by decide +kernel
theorem dX4_firstToGo_25 : decode cX4_firstToGo 25 = .ok (.invokevirtual 34, 3) := by decide +kernel
theorem dX4_firstToGo_28 : decode cX4_firstToGo 28 = .ok (.istore 4, 2) := by decide +kernel
theorem dX4_firstToGo_30 : decode cX4_firstToGo 30 = .ok (.iload 4, 2) := by decide +kernel
theorem dX4_firstToGo_32 : decode cX4_firstToGo 32 = .ok (.ifCond .lt 14, 3) := by decide +kernel
theorem dX4_firstToGo_35 : decode cX4_firstToGo 35 = .ok (.iload_n 2, 1) := by decide +kernel
theorem dX4_firstToGo_36 : decode cX4_firstToGo 36 = .ok (.ifCond .eq 8, 3) := by decide +kernel
theorem dX4_firstToGo_39 : decode cX4_firstToGo 39 = .ok (.iload 4, 2) := by decide +kernel
theorem dX4_firstToGo_41 : decode cX4_firstToGo 41 = .ok (.goto 4, 3) := by decide +kernel
theorem dX4_firstToGo_44 : decode cX4_firstToGo 44 = .ok (.iload_n 3, 1) := by decide +kernel
theorem dX4_firstToGo_45 : decode cX4_firstToGo 45 = .ok (.ireturn, 1) := by decide +kernel
theorem dX4_firstToGo_46 : decode cX4_firstToGo 46 = .ok (.iinc 3 1, 3) := by decide +kernel
theorem dX4_firstToGo_49 : decode cX4_firstToGo 49 = .ok (.goto (-41), 3) := by decide +kernel
theorem dX4_firstToGo_52 : decode cX4_firstToGo 52 = .ok (.bipush (-9), 2) := by decide +kernel
theorem dX4_firstToGo_54 : decode cX4_firstToGo 54 = .ok (.ireturn, 1) := by decide +kernel
theorem dX4_firstGone_0 : decode cX4_firstGone 0 = .ok (.iconst 0, 1) := by decide +kernel
theorem dX4_firstGone_1 : decode cX4_firstGone 1 = .ok (.istore_n 2, 1) := by decide +kernel
theorem dX4_firstGone_2 : decode cX4_firstGone 2 = .ok (.iload_n 2, 1) := by decide +kernel
theorem dX4_firstGone_3 : decode cX4_firstGone 3 = .ok (.aload_n 0, 1) := by decide +kernel
theorem dX4_firstGone_4 : decode cX4_firstGone 4 = .ok (.getfield 12, 3) := by decide +kernel
theorem dX4_firstGone_7 : decode cX4_firstGone 7 = .ok (.getfield 38, 3) := by decide +kernel
theorem dX4_firstGone_10 : decode cX4_firstGone 10 = .ok (.if_icmp .ge 38, 3) := by decide +kernel
theorem dX4_firstGone_13 : decode cX4_firstGone 13 = .ok (.aload_n 1, 1) := by decide +kernel
theorem dX4_firstGone_14 : decode cX4_firstGone 14 = .ok (.getfield 42, 3) := by decide +kernel
theorem dX4_firstGone_17 : decode cX4_firstGone 17 = .ok (.iload_n 2, 1) := by decide +kernel
theorem dX4_firstGone_18 : decode cX4_firstGone 18 = .ok (.aaload, 1) := by decide +kernel
theorem dX4_firstGone_19 : decode cX4_firstGone 19 = .ok (.invokevirtual 46, 3) := by decide +kernel
theorem dX4_firstGone_22 : decode cX4_firstGone 22 = .ok (.ifCond .eq 20, 3) := by decide +kernel
theorem dX4_firstGone_25 : decode cX4_firstGone 25 = .ok (.aload_n 0, 1) := by decide +kernel
theorem dX4_firstGone_26 : decode cX4_firstGone 26 = .ok (.getfield 12, 3) := by decide +kernel
theorem dX4_firstGone_29 : decode cX4_firstGone 29 = .ok (.getfield 42, 3) := by decide +kernel
theorem dX4_firstGone_32 : decode cX4_firstGone 32 = .ok (.iload_n 2, 1) := by decide +kernel
theorem dX4_firstGone_33 : decode cX4_firstGone 33 = .ok (.aaload, 1) := by decide +kernel
theorem dX4_firstGone_34 : decode cX4_firstGone 34 = .ok (.invokevirtual 46, 3) := by decide +kernel
theorem dX4_firstGone_37 : decode cX4_firstGone 37 = .ok (.ifCond .ne 5, 3) := by decide +kernel
theorem dX4_firstGone_40 : decode cX4_firstGone 40 = .ok (.iload_n 2, 1) := by decide +kernel
theorem dX4_firstGone_41 : decode cX4_firstGone 41 = .ok (.ireturn, 1) := by decide +kernel
theorem dX4_firstGone_42 : decode cX4_firstGone 42 = .ok (.iinc 2 1, 3) := by decide +kernel
theorem dX4_firstGone_45 : decode cX4_firstGone 45 = .ok (.goto (-43), 3) := by decide +kernel
theorem dX4_firstGone_48 : decode cX4_firstGone 48 = .ok (.bipush (-9), 2) := by decide +kernel
theorem dX4_firstGone_50 : decode cX4_firstGone 50 = .ok (.ireturn, 1) := by decide +kernel
theorem dX4_hoursTillBridged_0 : decode cX4_hoursTillBridged 0 = .ok (.aload_n 0, 1) := by decide +kernel
theorem dX4_hoursTillBridged_1 : decode cX4_hoursTillBridged 1 = .ok (.aload_n 1, 1) := by decide +kernel
theorem dX4_hoursTillBridged_2 : decode cX4_hoursTillBridged 2 = .ok (.invokevirtual 22, 3) := by decide +kernel
theorem dX4_hoursTillBridged_5 : decode cX4_hoursTillBridged 5 = .ok (.pop, 1) := by decide +kernel
theorem dX4_hoursTillBridged_6 : decode cX4_hoursTillBridged 6 = .ok (.iconst 0, 1) := by decide +kernel
theorem dX4_hoursTillBridged_7 : decode cX4_hoursTillBridged 7 = .ok (.istore_n 3, 1) := by decide +kernel
theorem dX4_hoursTillBridged_8 : decode cX4_hoursTillBridged 8 = .ok (.iload_n 3, 1) := by decide +kernel
theorem dX4_hoursTillBridged_9 : decode cX4_hoursTillBridged 9 = .ok (.sipush 400, 3) := by decide +kernel
theorem dX4_hoursTillBridged_12 : decode cX4_hoursTillBridged 12 = .ok (.if_icmp .gt 31, 3) := by decide +kernel
theorem dX4_hoursTillBridged_15 : decode cX4_hoursTillBridged 15 = .ok (.aload_n 0, 1) := by decide +kernel
theorem dX4_hoursTillBridged_16 : decode cX4_hoursTillBridged 16 = .ok (.getfield 12, 3) := by decide +kernel
theorem dX4_hoursTillBridged_19 : decode cX4_hoursTillBridged 19 = .ok (.iconst 2, 1) := by decide +kernel
theorem dX4_hoursTillBridged_20 : decode cX4_hoursTillBridged 20 = .ok (.invokevirtual 51, 3) := by decide +kernel
theorem dX4_hoursTillBridged_23 : decode cX4_hoursTillBridged 23 = .ok (.iload_n 2, 1) := by decide +kernel
theorem dX4_hoursTillBridged_24 : decode cX4_hoursTillBridged 24 = .ok (.if_icmp .lt 5, 3) := by decide +kernel
theorem dX4_hoursTillBridged_27 : decode cX4_hoursTillBridged 27 = .ok (.iload_n 3, 1) := by decide +kernel
theorem dX4_hoursTillBridged_28 : decode cX4_hoursTillBridged 28 = .ok (.ireturn, 1) := by decide +kernel
theorem dX4_hoursTillBridged_29 : decode cX4_hoursTillBridged 29 = .ok (.aload_n 0, 1) := by decide +kernel
theorem dX4_hoursTillBridged_30 : decode cX4_hoursTillBridged 30 = .ok (.getfield 12, 3) := by decide +kernel
theorem dX4_hoursTillBridged_33 : decode cX4_hoursTillBridged 33 = .ok (.invokevirtual 30, 3) := by decide +kernel
theorem dX4_hoursTillBridged_36 : decode cX4_hoursTillBridged 36 = .ok (.pop, 1) := by decide +kernel
theorem dX4_hoursTillBridged_37 : decode cX4_hoursTillBridged 37 = .ok (.iinc 3 1, 3) := by decide +kernel
theorem dX4_hoursTillBridged_40 : decode cX4_hoursTillBridged 40 = .ok (.goto (-32), 3) := by decide +kernel
theorem dX4_hoursTillBridged_43 : decode cX4_hoursTillBridged 43 = .ok (.bipush (-9), 2) := by decide +kernel
theorem dX4_hoursTillBridged_45 : decode cX4_hoursTillBridged 45 = .ok (.ireturn, 1) := by decide +kernel
theorem dX4_lightOf_0 : decode cX4_lightOf 0 = .ok (.aload_n 0, 1) := by decide +kernel
theorem dX4_lightOf_1 : decode cX4_lightOf 1 = .ok (.aload_n 1, 1) := by decide +kernel
theorem dX4_lightOf_2 : decode cX4_lightOf 2 = .ok (.invokevirtual 22, 3) := by decide +kernel
theorem dX4_lightOf_5 : decode cX4_lightOf 5 = .ok (.pop, 1) := by decide +kernel
theorem dX4_lightOf_6 : decode cX4_lightOf 6 = .ok (.iconst 0, 1) := by decide +kernel
theorem dX4_lightOf_7 : decode cX4_lightOf 7 = .ok (.istore_n 3, 1) := by decide +kernel
theorem dX4_lightOf_8 : decode cX4_lightOf 8 = .ok (.iconst 0, 1) := by decide +kernel
theorem dX4_lightOf_9 : decode cX4_lightOf 9 = .ok (.istore 4, 2) := by decide +kernel
theorem dX4_lightOf_11 : decode cX4_lightOf 11 = .ok (.iload 4, 2) := by decide +kernel
theorem dX4_lightOf_13 : decode cX4_lightOf 13 = .ok (.iload_n 2, 1) := by decide +kernel
theorem dX4_lightOf_14 : decode cX4_lightOf 14 = .ok (.if_icmp .ge 27, 3) := by decide +kernel
theorem dX4_lightOf_17 : decode cX4_lightOf 17 = .ok (.iload_n 3, 1) := by decide +kernel
theorem dX4_lightOf_18 : decode cX4_lightOf 18 = .ok (.aload_n 0, 1) := by decide +kernel
theorem dX4_lightOf_19 : decode cX4_lightOf 19 = .ok (.getfield 12, 3) := by decide +kernel
theorem dX4_lightOf_22 : decode cX4_lightOf 22 = .ok (.invokevirtual 55, 3) := by decide +kernel
theorem dX4_lightOf_25 : decode cX4_lightOf 25 = .ok (.iadd, 1) := by decide +kernel
theorem dX4_lightOf_26 : decode cX4_lightOf 26 = .ok (.istore_n 3, 1) := by decide +kernel
theorem dX4_lightOf_27 : decode cX4_lightOf 27 = .ok (.aload_n 0, 1) := by decide +kernel
theorem dX4_lightOf_28 : decode cX4_lightOf 28 = .ok (.getfield 12, 3) := by decide +kernel
theorem dX4_lightOf_31 : decode cX4_lightOf 31 = .ok (.invokevirtual 30, 3) := by decide +kernel
theorem dX4_lightOf_34 : decode cX4_lightOf 34 = .ok (.pop, 1) := by decide +kernel
theorem dX4_lightOf_35 : decode cX4_lightOf 35 = .ok (.iinc 4 1, 3) := by decide +kernel
theorem dX4_lightOf_38 : decode cX4_lightOf 38 = .ok (.goto (-27), 3) := by decide +kernel
theorem dX4_lightOf_41 : decode cX4_lightOf 41 = .ok (.iload_n 3, 1) := by decide +kernel
theorem dX4_lightOf_42 : decode cX4_lightOf 42 = .ok (.ireturn, 1) := by decide +kernel
theorem dX4_sparesTaken_0 : decode cX4_sparesTaken 0 = .ok (.aload_n 0, 1) := by decide +kernel
theorem dX4_sparesTaken_1 : decode cX4_sparesTaken 1 = .ok (.aload_n 1, 1) := by decide +kernel
theorem dX4_sparesTaken_2 : decode cX4_sparesTaken 2 = .ok (.invokevirtual 22, 3) := by decide +kernel
theorem dX4_sparesTaken_5 : decode cX4_sparesTaken 5 = .ok (.pop, 1) := by decide +kernel
theorem dX4_sparesTaken_6 : decode cX4_sparesTaken 6 = .ok (.iconst 0, 1) := by decide +kernel
theorem dX4_sparesTaken_7 : decode cX4_sparesTaken 7 = .ok (.istore_n 3, 1) := by decide +kernel
theorem dX4_sparesTaken_8 : decode cX4_sparesTaken 8 = .ok (.iconst 0, 1) := by decide +kernel
theorem dX4_sparesTaken_9 : decode cX4_sparesTaken 9 = .ok (.istore 4, 2) := by decide +kernel
theorem dX4_sparesTaken_11 : decode cX4_sparesTaken 11 = .ok (.iload 4, 2) := by decide +kernel
theorem dX4_sparesTaken_13 : decode cX4_sparesTaken 13 = .ok (.iload_n 2, 1) := by decide +kernel
theorem dX4_sparesTaken_14 : decode cX4_sparesTaken 14 = .ok (.if_icmp .ge 27, 3) := by decide +kernel
theorem dX4_sparesTaken_17 : decode cX4_sparesTaken 17 = .ok (.iload_n 3, 1) := by decide +kernel
theorem dX4_sparesTaken_18 : decode cX4_sparesTaken 18 = .ok (.aload_n 0, 1) := by decide +kernel
theorem dX4_sparesTaken_19 : decode cX4_sparesTaken 19 = .ok (.getfield 12, 3) := by decide +kernel
theorem dX4_sparesTaken_22 : decode cX4_sparesTaken 22 = .ok (.invokevirtual 58, 3) := by decide +kernel
theorem dX4_sparesTaken_25 : decode cX4_sparesTaken 25 = .ok (.iadd, 1) := by decide +kernel
theorem dX4_sparesTaken_26 : decode cX4_sparesTaken 26 = .ok (.istore_n 3, 1) := by decide +kernel
theorem dX4_sparesTaken_27 : decode cX4_sparesTaken 27 = .ok (.aload_n 0, 1) := by decide +kernel
theorem dX4_sparesTaken_28 : decode cX4_sparesTaken 28 = .ok (.getfield 12, 3) := by decide +kernel
theorem dX4_sparesTaken_31 : decode cX4_sparesTaken 31 = .ok (.invokevirtual 30, 3) := by decide +kernel
theorem dX4_sparesTaken_34 : decode cX4_sparesTaken 34 = .ok (.pop, 1) := by decide +kernel
theorem dX4_sparesTaken_35 : decode cX4_sparesTaken 35 = .ok (.iinc 4 1, 3) := by decide +kernel
theorem dX4_sparesTaken_38 : decode cX4_sparesTaken 38 = .ok (.goto (-27), 3) := by decide +kernel
theorem dX4_sparesTaken_41 : decode cX4_sparesTaken 41 = .ok (.iload_n 3, 1) := by decide +kernel
theorem dX4_sparesTaken_42 : decode cX4_sparesTaken 42 = .ok (.ireturn, 1) := by decide +kernel
theorem dX4_greatestAnew_0 : decode cX4_greatestAnew 0 = .ok (.bipush 50, 2) := by decide +kernel
theorem dX4_greatestAnew_2 : decode cX4_greatestAnew 2 = .ok (.istore_n 2, 1) := by decide +kernel
theorem dX4_greatestAnew_3 : decode cX4_greatestAnew 3 = .ok (.iload_n 2, 1) := by decide +kernel
theorem dX4_greatestAnew_4 : decode cX4_greatestAnew 4 = .ok (.iconst 1, 1) := by decide +kernel
theorem dX4_greatestAnew_5 : decode cX4_greatestAnew 5 = .ok (.if_icmp .lt 25, 3) := by decide +kernel
theorem dX4_greatestAnew_8 : decode cX4_greatestAnew 8 = .ok (.aload_n 0, 1) := by decide +kernel
theorem dX4_greatestAnew_9 : decode cX4_greatestAnew 9 = .ok (.aload_n 1, 1) := by decide +kernel
theorem dX4_greatestAnew_10 : decode cX4_greatestAnew 10 = .ok (.invokevirtual 22, 3) := by decide +kernel
theorem dX4_greatestAnew_13 : decode cX4_greatestAnew 13 = .ok (.pop, 1) := by decide +kernel
theorem dX4_greatestAnew_14 : decode cX4_greatestAnew 14 = .ok (.aload_n 0, 1) := by decide +kernel
theorem dX4_greatestAnew_15 : decode cX4_greatestAnew 15 = .ok (.iload_n 2, 1) := by decide +kernel
theorem dX4_greatestAnew_16 : decode cX4_greatestAnew 16 = .ok (.invokevirtual 61, 3) := by decide +kernel
theorem dX4_greatestAnew_19 : decode cX4_greatestAnew 19 = .ok (.ifCond .eq 5, 3) := by decide +kernel
theorem dX4_greatestAnew_22 : decode cX4_greatestAnew 22 = .ok (.iload_n 2, 1) := by decide +kernel
theorem dX4_greatestAnew_23 : decode cX4_greatestAnew 23 = .ok (.ireturn, 1) := by decide +kernel
theorem dX4_greatestAnew_24 : decode cX4_greatestAnew 24 = .ok (.iinc 2 (-1), 3) := by decide +kernel
theorem dX4_greatestAnew_27 : decode cX4_greatestAnew 27 = .ok (.goto (-24), 3) := by decide +kernel
theorem dX4_greatestAnew_30 : decode cX4_greatestAnew 30 = .ok (.bipush (-9), 2) := by decide +kernel
theorem dX4_greatestAnew_32 : decode cX4_greatestAnew 32 = .ok (.ireturn, 1) := by decide +kernel
theorem dX4_staysLive_0 : decode cX4_staysLive 0 = .ok (.iconst 0, 1) := by decide +kernel
theorem dX4_staysLive_1 : decode cX4_staysLive 1 = .ok (.istore_n 2, 1) := by decide +kernel
theorem dX4_staysLive_2 : decode cX4_staysLive 2 = .ok (.iconst 0, 1) := by decide +kernel
theorem dX4_staysLive_3 : decode cX4_staysLive 3 = .ok (.istore_n 3, 1) := by decide +kernel
theorem dX4_staysLive_4 : decode cX4_staysLive 4 = .ok (.iload_n 3, 1) := by decide +kernel
theorem dX4_staysLive_5 : decode cX4_staysLive 5 = .ok (.bipush 60, 2) := by decide +kernel
theorem dX4_staysLive_7 : decode cX4_staysLive 7 = .ok (.if_icmp .ge 45, 3) := by decide +kernel
theorem dX4_staysLive_10 : decode cX4_staysLive 10 = .ok (.iload_n 2, 1) := by decide +kernel
theorem dX4_staysLive_11 : decode cX4_staysLive 11 = .ok (.ifCond .ne 12, 3) := by decide +kernel
theorem dX4_staysLive_14 : decode cX4_staysLive 14 = .ok (.aload_n 0, 1) := by decide +kernel
theorem dX4_staysLive_15 : decode cX4_staysLive 15 = .ok (.getfield 12, 3) := by decide +kernel
theorem dX4_staysLive_18 : decode cX4_staysLive 18 = .ok (.invokevirtual 65, 3) := by decide +kernel
theorem dX4_staysLive_21 : decode cX4_staysLive 21 = .ok (.iload_n 1, 1) := by decide +kernel
theorem dX4_staysLive_22 : decode cX4_staysLive 22 = .ok (.istore_n 2, 1) := by decide +kernel
theorem dX4_staysLive_23 : decode cX4_staysLive 23 = .ok (.aload_n 0, 1) := by decide +kernel
theorem dX4_staysLive_24 : decode cX4_staysLive 24 = .ok (.getfield 12, 3) := by decide +kernel
theorem dX4_staysLive_27 : decode cX4_staysLive 27 = .ok (.invokevirtual 26, 3) := by decide +kernel
theorem dX4_staysLive_30 : decode cX4_staysLive 30 = .ok (.ifCond .ne 5, 3) := by decide +kernel
theorem dX4_staysLive_33 : decode cX4_staysLive 33 = .ok (.iconst 0, 1) := by decide +kernel
theorem dX4_staysLive_34 : decode cX4_staysLive 34 = .ok (.ireturn, 1) := by decide +kernel
theorem dX4_staysLive_35 : decode cX4_staysLive 35 = .ok (.aload_n 0, 1) := by decide +kernel
theorem dX4_staysLive_36 : decode cX4_staysLive 36 = .ok (.getfield 12, 3) := by decide +kernel
theorem dX4_staysLive_39 : decode cX4_staysLive 39 = .ok (.invokevirtual 30, 3) := by decide +kernel
theorem dX4_staysLive_42 : decode cX4_staysLive 42 = .ok (.pop, 1) := by decide +kernel
theorem dX4_staysLive_43 : decode cX4_staysLive 43 = .ok (.iinc 2 (-1), 3) := by decide +kernel
theorem dX4_staysLive_46 : decode cX4_staysLive 46 = .ok (.iinc 3 1, 3) := by decide +kernel
theorem dX4_staysLive_49 : decode cX4_staysLive 49 = .ok (.goto (-45), 3) := by decide +kernel
theorem dX4_staysLive_52 : decode cX4_staysLive 52 = .ok (.iconst 1, 1) := by decide +kernel
theorem dX4_staysLive_53 : decode cX4_staysLive 53 = .ok (.ireturn, 1) := by decide +kernel
theorem dX4_wellAfterTouches_0 : decode cX4_wellAfterTouches 0 = .ok (.aload_n 0, 1) := by decide +kernel
theorem dX4_wellAfterTouches_1 : decode cX4_wellAfterTouches 1 = .ok (.aload_n 1, 1) := by decide +kernel
theorem dX4_wellAfterTouches_2 : decode cX4_wellAfterTouches 2 = .ok (.invokevirtual 22, 3) := by decide +kernel
theorem dX4_wellAfterTouches_5 : decode cX4_wellAfterTouches 5 = .ok (.pop, 1) := by decide +kernel
theorem dX4_wellAfterTouches_6 : decode cX4_wellAfterTouches 6 = .ok (.iload_n 3, 1) := by decide +kernel
theorem dX4_wellAfterTouches_7 : decode cX4_wellAfterTouches 7 = .ok (.istore 4, 2) := by decide +kernel
theorem dX4_wellAfterTouches_9 : decode cX4_wellAfterTouches 9 = .ok (.iconst 0, 1) := by decide +kernel
theorem dX4_wellAfterTouches_10 : decode cX4_wellAfterTouches 10 = .ok (.istore 5, 2) := by decide +kernel
theorem dX4_wellAfterTouches_12 : decode cX4_wellAfterTouches 12 = .ok (.iload 5, 2) := by decide +kernel
theorem dX4_wellAfterTouches_14 : decode cX4_wellAfterTouches 14 = .ok (.iload_n 2, 1) := by decide +kernel
theorem dX4_wellAfterTouches_15 : decode cX4_wellAfterTouches 15 = .ok (.if_icmp .ge 47, 3) := by decide +kernel
theorem dX4_wellAfterTouches_18 : decode cX4_wellAfterTouches 18 = .ok (.iload 4, 2) := by decide +kernel
theorem dX4_wellAfterTouches_20 : decode cX4_wellAfterTouches 20 = .ok (.ldc 68, 2) := by decide +kernel
theorem dX4_wellAfterTouches_22 : decode cX4_wellAfterTouches 22 = .ok (.imul, 1) := by decide +kernel
theorem dX4_wellAfterTouches_23 : decode cX4_wellAfterTouches 23 = .ok (.sipush 12345, 3) := by decide +kernel
theorem dX4_wellAfterTouches_26 : decode cX4_wellAfterTouches 26 = .ok (.iadd, 1) := by decide +kernel
theorem dX4_wellAfterTouches_27 : decode cX4_wellAfterTouches 27 = .ok (.istore 4, 2) := by decide +kernel
theorem dX4_wellAfterTouches_29 : decode cX4_wellAfterTouches 29 = .ok (.aload_n 0, 1) := by decide +kernel
theorem dX4_wellAfterTouches_30 : decode cX4_wellAfterTouches 30 = .ok (.getfield 12, 3) := by decide +kernel
theorem dX4_wellAfterTouches_33 : decode cX4_wellAfterTouches 33 = .ok (.iload 4, 2) := by decide +kernel
theorem dX4_wellAfterTouches_35 : decode cX4_wellAfterTouches 35 = .ok (.aload_n 0, 1) := by decide +kernel
theorem dX4_wellAfterTouches_36 : decode cX4_wellAfterTouches 36 = .ok (.getfield 12, 3) := by decide +kernel
theorem dX4_wellAfterTouches_39 : decode cX4_wellAfterTouches 39 = .ok (.getfield 38, 3) := by decide +kernel
theorem dX4_wellAfterTouches_42 : decode cX4_wellAfterTouches 42 = .ok (.invokestatic 69, 3) := by decide +kernel
theorem dX4_wellAfterTouches_45 : decode cX4_wellAfterTouches 45 = .ok (.invokevirtual 73, 3) := by decide +kernel
theorem dX4_wellAfterTouches_48 : decode cX4_wellAfterTouches 48 = .ok (.aload_n 0, 1) := by decide +kernel
theorem dX4_wellAfterTouches_49 : decode cX4_wellAfterTouches 49 = .ok (.getfield 12, 3) := by decide +kernel
theorem dX4_wellAfterTouches_52 : decode cX4_wellAfterTouches 52 = .ok (.invokevirtual 30, 3) := by decide +kernel
theorem dX4_wellAfterTouches_55 : decode cX4_wellAfterTouches 55 = .ok (.pop, 1) := by decide +kernel
theorem dX4_wellAfterTouches_56 : decode cX4_wellAfterTouches 56 = .ok (.iinc 5 1, 3) := by decide +kernel
theorem dX4_wellAfterTouches_59 : decode cX4_wellAfterTouches 59 = .ok (.goto (-47), 3) := by decide +kernel
theorem dX4_wellAfterTouches_62 : decode cX4_wellAfterTouches 62 = .ok (.aload_n 0, 1) := by decide +kernel
theorem dX4_wellAfterTouches_63 : decode cX4_wellAfterTouches 63 = .ok (.getfield 12, 3) := by decide +kernel
theorem dX4_wellAfterTouches_66 : decode cX4_wellAfterTouches 66 = .ok (.iconst 0, 1) := by decide +kernel
theorem dX4_wellAfterTouches_67 : decode cX4_wellAfterTouches 67 = .ok (.invokevirtual 51, 3) := by decide +kernel
theorem dX4_wellAfterTouches_70 : decode cX4_wellAfterTouches 70 = .ok (.ireturn, 1) := by decide +kernel
theorem dX4_drawBelow_0 : decode cX4_drawBelow 0 = .ok (.iload_n 1, 1) := by decide +kernel
theorem dX4_drawBelow_1 : decode cX4_drawBelow 1 = .ok (.ifCond .gt 7, 3) := by decide +kernel
theorem dX4_drawBelow_4 : decode cX4_drawBelow 4 = .ok (.iconst 0, 1) := by decide +kernel
theorem dX4_drawBelow_5 : decode cX4_drawBelow 5 = .ok (.goto 12, 3) := by decide +kernel
theorem dX4_drawBelow_8 : decode cX4_drawBelow 8 = .ok (.iload_n 0, 1) := by decide +kernel
theorem dX4_drawBelow_9 : decode cX4_drawBelow 9 = .ok (.ldc 77, 2) := by decide +kernel
theorem dX4_drawBelow_11 : decode cX4_drawBelow 11 = .ok (.iand, 1) := by decide +kernel
theorem dX4_drawBelow_12 : decode cX4_drawBelow 12 = .ok (.ldc 78, 2) := by decide +kernel
theorem dX4_drawBelow_14 : decode cX4_drawBelow 14 = .ok (.idiv, 1) := by decide +kernel
theorem dX4_drawBelow_15 : decode cX4_drawBelow 15 = .ok (.iload_n 1, 1) := by decide +kernel
theorem dX4_drawBelow_16 : decode cX4_drawBelow 16 = .ok (.irem, 1) := by decide +kernel
theorem dX4_drawBelow_17 : decode cX4_drawBelow 17 = .ok (.ireturn, 1) := by decide +kernel
theorem dX5_init_0 : decode cX5_init 0 = .ok (.aload_n 0, 1) := by decide +kernel
theorem dX5_init_1 : decode cX5_init 1 = .ok (.invokespecial 3, 3) := by decide +kernel
theorem dX5_init_4 : decode cX5_init 4 = .ok (.aload_n 0, 1) := by decide +kernel
theorem dX5_init_5 : decode cX5_init 5 = .ok (.bipush 12, 2) := by decide +kernel
theorem dX5_init_7 : decode cX5_init 7 = .ok (.anewarray 9, 3) := by decide +kernel
theorem dX5_init_10 : decode cX5_init 10 = .ok (.putfield 11, 3) := by decide +kernel
theorem dX5_init_13 : decode cX5_init 13 = .ok (.aload_n 0, 1) := by decide +kernel
theorem dX5_init_14 : decode cX5_init 14 = .ok (.iconst 4, 1) := by decide +kernel
theorem dX5_init_15 : decode cX5_init 15 = .ok (.newarray .int, 2) := by decide +kernel
theorem dX5_init_17 : decode cX5_init 17 = .ok (.dup, 1) := by decide +kernel
theorem dX5_init_18 : decode cX5_init 18 = .ok (.iconst 0, 1) := by decide +kernel
theorem dX5_init_19 : decode cX5_init 19 = .ok (.sipush 230, 3) := by decide +kernel
theorem dX5_init_22 : decode cX5_init 22 = .ok (.iastore, 1) := by decide +kernel
theorem dX5_init_23 : decode cX5_init 23 = .ok (.dup, 1) := by decide +kernel
theorem dX5_init_24 : decode cX5_init 24 = .ok (.iconst 1, 1) := by decide +kernel
theorem dX5_init_25 : decode cX5_init 25 = .ok (.iconst 3, 1) := by decide +kernel
theorem dX5_init_26 : decode cX5_init 26 = .ok (.iastore, 1) := by decide +kernel
theorem dX5_init_27 : decode cX5_init 27 = .ok (.dup, 1) := by decide +kernel
theorem dX5_init_28 : decode cX5_init 28 = .ok (.iconst 2, 1) := by decide +kernel
theorem dX5_init_29 : decode cX5_init 29 = .ok (.bipush 100, 2) := by decide +kernel
theorem dX5_init_31 : decode cX5_init 31 = .ok (.iastore, 1) := by decide +kernel
theorem dX5_init_32 : decode cX5_init 32 = .ok (.dup, 1) := by decide +kernel
theorem dX5_init_33 : decode cX5_init 33 = .ok (.iconst 3, 1) := by decide +kernel
theorem dX5_init_34 : decode cX5_init 34 = .ok (.iconst 3, 1) := by decide +kernel
theorem dX5_init_35 : decode cX5_init 35 = .ok (.iastore, 1) := by decide +kernel
theorem dX5_init_36 : decode cX5_init 36 = .ok (.putfield 17, 3) := by decide +kernel
theorem dX5_init_39 : decode cX5_init 39 = .ok (.iconst 0, 1) := by decide +kernel
theorem dX5_init_40 : decode cX5_init 40 = .ok (.istore_n 1, 1) := by decide +kernel
theorem dX5_init_41 : decode cX5_init 41 = .ok (.iload_n 1, 1) := by decide +kernel
theorem dX5_init_42 : decode cX5_init 42 = .ok (.bipush 12, 2) := by decide +kernel
theorem dX5_init_44 : decode cX5_init 44 = .ok (.if_icmp .ge 22, 3) := by decide +kernel
theorem dX5_init_47 : decode cX5_init 47 = .ok (.aload_n 0, 1) := by decide +kernel
theorem dX5_init_48 : decode cX5_init 48 = .ok (.getfield 11, 3) := by decide +kernel
theorem dX5_init_51 : decode cX5_init 51 = .ok (.iload_n 1, 1) := by decide +kernel
theorem dX5_init_52 : decode cX5_init 52 = .ok (.new 9, 3) := by decide +kernel
theorem dX5_init_55 : decode cX5_init 55 = .ok (.dup, 1) := by decide +kernel
theorem dX5_init_56 : decode cX5_init 56 = .ok (.invokespecial 21, 3) := by decide +kernel
theorem dX5_init_59 : decode cX5_init 59 = .ok (.aastore, 1) := by decide +kernel
theorem dX5_init_60 : decode cX5_init 60 = .ok (.iinc 1 1, 3) := by decide +kernel
theorem dX5_init_63 : decode cX5_init 63 = .ok (.goto (-22), 3) := by decide +kernel
theorem dX5_init_66 : decode cX5_init 66 = .ok (.return_, 1) := by decide +kernel
theorem dX5_copyFrom_0 : decode cX5_copyFrom 0 = .ok (.aload_n 0, 1) := by decide +kernel
theorem dX5_copyFrom_1 : decode cX5_copyFrom 1 = .ok (.aload_n 1, 1) := by decide +kernel
theorem dX5_copyFrom_2 : decode cX5_copyFrom 2 = .ok (.getfield 22, 3) := by decide +kernel
theorem dX5_copyFrom_5 : decode cX5_copyFrom 5 = .ok (.putfield 22, 3) := by decide +kernel
theorem dX5_copyFrom_8 : decode cX5_copyFrom 8 = .ok (.aload_n 0, 1) := by decide +kernel
theorem dX5_copyFrom_9 : decode cX5_copyFrom 9 = .ok (.aload_n 1, 1) := by decide +kernel
theorem dX5_copyFrom_10 : decode cX5_copyFrom 10 = .ok (.getfield 26, 3) := by decide +kernel
theorem dX5_copyFrom_13 : decode cX5_copyFrom 13 = .ok (.putfield 26, 3) := by decide +kernel
theorem dX5_copyFrom_16 : decode cX5_copyFrom 16 = .ok (.iconst 0, 1) := by decide +kernel
theorem dX5_copyFrom_17 : decode cX5_copyFrom 17 = .ok (.istore_n 2, 1) := by decide +kernel
theorem dX5_copyFrom_18 : decode cX5_copyFrom 18 = .ok (.iload_n 2, 1) := by decide +kernel
theorem dX5_copyFrom_19 : decode cX5_copyFrom 19 = .ok (.iconst 3, 1) := by decide +kernel
theorem dX5_copyFrom_20 : decode cX5_copyFrom 20 = .ok (.if_icmp .gt 21, 3) := by decide +kernel
theorem dX5_copyFrom_23 : decode cX5_copyFrom 23 = .ok (.aload_n 0, 1) := by decide +kernel
theorem dX5_copyFrom_24 : decode cX5_copyFrom 24 = .ok (.getfield 17, 3) := by decide +kernel
theorem dX5_copyFrom_27 : decode cX5_copyFrom 27 = .ok (.iload_n 2, 1) := by decide +kernel
theorem dX5_copyFrom_28 : decode cX5_copyFrom 28 = .ok (.aload_n 1, 1) := by decide +kernel
theorem dX5_copyFrom_29 : decode cX5_copyFrom 29 = .ok (.getfield 17, 3) := by decide +kernel
theorem dX5_copyFrom_32 : decode cX5_copyFrom 32 = .ok (.iload_n 2, 1) := by decide +kernel
theorem dX5_copyFrom_33 : decode cX5_copyFrom 33 = .ok (.iaload, 1) := by decide +kernel
theorem dX5_copyFrom_34 : decode cX5_copyFrom 34 = .ok (.iastore, 1) := by decide +kernel
theorem dX5_copyFrom_35 : decode cX5_copyFrom 35 = .ok (.iinc 2 1, 3) := by decide +kernel
theorem dX5_copyFrom_38 : decode cX5_copyFrom 38 = .ok (.goto (-20), 3) := by decide +kernel
theorem dX5_copyFrom_41 : decode cX5_copyFrom 41 = .ok (.iconst 0, 1) := by decide +kernel
theorem dX5_copyFrom_42 : decode cX5_copyFrom 42 = .ok (.istore_n 2, 1) := by decide +kernel
theorem dX5_copyFrom_43 : decode cX5_copyFrom 43 = .ok (.iload_n 2, 1) := by decide +kernel
theorem dX5_copyFrom_44 : decode cX5_copyFrom 44 = .ok (.aload_n 0, 1) := by decide +kernel
theorem dX5_copyFrom_45 : decode cX5_copyFrom 45 = .ok (.getfield 22, 3) := by decide +kernel
theorem dX5_copyFrom_48 : decode cX5_copyFrom 48 = .ok (.if_icmp .ge 24, 3) := by decide +kernel
theorem dX5_copyFrom_51 : decode cX5_copyFrom 51 = .ok (.aload_n 0, 1) := by decide +kernel
theorem dX5_copyFrom_52 : decode cX5_copyFrom 52 = .ok (.getfield 11, 3) := by decide +kernel
theorem dX5_copyFrom_55 : decode cX5_copyFrom 55 = .ok (.iload_n 2, 1) := by decide +kernel
theorem dX5_copyFrom_56 : decode cX5_copyFrom 56 = .ok (.aaload, 1) := by decide +kernel
theorem dX5_copyFrom_57 : decode cX5_copyFrom 57 = .ok (.aload_n 1, 1) := by decide +kernel
theorem dX5_copyFrom_58 : decode cX5_copyFrom 58 = .ok (.getfield 11, 3) := by decide +kernel
theorem dX5_copyFrom_61 : decode cX5_copyFrom 61 = .ok (.iload_n 2, 1) := by decide +kernel
theorem dX5_copyFrom_62 : decode cX5_copyFrom 62 = .ok (.aaload, 1) := by decide +kernel
theorem dX5_copyFrom_63 : decode cX5_copyFrom 63 = .ok (.invokevirtual 29, 3) := by decide +kernel
theorem dX5_copyFrom_66 : decode cX5_copyFrom 66 = .ok (.iinc 2 1, 3) := by decide +kernel
theorem dX5_copyFrom_69 : decode cX5_copyFrom 69 = .ok (.goto (-26), 3) := by decide +kernel
theorem dX5_copyFrom_72 : decode cX5_copyFrom 72 = .ok (.return_, 1) := by decide +kernel
theorem dX5_has_0 : decode cX5_has 0 = .ok (.iload_n 1, 1) := by decide +kernel
theorem dX5_has_1 : decode cX5_has 1 = .ok (.ifCond .lt 15, 3) := by decide +kernel
theorem dX5_has_4 : decode cX5_has 4 = .ok (.iload_n 1, 1) := by decide +kernel
theorem dX5_has_5 : decode cX5_has 5 = .ok (.aload_n 0, 1) := by decide +kernel
theorem dX5_has_6 : decode cX5_has 6 = .ok (.getfield 22, 3) := by decide +kernel
theorem dX5_has_9 : decode cX5_has 9 = .ok (.if_icmp .ge 7, 3) := by decide +kernel
theorem dX5_has_12 : decode cX5_has 12 = .ok (.iconst 1, 1) := by decide +kernel
theorem dX5_has_13 : decode cX5_has 13 = .ok (.goto 4, 3) := by decide +kernel
theorem dX5_has_16 : decode cX5_has 16 = .ok (.iconst 0, 1) := by decide +kernel
theorem dX5_has_17 : decode cX5_has 17 = .ok (.ireturn, 1) := by decide +kernel
theorem dX5_hasStretch_0 : decode cX5_hasStretch 0 = .ok (.aload_n 0, 1) := by decide +kernel
theorem dX5_hasStretch_1 : decode cX5_hasStretch 1 = .ok (.iload_n 1, 1) := by decide +kernel
theorem dX5_hasStretch_2 : decode cX5_hasStretch 2 = .ok (.invokevirtual 33, 3) := by decide +kernel
theorem dX5_hasStretch_5 : decode cX5_hasStretch 5 = .ok (.ifCond .eq 20, 3) := by decide +kernel
theorem dX5_hasStretch_8 : decode cX5_hasStretch 8 = .ok (.aload_n 0, 1) := by decide +kernel
theorem dX5_hasStretch_9 : decode cX5_hasStretch 9 = .ok (.iload_n 2, 1) := by decide +kernel
theorem dX5_hasStretch_10 : decode cX5_hasStretch 10 = .ok (.invokevirtual 33, 3) := by decide +kernel
theorem dX5_hasStretch_13 : decode cX5_hasStretch 13 = .ok (.ifCond .eq 12, 3) := by decide +kernel
theorem dX5_hasStretch_16 : decode cX5_hasStretch 16 = .ok (.iload_n 1, 1) := by decide +kernel
theorem dX5_hasStretch_17 : decode cX5_hasStretch 17 = .ok (.iload_n 2, 1) := by decide +kernel
theorem dX5_hasStretch_18 : decode cX5_hasStretch 18 = .ok (.if_icmp .gt 7, 3) := by decide +kernel
theorem dX5_hasStretch_21 : decode cX5_hasStretch 21 = .ok (.iconst 1, 1) := by decide +kernel
theorem dX5_hasStretch_22 : decode cX5_hasStretch 22 = .ok (.goto 4, 3) := by decide +kernel
theorem dX5_hasStretch_25 : decode cX5_hasStretch 25 = .ok (.iconst 0, 1) := by decide +kernel
theorem dX5_hasStretch_26 : decode cX5_hasStretch 26 = .ok (.ireturn, 1) := by decide +kernel
theorem dX5_take_0 : decode cX5_take 0 = .ok (.aload_n 1, 1) := by decide +kernel
theorem dX5_take_1 : decode cX5_take 1 = .ok (.getfield 37, 3) := by decide +kernel
theorem dX5_take_4 : decode cX5_take 4 = .ok (.lookupswitch 94 #[(100, 71), (103, 84), (112, 44), (117, 61)], 44) := by decide +kernel
theorem dX5_take_48 : decode cX5_take 48 = .ok (.aload_n 0, 1) := by decide +kernel
theorem dX5_take_49 : decode cX5_take 49 = .ok (.aload_n 1, 1) := by decide +kernel
theorem dX5_take_50 : decode cX5_take 50 = .ok (.getfield 42, 3) := by decide +kernel
theorem dX5_take_53 : decode cX5_take 53 = .ok (.aload_n 1, 1) := by decide +kernel
theorem dX5_take_54 : decode cX5_take 54 = .ok (.getfield 45, 3) := by decide +kernel
theorem dX5_take_57 : decode cX5_take 57 = .ok (.aload_n 1, 1) := by decide +kernel
theorem dX5_take_58 : decode cX5_take 58 = .ok (.getfield 48, 3) := by decide +kernel
theorem dX5_take_61 : decode cX5_take 61 = .ok (.invokevirtual 51, 3) := by decide +kernel
theorem dX5_take_64 : decode cX5_take 64 = .ok (.ireturn, 1) := by decide +kernel
theorem dX5_take_65 : decode cX5_take 65 = .ok (.aload_n 0, 1) := by decide +kernel
theorem dX5_take_66 : decode cX5_take 66 = .ok (.iconst 0, 1) := by decide +kernel
theorem dX5_take_67 : decode cX5_take 67 = .ok (.aload_n 1, 1) := by decide +kernel
theorem dX5_take_68 : decode cX5_take 68 = .ok (.getfield 42, 3) := by decide +kernel
theorem dX5_take_71 : decode cX5_take 71 = .ok (.invokevirtual 55, 3) := by decide +kernel
theorem dX5_take_74 : decode cX5_take 74 = .ok (.ireturn, 1) := by decide +kernel
theorem dX5_take_75 : decode cX5_take 75 = .ok (.aload_n 0, 1) := by decide +kernel
theorem dX5_take_76 : decode cX5_take 76 = .ok (.aload_n 1, 1) := by decide +kernel
theorem dX5_take_77 : decode cX5_take 77 = .ok (.getfield 42, 3) := by decide +kernel
theorem dX5_take_80 : decode cX5_take 80 = .ok (.aload_n 1, 1) := by decide +kernel
theorem dX5_take_81 : decode cX5_take 81 = .ok (.getfield 45, 3) := by decide +kernel
theorem dX5_take_84 : decode cX5_take 84 = .ok (.invokevirtual 59, 3) := by decide +kernel
theorem dX5_take_87 : decode cX5_take 87 = .ok (.ireturn, 1) := by decide +kernel
theorem dX5_take_88 : decode cX5_take 88 = .ok (.aload_n 0, 1) := by decide +kernel
theorem dX5_take_89 : decode cX5_take 89 = .ok (.iconst 3, 1) := by decide +kernel
theorem dX5_take_90 : decode cX5_take 90 = .ok (.aload_n 1, 1) := by decide +kernel
theorem dX5_take_91 : decode cX5_take 91 = .ok (.getfield 42, 3) := by decide +kernel
theorem dX5_take_94 : decode cX5_take 94 = .ok (.invokevirtual 55, 3) := by decide +kernel
theorem dX5_take_97 : decode cX5_take 97 = .ok (.ireturn, 1) := by decide +kernel
theorem dX5_take_98 : decode cX5_take 98 = .ok (.iconst 0, 1) := by decide +kernel
theorem dX5_take_99 : decode cX5_take 99 = .ok (.ireturn, 1) := by decide +kernel
theorem dX5_addLamp_0 : decode cX5_addLamp 0 = .ok (.iload_n 1, 1) := by decide +kernel
theorem dX5_addLamp_1 : decode cX5_addLamp 1 = .ok (.ifCond .lt 34, 3) := by decide +kernel
theorem dX5_addLamp_4 : decode cX5_addLamp 4 = .ok (.iload_n 1, 1) := by decide +kernel
theorem dX5_addLamp_5 : decode cX5_addLamp 5 = .ok (.iconst 5, 1) := by decide +kernel
theorem dX5_addLamp_6 : decode cX5_addLamp 6 = .ok (.if_icmp .gt 29, 3) := by decide +kernel
theorem dX5_addLamp_9 : decode cX5_addLamp 9 = .ok (.iload_n 2, 1) := by decide +kernel
theorem dX5_addLamp_10 : decode cX5_addLamp 10 = .ok (.iconst 1, 1) := by decide +kernel
theorem dX5_addLamp_11 : decode cX5_addLamp 11 = .ok (.if_icmp .lt 24, 3) := by decide +kernel
theorem dX5_addLamp_14 : decode cX5_addLamp 14 = .ok (.iload_n 2, 1) := by decide +kernel
theorem dX5_addLamp_15 : decode cX5_addLamp 15 = .ok (.bipush 99, 2) := by decide +kernel
theorem dX5_addLamp_17 : decode cX5_addLamp 17 = .ok (.if_icmp .gt 18, 3) := by decide +kernel
theorem dX5_addLamp_20 : decode cX5_addLamp 20 = .ok (.iload_n 3, 1) := by decide +kernel
theorem dX5_addLamp_21 : decode cX5_addLamp 21 = .ok (.iconst 1, 1) := by decide +kernel
theorem dX5_addLamp_22 : decode cX5_addLamp 22 = .ok (.if_icmp .lt 13, 3) := by decide +kernel
theorem dX5_addLamp_25 : decode cX5_addLamp 25 = .ok (.iload_n 3, 1) := by decide +kernel
theorem dX5_addLamp_26 : decode cX5_addLamp 26 = .ok (.bipush 9, 2) := by decide +kernel
theorem dX5_addLamp_28 : decode cX5_addLamp 28 = .ok (.if_icmp .gt 7, 3) := by decide +kernel
theorem dX5_addLamp_31 : decode cX5_addLamp 31 = .ok (.iconst 1, 1) := by decide +kernel
theorem dX5_addLamp_32 : decode cX5_addLamp 32 = .ok (.goto 4, 3) := by decide +kernel
theorem dX5_addLamp_35 : decode cX5_addLamp 35 = .ok (.iconst 0, 1) := by decide +kernel
theorem dX5_addLamp_36 : decode cX5_addLamp 36 = .ok (.istore 4, 2) := by decide +kernel
theorem dX5_addLamp_38 : decode cX5_addLamp 38 = .ok (.iload 4, 2) := by decide +kernel
theorem dX5_addLamp_40 : decode cX5_addLamp 40 = .ok (.ifCond .eq 12, 3) := by decide +kernel
theorem dX5_addLamp_43 : decode cX5_addLamp 43 = .ok (.aload_n 0, 1) := by decide +kernel
theorem dX5_addLamp_44 : decode cX5_addLamp 44 = .ok (.getfield 22, 3) := by decide +kernel
theorem dX5_addLamp_47 : decode cX5_addLamp 47 = .ok (.bipush 12, 2) := by decide +kernel
theorem dX5_addLamp_49 : decode cX5_addLamp 49 = .ok (.if_icmp .lt 5, 3) := by decide +kernel
theorem dX5_addLamp_52 : decode cX5_addLamp 52 = .ok (.iconst 0, 1) := by decide +kernel
theorem dX5_addLamp_53 : decode cX5_addLamp 53 = .ok (.ireturn, 1) := by decide +kernel
theorem dX5_addLamp_54 : decode cX5_addLamp 54 = .ok (.aload_n 0, 1) := by decide +kernel
theorem dX5_addLamp_55 : decode cX5_addLamp 55 = .ok (.getfield 11, 3) := by decide +kernel
theorem dX5_addLamp_58 : decode cX5_addLamp 58 = .ok (.aload_n 0, 1) := by decide +kernel
theorem dX5_addLamp_59 : decode cX5_addLamp 59 = .ok (.getfield 22, 3) := by decide +kernel
theorem dX5_addLamp_62 : decode cX5_addLamp 62 = .ok (.aaload, 1) := by decide +kernel
theorem dX5_addLamp_63 : decode cX5_addLamp 63 = .ok (.iload_n 1, 1) := by decide +kernel
theorem dX5_addLamp_64 : decode cX5_addLamp 64 = .ok (.iload_n 2, 1) := by decide +kernel
theorem dX5_addLamp_65 : decode cX5_addLamp 65 = .ok (.iload_n 3, 1) := by decide +kernel
theorem dX5_addLamp_66 : decode cX5_addLamp 66 = .ok (.invokevirtual 62, 3) := by decide +kernel
theorem dX5_addLamp_69 : decode cX5_addLamp 69 = .ok (.aload_n 0, 1) := by decide +kernel
theorem dX5_addLamp_70 : decode cX5_addLamp 70 = .ok (.dup, 1) := by decide +kernel
theorem dX5_addLamp_71 : decode cX5_addLamp 71 = .ok (.getfield 22, 3) := by decide +kernel
theorem dX5_addLamp_74 : decode cX5_addLamp 74 = .ok (.iconst 1, 1) := by decide +kernel
theorem dX5_addLamp_75 : decode cX5_addLamp 75 = .ok (.iadd, 1) := by decide +kernel
theorem dX5_addLamp_76 : decode cX5_addLamp 76 = .ok (.putfield 22, 3) := by decide +kernel
theorem dX5_addLamp_79 : decode cX5_addLamp 79 = .ok (.iconst 1, 1) := by decide +kernel
theorem dX5_addLamp_80 : decode cX5_addLamp 80 = .ok (.ireturn, 1) := by decide +kernel
theorem dX5_takeSetting_0 : decode cX5_takeSetting 0 = .ok (.iload_n 2, 1) := by decide +kernel
theorem dX5_takeSetting_1 : decode cX5_takeSetting 1 = .ok (.getstatic 66, 3) := by decide +kernel
theorem dX5_takeSetting_4 : decode cX5_takeSetting 4 = .ok (.iload_n 1, 1) := by decide +kernel
theorem dX5_takeSetting_5 : decode cX5_takeSetting 5 = .ok (.iaload, 1) := by decide +kernel
theorem dX5_takeSetting_6 : decode cX5_takeSetting 6 = .ok (.if_icmp .lt 12, 3) := by decide +kernel
theorem dX5_takeSetting_9 : decode cX5_takeSetting 9 = .ok (.iload_n 2, 1) := by decide +kernel
theorem dX5_takeSetting_10 : decode cX5_takeSetting 10 = .ok (.getstatic 69, 3) := by decide +kernel
theorem dX5_takeSetting_13 : decode cX5_takeSetting 13 = .ok (.iload_n 1, 1) := by decide +kernel
theorem dX5_takeSetting_14 : decode cX5_takeSetting 14 = .ok (.iaload, 1) := by decide +kernel
theorem dX5_takeSetting_15 : decode cX5_takeSetting 15 = .ok (.if_icmp .le 5, 3) := by decide +kernel
theorem dX5_takeSetting_18 : decode cX5_takeSetting 18 = .ok (.iconst 0, 1) := by decide +kernel
theorem dX5_takeSetting_19 : decode cX5_takeSetting 19 = .ok (.ireturn, 1) := by decide +kernel
theorem dX5_takeSetting_20 : decode cX5_takeSetting 20 = .ok (.aload_n 0, 1) := by decide +kernel
theorem dX5_takeSetting_21 : decode cX5_takeSetting 21 = .ok (.getfield 17, 3) := by decide +kernel
theorem dX5_takeSetting_24 : decode cX5_takeSetting 24 = .ok (.iload_n 1, 1) := by decide +kernel
theorem dX5_takeSetting_25 : decode cX5_takeSetting 25 = .ok (.iload_n 2, 1) := by decide +kernel
theorem dX5_takeSetting_26 : decode cX5_takeSetting 26 = .ok (.iastore, 1) := by decide +kernel
theorem dX5_takeSetting_27 : decode cX5_takeSetting 27 = .ok (.iconst 1, 1) := by decide +kernel
theorem dX5_takeSetting_28 : decode cX5_takeSetting 28 = .ok (.ireturn, 1) := by decide +kernel
theorem dX5_takeCondition_0 : decode cX5_takeCondition 0 = .ok (.aload_n 0, 1) := by decide +kernel
theorem dX5_takeCondition_1 : decode cX5_takeCondition 1 = .ok (.iload_n 1, 1) := by decide +kernel
theorem dX5_takeCondition_2 : decode cX5_takeCondition 2 = .ok (.invokevirtual 33, 3) := by decide +kernel
theorem dX5_takeCondition_5 : decode cX5_takeCondition 5 = .ok (.ifCond .eq 12, 3) := by decide +kernel
theorem dX5_takeCondition_8 : decode cX5_takeCondition 8 = .ok (.iload_n 2, 1) := by decide +kernel
theorem dX5_takeCondition_9 : decode cX5_takeCondition 9 = .ok (.ifCond .lt 8, 3) := by decide +kernel
theorem dX5_takeCondition_12 : decode cX5_takeCondition 12 = .ok (.iload_n 2, 1) := by decide +kernel
theorem dX5_takeCondition_13 : decode cX5_takeCondition 13 = .ok (.iconst 3, 1) := by decide +kernel
theorem dX5_takeCondition_14 : decode cX5_takeCondition 14 = .ok (.if_icmp .le 5, 3) := by decide +kernel
theorem dX5_takeCondition_17 : decode cX5_takeCondition 17 = .ok (.iconst 0, 1) := by decide +kernel
theorem dX5_takeCondition_18 : decode cX5_takeCondition 18 = .ok (.ireturn, 1) := by decide +kernel
theorem dX5_takeCondition_19 : decode cX5_takeCondition 19 = .ok (.aload_n 0, 1) := by decide +kernel
theorem dX5_takeCondition_20 : decode cX5_takeCondition 20 = .ok (.getfield 11, 3) := by decide +kernel
theorem dX5_takeCondition_23 : decode cX5_takeCondition 23 = .ok (.iload_n 1, 1) := by decide +kernel
theorem dX5_takeCondition_24 : decode cX5_takeCondition 24 = .ok (.aaload, 1) := by decide +kernel
theorem dX5_takeCondition_25 : decode cX5_takeCondition 25 = .ok (.iload_n 2, 1) := by decide +kernel
theorem dX5_takeCondition_26 : decode cX5_takeCondition 26 = .ok (.putfield 72, 3) := by decide +kernel
theorem dX5_takeCondition_29 : decode cX5_takeCondition 29 = .ok (.iconst 1, 1) := by decide +kernel
theorem dX5_takeCondition_30 : decode cX5_takeCondition 30 = .ok (.ireturn, 1) := by decide +kernel
theorem dX5_howMany_0 : decode cX5_howMany 0 = .ok (.iconst 0, 1) := by decide +kernel
theorem dX5_howMany_1 : decode cX5_howMany 1 = .ok (.istore_n 2, 1) := by decide +kernel
theorem dX5_howMany_2 : decode cX5_howMany 2 = .ok (.iconst 0, 1) := by decide +kernel
theorem dX5_howMany_3 : decode cX5_howMany 3 = .ok (.istore_n 3, 1) := by decide +kernel
theorem dX5_howMany_4 : decode cX5_howMany 4 = .ok (.iload_n 3, 1) := by decide +kernel
theorem dX5_howMany_5 : decode cX5_howMany 5 = .ok (.aload_n 0, 1) := by decide +kernel
theorem dX5_howMany_6 : decode cX5_howMany 6 = .ok (.getfield 22, 3) := by decide +kernel
theorem dX5_howMany_9 : decode cX5_howMany 9 = .ok (.if_icmp .ge 25, 3) := by decide +kernel
theorem dX5_howMany_12 : decode cX5_howMany 12 = .ok (.aload_n 0, 1) := by decide +kernel
theorem dX5_howMany_13 : decode cX5_howMany 13 = .ok (.getfield 11, 3) := by decide +kernel
theorem dX5_howMany_16 : decode cX5_howMany 16 = .ok (.iload_n 3, 1) := by decide +kernel
theorem dX5_howMany_17 : decode cX5_howMany 17 = .ok (.aaload, 1) := by decide +kernel
theorem dX5_howMany_18 : decode cX5_howMany 18 = .ok (.getfield 72, 3) := by decide +kernel
theorem dX5_howMany_21 : decode cX5_howMany 21 = .ok (.iload_n 1, 1) := by decide +kernel
theorem dX5_howMany_22 : decode cX5_howMany 22 = .ok (.if_icmp .ne 6, 3) := by decide +kernel
theorem dX5_howMany_25 : decode cX5_howMany 25 = .ok (.iinc 2 1, 3) := by decide +kernel
theorem dX5_howMany_28 : decode cX5_howMany 28 = .ok (.iinc 3 1, 3) := by decide +kernel
theorem dX5_howMany_31 : decode cX5_howMany 31 = .ok (.goto (-27), 3) := by decide +kernel
theorem dX5_howMany_34 : decode cX5_howMany 34 = .ok (.iload_n 2, 1) := by decide +kernel
theorem dX5_howMany_35 : decode cX5_howMany 35 = .ok (.ireturn, 1) := by decide +kernel
theorem dX5_allHurt_0 : decode cX5_allHurt 0 = .ok (.iconst 0, 1) := by decide +kernel
theorem dX5_allHurt_1 : decode cX5_allHurt 1 = .ok (.istore_n 1, 1) := by decide +kernel
theorem dX5_allHurt_2 : decode cX5_allHurt 2 = .ok (.iconst 0, 1) := by decide +kernel
theorem dX5_allHurt_3 : decode cX5_allHurt 3 = .ok (.istore_n 2, 1) := by decide +kernel
theorem dX5_allHurt_4 : decode cX5_allHurt 4 = .ok (.iload_n 2, 1) := by decide +kernel
theorem dX5_allHurt_5 : decode cX5_allHurt 5 = .ok (.aload_n 0, 1) := by decide +kernel
theorem dX5_allHurt_6 : decode cX5_allHurt 6 = .ok (.getfield 22, 3) := by decide +kernel
theorem dX5_allHurt_9 : decode cX5_allHurt 9 = .ok (.if_icmp .ge 21, 3) := by decide +kernel
theorem dX5_allHurt_12 : decode cX5_allHurt 12 = .ok (.iload_n 1, 1) := by decide +kernel
theorem dX5_allHurt_13 : decode cX5_allHurt 13 = .ok (.aload_n 0, 1) := by decide +kernel
theorem dX5_allHurt_14 : decode cX5_allHurt 14 = .ok (.getfield 11, 3) := by decide +kernel
theorem dX5_allHurt_17 : decode cX5_allHurt 17 = .ok (.iload_n 2, 1) := by decide +kernel
theorem dX5_allHurt_18 : decode cX5_allHurt 18 = .ok (.aaload, 1) := by decide +kernel
theorem dX5_allHurt_19 : decode cX5_allHurt 19 = .ok (.getfield 75, 3) := by decide +kernel
theorem dX5_allHurt_22 : decode cX5_allHurt 22 = .ok (.iadd, 1) := by decide +kernel
theorem dX5_allHurt_23 : decode cX5_allHurt 23 = .ok (.istore_n 1, 1) := by decide +kernel
theorem dX5_allHurt_24 : decode cX5_allHurt 24 = .ok (.iinc 2 1, 3) := by decide +kernel
theorem dX5_allHurt_27 : decode cX5_allHurt 27 = .ok (.goto (-23), 3) := by decide +kernel
theorem dX5_allHurt_30 : decode cX5_allHurt 30 = .ok (.iload_n 1, 1) := by decide +kernel
theorem dX5_allHurt_31 : decode cX5_allHurt 31 = .ok (.ireturn, 1) := by decide +kernel
theorem dX5_isWhole_0 : decode cX5_isWhole 0 = .ok (.iload_n 1, 1) := by decide +kernel
theorem dX5_isWhole_1 : decode cX5_isWhole 1 = .ok (.istore_n 3, 1) := by decide +kernel
theorem dX5_isWhole_2 : decode cX5_isWhole 2 = .ok (.iload_n 3, 1) := by decide +kernel
theorem dX5_isWhole_3 : decode cX5_isWhole 3 = .ok (.iload_n 2, 1) := by decide +kernel
theorem dX5_isWhole_4 : decode cX5_isWhole 4 = .ok (.if_icmp .gt 31, 3) := by decide +kernel
theorem dX5_isWhole_7 : decode cX5_isWhole 7 = .ok (.iload_n 3, 1) := by decide +kernel
theorem dX5_isWhole_8 : decode cX5_isWhole 8 = .ok (.aload_n 0, 1) := by decide +kernel
theorem dX5_isWhole_9 : decode cX5_isWhole 9 = .ok (.getfield 22, 3) := by decide +kernel
theorem dX5_isWhole_12 : decode cX5_isWhole 12 = .ok (.if_icmp .ge 23, 3) := by decide +kernel
theorem dX5_isWhole_15 : decode cX5_isWhole 15 = .ok (.aload_n 0, 1) := by decide +kernel
theorem dX5_isWhole_16 : decode cX5_isWhole 16 = .ok (.getfield 11, 3) := by decide +kernel
theorem dX5_isWhole_19 : decode cX5_isWhole 19 = .ok (.iload_n 3, 1) := by decide +kernel
theorem dX5_isWhole_20 : decode cX5_isWhole 20 = .ok (.aaload, 1) := by decide +kernel
theorem dX5_isWhole_21 : decode cX5_isWhole 21 = .ok (.invokevirtual 78, 3) := by decide +kernel
theorem dX5_isWhole_24 : decode cX5_isWhole 24 = .ok (.ifCond .eq 5, 3) := by decide +kernel
theorem dX5_isWhole_27 : decode cX5_isWhole 27 = .ok (.iconst 0, 1) := by decide +kernel
theorem dX5_isWhole_28 : decode cX5_isWhole 28 = .ok (.ireturn, 1) := by decide +kernel
theorem dX5_isWhole_29 : decode cX5_isWhole 29 = .ok (.iinc 3 1, 3) := by decide +kernel
theorem dX5_isWhole_32 : decode cX5_isWhole 32 = .ok (.goto (-30), 3) := by decide +kernel
theorem dX5_isWhole_35 : decode cX5_isWhole 35 = .ok (.iconst 1, 1) := by decide +kernel
theorem dX5_isWhole_36 : decode cX5_isWhole 36 = .ok (.ireturn, 1) := by decide +kernel
theorem dX5_allDrags_0 : decode cX5_allDrags 0 = .ok (.iconst 0, 1) := by decide +kernel
theorem dX5_allDrags_1 : decode cX5_allDrags 1 = .ok (.istore_n 1, 1) := by decide +kernel
theorem dX5_allDrags_2 : decode cX5_allDrags 2 = .ok (.iconst 0, 1) := by decide +kernel
theorem dX5_allDrags_3 : decode cX5_allDrags 3 = .ok (.istore_n 2, 1) := by decide +kernel
theorem dX5_allDrags_4 : decode cX5_allDrags 4 = .ok (.iload_n 2, 1) := by decide +kernel
theorem dX5_allDrags_5 : decode cX5_allDrags 5 = .ok (.aload_n 0, 1) := by decide +kernel
theorem dX5_allDrags_6 : decode cX5_allDrags 6 = .ok (.getfield 22, 3) := by decide +kernel
theorem dX5_allDrags_9 : decode cX5_allDrags 9 = .ok (.if_icmp .ge 21, 3) := by decide +kernel
theorem dX5_allDrags_12 : decode cX5_allDrags 12 = .ok (.iload_n 1, 1) := by decide +kernel
theorem dX5_allDrags_13 : decode cX5_allDrags 13 = .ok (.aload_n 0, 1) := by decide +kernel
theorem dX5_allDrags_14 : decode cX5_allDrags 14 = .ok (.getfield 11, 3) := by decide +kernel
theorem dX5_allDrags_17 : decode cX5_allDrags 17 = .ok (.iload_n 2, 1) := by decide +kernel
theorem dX5_allDrags_18 : decode cX5_allDrags 18 = .ok (.aaload, 1) := by decide +kernel
theorem dX5_allDrags_19 : decode cX5_allDrags 19 = .ok (.invokevirtual 82, 3) := by decide +kernel
theorem dX5_allDrags_22 : decode cX5_allDrags 22 = .ok (.iadd, 1) := by decide +kernel
theorem dX5_allDrags_23 : decode cX5_allDrags 23 = .ok (.istore_n 1, 1) := by decide +kernel
theorem dX5_allDrags_24 : decode cX5_allDrags 24 = .ok (.iinc 2 1, 3) := by decide +kernel
theorem dX5_allDrags_27 : decode cX5_allDrags 27 = .ok (.goto (-23), 3) := by decide +kernel
theorem dX5_allDrags_30 : decode cX5_allDrags 30 = .ok (.iload_n 1, 1) := by decide +kernel
theorem dX5_allDrags_31 : decode cX5_allDrags 31 = .ok (.ireturn, 1) := by decide +kernel
theorem dX5_isLive_0 : decode cX5_isLive 0 = .ok (.aload_n 0, 1) := by decide +kernel
theorem dX5_isLive_1 : decode cX5_isLive 1 = .ok (.iconst 0, 1) := by decide +kernel
theorem dX5_isLive_2 : decode cX5_isLive 2 = .ok (.aload_n 0, 1) := by decide +kernel
theorem dX5_isLive_3 : decode cX5_isLive 3 = .ok (.getfield 22, 3) := by decide +kernel
theorem dX5_isLive_6 : decode cX5_isLive 6 = .ok (.iconst 1, 1) := by decide +kernel
theorem dX5_isLive_7 : decode cX5_isLive 7 = .ok (.isub, 1) := by decide +kernel
theorem dX5_isLive_8 : decode cX5_isLive 8 = .ok (.invokevirtual 86, 3) := by decide +kernel
theorem dX5_isLive_11 : decode cX5_isLive 11 = .ok (.ifCond .eq 14, 3) := by decide +kernel
theorem dX5_isLive_14 : decode cX5_isLive 14 = .ok (.aload_n 0, 1) := by decide +kernel
theorem dX5_isLive_15 : decode cX5_isLive 15 = .ok (.invokevirtual 89, 3) := by decide +kernel
theorem dX5_isLive_18 : decode cX5_isLive 18 = .ok (.ifCond .le 7, 3) := by decide +kernel
theorem dX5_isLive_21 : decode cX5_isLive 21 = .ok (.iconst 1, 1) := by decide +kernel
theorem dX5_isLive_22 : decode cX5_isLive 22 = .ok (.goto 4, 3) := by decide +kernel
theorem dX5_isLive_25 : decode cX5_isLive 25 = .ok (.iconst 0, 1) := by decide +kernel
theorem dX5_isLive_26 : decode cX5_isLive 26 = .ok (.ireturn, 1) := by decide +kernel
theorem dX5_flowNow_0 : decode cX5_flowNow 0 = .ok (.aload_n 0, 1) := by decide +kernel
theorem dX5_flowNow_1 : decode cX5_flowNow 1 = .ok (.invokevirtual 92, 3) := by decide +kernel
theorem dX5_flowNow_4 : decode cX5_flowNow 4 = .ok (.ifCond .eq 14, 3) := by decide +kernel
theorem dX5_flowNow_7 : decode cX5_flowNow 7 = .ok (.aload_n 0, 1) := by decide +kernel
theorem dX5_flowNow_8 : decode cX5_flowNow 8 = .ok (.aload_n 0, 1) := by decide +kernel
theorem dX5_flowNow_9 : decode cX5_flowNow 9 = .ok (.invokevirtual 89, 3) := by decide +kernel
theorem dX5_flowNow_12 : decode cX5_flowNow 12 = .ok (.invokevirtual 95, 3) := by decide +kernel
theorem dX5_flowNow_15 : decode cX5_flowNow 15 = .ok (.goto 4, 3) := by decide +kernel
theorem dX5_flowNow_18 : decode cX5_flowNow 18 = .ok (.iconst 0, 1) := by decide +kernel
theorem dX5_flowNow_19 : decode cX5_flowNow 19 = .ok (.ireturn, 1) := by decide +kernel
theorem dX5_flowThrough_0 : decode cX5_flowThrough 0 = .ok (.iload_n 1, 1) := by decide +kernel
theorem dX5_flowThrough_1 : decode cX5_flowThrough 1 = .ok (.ifCond .gt 7, 3) := by decide +kernel
theorem dX5_flowThrough_4 : decode cX5_flowThrough 4 = .ok (.iconst 0, 1) := by decide +kernel
theorem dX5_flowThrough_5 : decode cX5_flowThrough 5 = .ok (.goto 20, 3) := by decide +kernel
theorem dX5_flowThrough_8 : decode cX5_flowThrough 8 = .ok (.sipush 9999, 3) := by decide +kernel
theorem dX5_flowThrough_11 : decode cX5_flowThrough 11 = .ok (.bipush 100, 2) := by decide +kernel
theorem dX5_flowThrough_13 : decode cX5_flowThrough 13 = .ok (.aload_n 0, 1) := by decide +kernel
theorem dX5_flowThrough_14 : decode cX5_flowThrough 14 = .ok (.getfield 17, 3) := by decide +kernel
theorem dX5_flowThrough_17 : decode cX5_flowThrough 17 = .ok (.iconst 0, 1) := by decide +kernel
theorem dX5_flowThrough_18 : decode cX5_flowThrough 18 = .ok (.iaload, 1) := by decide +kernel
theorem dX5_flowThrough_19 : decode cX5_flowThrough 19 = .ok (.imul, 1) := by decide +kernel
theorem dX5_flowThrough_20 : decode cX5_flowThrough 20 = .ok (.iload_n 1, 1) := by decide +kernel
theorem dX5_flowThrough_21 : decode cX5_flowThrough 21 = .ok (.idiv, 1) := by decide +kernel
theorem dX5_flowThrough_22 : decode cX5_flowThrough 22 = .ok (.invokestatic 99, 3) := by decide +kernel
theorem dX5_flowThrough_25 : decode cX5_flowThrough 25 = .ok (.ireturn, 1) := by decide +kernel
theorem dX5_allBright_0 : decode cX5_allBright 0 = .ok (.aload_n 0, 1) := by decide +kernel
theorem dX5_allBright_1 : decode cX5_allBright 1 = .ok (.invokevirtual 105, 3) := by decide +kernel
theorem dX5_allBright_4 : decode cX5_allBright 4 = .ok (.istore_n 1, 1) := by decide +kernel
theorem dX5_allBright_5 : decode cX5_allBright 5 = .ok (.iconst 0, 1) := by decide +kernel
theorem dX5_allBright_6 : decode cX5_allBright 6 = .ok (.istore_n 2, 1) := by decide +kernel
theorem dX5_allBright_7 : decode cX5_allBright 7 = .ok (.iconst 0, 1) := by decide +kernel
theorem dX5_allBright_8 : decode cX5_allBright 8 = .ok (.istore_n 3, 1) := by decide +kernel
theorem dX5_allBright_9 : decode cX5_allBright 9 = .ok (.iload_n 3, 1) := by decide +kernel
theorem dX5_allBright_10 : decode cX5_allBright 10 = .ok (.aload_n 0, 1) := by decide +kernel
theorem dX5_allBright_11 : decode cX5_allBright 11 = .ok (.getfield 22, 3) := by decide +kernel
theorem dX5_allBright_14 : decode cX5_allBright 14 = .ok (.if_icmp .ge 22, 3) := by decide +kernel
theorem dX5_allBright_17 : decode cX5_allBright 17 = .ok (.iload_n 2, 1) := by decide +kernel
theorem dX5_allBright_18 : decode cX5_allBright 18 = .ok (.aload_n 0, 1) := by decide +kernel
theorem dX5_allBright_19 : decode cX5_allBright 19 = .ok (.getfield 11, 3) := by decide +kernel
theorem dX5_allBright_22 : decode cX5_allBright 22 = .ok (.iload_n 3, 1) := by decide +kernel
theorem dX5_allBright_23 : decode cX5_allBright 23 = .ok (.aaload, 1) := by decide +kernel
theorem dX5_allBright_24 : decode cX5_allBright 24 = .ok (.iload_n 1, 1) := by decide +kernel
theorem dX5_allBright_25 : decode cX5_allBright 25 = .ok (.invokevirtual 108, 3) := by decide +kernel
theorem dX5_allBright_28 : decode cX5_allBright 28 = .ok (.iadd, 1) := by decide +kernel
theorem dX5_allBright_29 : decode cX5_allBright 29 = .ok (.istore_n 2, 1) := by decide +kernel
theorem dX5_allBright_30 : decode cX5_allBright 30 = .ok (.iinc 3 1, 3) := by decide +kernel
theorem dX5_allBright_33 : decode cX5_allBright 33 = .ok (.goto (-24), 3) := by decide +kernel
theorem dX5_allBright_36 : decode cX5_allBright 36 = .ok (.iload_n 2, 1) := by decide +kernel
theorem dX5_allBright_37 : decode cX5_allBright 37 = .ok (.ireturn, 1) := by decide +kernel
theorem dX5_passHour_0 : decode cX5_passHour 0 = .ok (.aload_n 0, 1) := by decide +kernel
theorem dX5_passHour_1 : decode cX5_passHour 1 = .ok (.invokevirtual 92, 3) := by decide +kernel
theorem dX5_passHour_4 : decode cX5_passHour 4 = .ok (.istore_n 1, 1) := by decide +kernel
theorem dX5_passHour_5 : decode cX5_passHour 5 = .ok (.iload_n 1, 1) := by decide +kernel
theorem dX5_passHour_6 : decode cX5_passHour 6 = .ok (.ifCond .eq 14, 3) := by decide +kernel
theorem dX5_passHour_9 : decode cX5_passHour 9 = .ok (.aload_n 0, 1) := by decide +kernel
theorem dX5_passHour_10 : decode cX5_passHour 10 = .ok (.aload_n 0, 1) := by decide +kernel
theorem dX5_passHour_11 : decode cX5_passHour 11 = .ok (.invokevirtual 89, 3) := by decide +kernel
theorem dX5_passHour_14 : decode cX5_passHour 14 = .ok (.invokevirtual 95, 3) := by decide +kernel
theorem dX5_passHour_17 : decode cX5_passHour 17 = .ok (.goto 4, 3) := by decide +kernel
theorem dX5_passHour_20 : decode cX5_passHour 20 = .ok (.iconst 0, 1) := by decide +kernel
theorem dX5_passHour_21 : decode cX5_passHour 21 = .ok (.istore_n 2, 1) := by decide +kernel
theorem dX5_passHour_22 : decode cX5_passHour 22 = .ok (.iconst 0, 1) := by decide +kernel
theorem dX5_passHour_23 : decode cX5_passHour 23 = .ok (.istore_n 3, 1) := by decide +kernel
theorem dX5_passHour_24 : decode cX5_passHour 24 = .ok (.iconst 0, 1) := by decide +kernel
theorem dX5_passHour_25 : decode cX5_passHour 25 = .ok (.istore 4, 2) := by decide +kernel
theorem dX5_passHour_27 : decode cX5_passHour 27 = .ok (.iload 4, 2) := by decide +kernel
theorem dX5_passHour_29 : decode cX5_passHour 29 = .ok (.aload_n 0, 1) := by decide +kernel
theorem dX5_passHour_30 : decode cX5_passHour 30 = .ok (.getfield 22, 3) := by decide +kernel
theorem dX5_passHour_33 : decode cX5_passHour 33 = .ok (.if_icmp .ge 88, 3) := by decide +kernel
theorem dX5_passHour_36 : decode cX5_passHour 36 = .ok (.aload_n 0, 1) := by decide +kernel
theorem dX5_passHour_37 : decode cX5_passHour 37 = .ok (.getfield 11, 3) := by decide +kernel
theorem dX5_passHour_40 : decode cX5_passHour 40 = .ok (.iload 4, 2) := by decide +kernel
theorem dX5_passHour_42 : decode cX5_passHour 42 = .ok (.aaload, 1) := by decide +kernel
theorem dX5_passHour_43 : decode cX5_passHour 43 = .ok (.astore 5, 2) := by decide +kernel
theorem dX5_passHour_45 : decode cX5_passHour 45 = .ok (.aload 5, 2) := by decide +kernel
theorem dX5_passHour_47 : decode cX5_passHour 47 = .ok (.invokevirtual 111, 3) := by decide +kernel
theorem dX5_passHour_50 : decode cX5_passHour 50 = .ok (.istore 6, 2) := by decide +kernel
theorem dX5_passHour_52 : decode cX5_passHour 52 = .ok (.iload 6, 2) := by decide +kernel
theorem dX5_passHour_54 : decode cX5_passHour 54 = .ok (.ifCond .eq 13, 3) := by decide +kernel
theorem dX5_passHour_57 : decode cX5_passHour 57 = .ok (.iload_n 1, 1) := by decide +kernel
theorem dX5_passHour_58 : decode cX5_passHour 58 = .ok (.ifCond .eq 9, 3) := by decide +kernel
theorem dX5_passHour_61 : decode cX5_passHour 61 = .ok (.aload 5, 2) := by decide +kernel
theorem dX5_passHour_63 : decode cX5_passHour 63 = .ok (.iload_n 2, 1) := by decide +kernel
theorem dX5_passHour_64 : decode cX5_passHour 64 = .ok (.invokevirtual 114, 3) := by decide +kernel
theorem dX5_passHour_67 : decode cX5_passHour 67 = .ok (.aload 5, 2) := by decide +kernel
theorem dX5_passHour_69 : decode cX5_passHour 69 = .ok (.invokevirtual 111, 3) := by decide +kernel
theorem dX5_passHour_72 : decode cX5_passHour 72 = .ok (.ifCond .eq 27, 3) := by decide +kernel
theorem dX5_passHour_75 : decode cX5_passHour 75 = .ok (.aload 5, 2) := by decide +kernel
theorem dX5_passHour_77 : decode cX5_passHour 77 = .ok (.aload_n 0, 1) := by decide +kernel
theorem dX5_passHour_78 : decode cX5_passHour 78 = .ok (.getfield 26, 3) := by decide +kernel
theorem dX5_passHour_81 : decode cX5_passHour 81 = .ok (.aload_n 0, 1) := by decide +kernel
theorem dX5_passHour_82 : decode cX5_passHour 82 = .ok (.getfield 17, 3) := by decide +kernel
theorem dX5_passHour_85 : decode cX5_passHour 85 = .ok (.iconst 3, 1) := by decide +kernel
theorem dX5_passHour_86 : decode cX5_passHour 86 = .ok (.iaload, 1) := by decide +kernel
theorem dX5_passHour_87 : decode cX5_passHour 87 = .ok (.invokevirtual 118, 3) := by decide +kernel
theorem dX5_passHour_90 : decode cX5_passHour 90 = .ok (.ifCond .eq 9, 3) := by decide +kernel
theorem dX5_passHour_93 : decode cX5_passHour 93 = .ok (.aload 5, 2) := by decide +kernel
theorem dX5_passHour_95 : decode cX5_passHour 95 = .ok (.iconst 3, 1) := by decide +kernel
theorem dX5_passHour_96 : decode cX5_passHour 96 = .ok (.putfield 72, 3) := by decide +kernel
theorem dX5_passHour_99 : decode cX5_passHour 99 = .ok (.iload 6, 2) := by decide +kernel
theorem dX5_passHour_101 : decode cX5_passHour 101 = .ok (.ifCond .eq 14, 3) := by decide +kernel
theorem dX5_passHour_104 : decode cX5_passHour 104 = .ok (.aload 5, 2) := by decide +kernel
theorem dX5_passHour_106 : decode cX5_passHour 106 = .ok (.invokevirtual 111, 3) := by decide +kernel
theorem dX5_passHour_109 : decode cX5_passHour 109 = .ok (.ifCond .ne 6, 3) := by decide +kernel
theorem dX5_passHour_112 : decode cX5_passHour 112 = .ok (.iinc 3 1, 3) := by decide +kernel
theorem dX5_passHour_115 : decode cX5_passHour 115 = .ok (.iinc 4 1, 3) := by decide +kernel
theorem dX5_passHour_118 : decode cX5_passHour 118 = .ok (.goto (-91), 3) := by decide +kernel
theorem dX5_passHour_121 : decode cX5_passHour 121 = .ok (.aload_n 0, 1) := by decide +kernel
theorem dX5_passHour_122 : decode cX5_passHour 122 = .ok (.dup, 1) := by decide +kernel
theorem dX5_passHour_123 : decode cX5_passHour 123 = .ok (.getfield 26, 3) := by decide +kernel
theorem dX5_passHour_126 : decode cX5_passHour 126 = .ok (.iconst 1, 1) := by decide +kernel
theorem dX5_passHour_127 : decode cX5_passHour 127 = .ok (.iadd, 1) := by decide +kernel
theorem dX5_passHour_128 : decode cX5_passHour 128 = .ok (.putfield 26, 3) := by decide +kernel
theorem dX5_passHour_131 : decode cX5_passHour 131 = .ok (.iload_n 3, 1) := by decide +kernel
theorem dX5_passHour_132 : decode cX5_passHour 132 = .ok (.ireturn, 1) := by decide +kernel
theorem dX5_touchAt_0 : decode cX5_touchAt 0 = .ok (.aload_n 0, 1) := by decide +kernel
theorem dX5_touchAt_1 : decode cX5_touchAt 1 = .ok (.iload_n 1, 1) := by decide +kernel
theorem dX5_touchAt_2 : decode cX5_touchAt 2 = .ok (.invokevirtual 33, 3) := by decide +kernel
theorem dX5_touchAt_5 : decode cX5_touchAt 5 = .ok (.ifCond .eq 18, 3) := by decide +kernel
theorem dX5_touchAt_8 : decode cX5_touchAt 8 = .ok (.aload_n 0, 1) := by decide +kernel
theorem dX5_touchAt_9 : decode cX5_touchAt 9 = .ok (.getfield 11, 3) := by decide +kernel
theorem dX5_touchAt_12 : decode cX5_touchAt 12 = .ok (.iload_n 1, 1) := by decide +kernel
theorem dX5_touchAt_13 : decode cX5_touchAt 13 = .ok (.aaload, 1) := by decide +kernel
theorem dX5_touchAt_14 : decode cX5_touchAt 14 = .ok (.aload_n 0, 1) := by decide +kernel
theorem dX5_touchAt_15 : decode cX5_touchAt 15 = .ok (.getfield 17, 3) := by decide +kernel
theorem dX5_touchAt_18 : decode cX5_touchAt 18 = .ok (.iconst 3, 1) := by decide +kernel
theorem dX5_touchAt_19 : decode cX5_touchAt 19 = .ok (.iaload, 1) := by decide +kernel
theorem dX5_touchAt_20 : decode cX5_touchAt 20 = .ok (.invokevirtual 121, 3) := by decide +kernel
theorem dX5_touchAt_23 : decode cX5_touchAt 23 = .ok (.return_, 1) := by decide +kernel
theorem dX5_putAllAnew_0 : decode cX5_putAllAnew 0 = .ok (.iconst 0, 1) := by decide +kernel
theorem dX5_putAllAnew_1 : decode cX5_putAllAnew 1 = .ok (.istore_n 1, 1) := by decide +kernel
theorem dX5_putAllAnew_2 : decode cX5_putAllAnew 2 = .ok (.iload_n 1, 1) := by decide +kernel
theorem dX5_putAllAnew_3 : decode cX5_putAllAnew 3 = .ok (.aload_n 0, 1) := by decide +kernel
theorem dX5_putAllAnew_4 : decode cX5_putAllAnew 4 = .ok (.getfield 22, 3) := by decide +kernel
theorem dX5_putAllAnew_7 : decode cX5_putAllAnew 7 = .ok (.if_icmp .ge 18, 3) := by decide +kernel
theorem dX5_putAllAnew_10 : decode cX5_putAllAnew 10 = .ok (.aload_n 0, 1) := by decide +kernel
theorem dX5_putAllAnew_11 : decode cX5_putAllAnew 11 = .ok (.getfield 11, 3) := by decide +kernel
theorem dX5_putAllAnew_14 : decode cX5_putAllAnew 14 = .ok (.iload_n 1, 1) := by decide +kernel
theorem dX5_putAllAnew_15 : decode cX5_putAllAnew 15 = .ok (.aaload, 1) := by decide +kernel
theorem dX5_putAllAnew_16 : decode cX5_putAllAnew 16 = .ok (.invokevirtual 124, 3) := by decide +kernel
theorem dX5_putAllAnew_19 : decode cX5_putAllAnew 19 = .ok (.iinc 1 1, 3) := by decide +kernel
theorem dX5_putAllAnew_22 : decode cX5_putAllAnew 22 = .ok (.goto (-20), 3) := by decide +kernel
theorem dX5_putAllAnew_25 : decode cX5_putAllAnew 25 = .ok (.return_, 1) := by decide +kernel
theorem dX5_mendAll_0 : decode cX5_mendAll 0 = .ok (.iconst 0, 1) := by decide +kernel
theorem dX5_mendAll_1 : decode cX5_mendAll 1 = .ok (.istore_n 1, 1) := by decide +kernel
theorem dX5_mendAll_2 : decode cX5_mendAll 2 = .ok (.iconst 0, 1) := by decide +kernel
theorem dX5_mendAll_3 : decode cX5_mendAll 3 = .ok (.istore_n 2, 1) := by decide +kernel
theorem dX5_mendAll_4 : decode cX5_mendAll 4 = .ok (.iload_n 2, 1) := by decide +kernel
theorem dX5_mendAll_5 : decode cX5_mendAll 5 = .ok (.aload_n 0, 1) := by decide +kernel
theorem dX5_mendAll_6 : decode cX5_mendAll 6 = .ok (.getfield 22, 3) := by decide +kernel
theorem dX5_mendAll_9 : decode cX5_mendAll 9 = .ok (.if_icmp .ge 33, 3) := by decide +kernel
theorem dX5_mendAll_12 : decode cX5_mendAll 12 = .ok (.aload_n 0, 1) := by decide +kernel
theorem dX5_mendAll_13 : decode cX5_mendAll 13 = .ok (.getfield 11, 3) := by decide +kernel
theorem dX5_mendAll_16 : decode cX5_mendAll 16 = .ok (.iload_n 2, 1) := by decide +kernel
theorem dX5_mendAll_17 : decode cX5_mendAll 17 = .ok (.aaload, 1) := by decide +kernel
theorem dX5_mendAll_18 : decode cX5_mendAll 18 = .ok (.invokevirtual 111, 3) := by decide +kernel
theorem dX5_mendAll_21 : decode cX5_mendAll 21 = .ok (.ifCond .ne 15, 3) := by decide +kernel
theorem dX5_mendAll_24 : decode cX5_mendAll 24 = .ok (.aload_n 0, 1) := by decide +kernel
theorem dX5_mendAll_25 : decode cX5_mendAll 25 = .ok (.getfield 11, 3) := by decide +kernel
theorem dX5_mendAll_28 : decode cX5_mendAll 28 = .ok (.iload_n 2, 1) := by decide +kernel
theorem dX5_mendAll_29 : decode cX5_mendAll 29 = .ok (.aaload, 1) := by decide +kernel
theorem dX5_mendAll_30 : decode cX5_mendAll 30 = .ok (.invokevirtual 124, 3) := by decide +kernel
theorem dX5_mendAll_33 : decode cX5_mendAll 33 = .ok (.iinc 1 1, 3) := by decide +kernel
theorem dX5_mendAll_36 : decode cX5_mendAll 36 = .ok (.iinc 2 1, 3) := by decide +kernel
theorem dX5_mendAll_39 : decode cX5_mendAll 39 = .ok (.goto (-35), 3) := by decide +kernel
theorem dX5_mendAll_42 : decode cX5_mendAll 42 = .ok (.iload_n 1, 1) := by decide +kernel
theorem dX5_mendAll_43 : decode cX5_mendAll 43 = .ok (.ireturn, 1) := by decide +kernel
theorem dX5_bridgedAboveLimit_0 : decode cX5_bridgedAboveLimit 0 = .ok (.iconst 0, 1) := by decide +kernel
theorem dX5_bridgedAboveLimit_1 : decode cX5_bridgedAboveLimit 1 = .ok (.istore_n 1, 1) := by decide +kernel
theorem dX5_bridgedAboveLimit_2 : decode cX5_bridgedAboveLimit 2 = .ok (.iload_n 1, 1) := by decide +kernel
theorem dX5_bridgedAboveLimit_3 : decode cX5_bridgedAboveLimit 3 = .ok (.aload_n 0, 1) := by decide +kernel
theorem dX5_bridgedAboveLimit_4 : decode cX5_bridgedAboveLimit 4 = .ok (.getfield 22, 3) := by decide +kernel
theorem dX5_bridgedAboveLimit_7 : decode cX5_bridgedAboveLimit 7 = .ok (.if_icmp .ge 33, 3) := by decide +kernel
theorem dX5_bridgedAboveLimit_10 : decode cX5_bridgedAboveLimit 10 = .ok (.aload_n 0, 1) := by decide +kernel
theorem dX5_bridgedAboveLimit_11 : decode cX5_bridgedAboveLimit 11 = .ok (.bipush 10, 2) := by decide +kernel
theorem dX5_bridgedAboveLimit_13 : decode cX5_bridgedAboveLimit 13 = .ok (.aload_n 0, 1) := by decide +kernel
theorem dX5_bridgedAboveLimit_14 : decode cX5_bridgedAboveLimit 14 = .ok (.getfield 22, 3) := by decide +kernel
theorem dX5_bridgedAboveLimit_17 : decode cX5_bridgedAboveLimit 17 = .ok (.iload_n 1, 1) := by decide +kernel
theorem dX5_bridgedAboveLimit_18 : decode cX5_bridgedAboveLimit 18 = .ok (.isub, 1) := by decide +kernel
theorem dX5_bridgedAboveLimit_19 : decode cX5_bridgedAboveLimit 19 = .ok (.imul, 1) := by decide +kernel
theorem dX5_bridgedAboveLimit_20 : decode cX5_bridgedAboveLimit 20 = .ok (.invokevirtual 95, 3) := by decide +kernel
theorem dX5_bridgedAboveLimit_23 : decode cX5_bridgedAboveLimit 23 = .ok (.aload_n 0, 1) := by decide +kernel
theorem dX5_bridgedAboveLimit_24 : decode cX5_bridgedAboveLimit 24 = .ok (.getfield 17, 3) := by decide +kernel
theorem dX5_bridgedAboveLimit_27 : decode cX5_bridgedAboveLimit 27 = .ok (.iconst 2, 1) := by decide +kernel
theorem dX5_bridgedAboveLimit_28 : decode cX5_bridgedAboveLimit 28 = .ok (.iaload, 1) := by decide +kernel
theorem dX5_bridgedAboveLimit_29 : decode cX5_bridgedAboveLimit 29 = .ok (.if_icmp .le 5, 3) := by decide +kernel
theorem dX5_bridgedAboveLimit_32 : decode cX5_bridgedAboveLimit 32 = .ok (.iload_n 1, 1) := by decide +kernel
theorem dX5_bridgedAboveLimit_33 : decode cX5_bridgedAboveLimit 33 = .ok (.ireturn, 1) := by decide +kernel
theorem dX5_bridgedAboveLimit_34 : decode cX5_bridgedAboveLimit 34 = .ok (.iinc 1 1, 3) := by decide +kernel
theorem dX5_bridgedAboveLimit_37 : decode cX5_bridgedAboveLimit 37 = .ok (.goto (-35), 3) := by decide +kernel
theorem dX5_bridgedAboveLimit_40 : decode cX5_bridgedAboveLimit 40 = .ok (.bipush (-9), 2) := by decide +kernel
theorem dX5_bridgedAboveLimit_42 : decode cX5_bridgedAboveLimit 42 = .ok (.ireturn, 1) := by decide +kernel
theorem dX5_stringsWithinLimit_0 : decode cX5_stringsWithinLimit 0 = .ok (.aload_n 0, 1) := by decide +kernel
theorem dX5_stringsWithinLimit_1 : decode cX5_stringsWithinLimit 1 = .ok (.invokevirtual 92, 3) := by decide +kernel
theorem dX5_stringsWithinLimit_4 : decode cX5_stringsWithinLimit 4 = .ok (.ifCond .eq 24, 3) := by decide +kernel
theorem dX5_stringsWithinLimit_7 : decode cX5_stringsWithinLimit 7 = .ok (.aload_n 0, 1) := by decide +kernel
theorem dX5_stringsWithinLimit_8 : decode cX5_stringsWithinLimit 8 = .ok (.getfield 17, 3) := by decide +kernel
theorem dX5_stringsWithinLimit_11 : decode cX5_stringsWithinLimit 11 = .ok (.iconst 2, 1) := by decide +kernel
theorem dX5_stringsWithinLimit_12 : decode cX5_stringsWithinLimit 12 = .ok (.iaload, 1) := by decide +kernel
theorem dX5_stringsWithinLimit_13 : decode cX5_stringsWithinLimit 13 = .ok (.iconst 1, 1) := by decide +kernel
theorem dX5_stringsWithinLimit_14 : decode cX5_stringsWithinLimit 14 = .ok (.aload_n 0, 1) := by decide +kernel
theorem dX5_stringsWithinLimit_15 : decode cX5_stringsWithinLimit 15 = .ok (.invokevirtual 105, 3) := by decide +kernel
theorem dX5_stringsWithinLimit_18 : decode cX5_stringsWithinLimit 18 = .ok (.bipush 10, 2) := by decide +kernel
theorem dX5_stringsWithinLimit_20 : decode cX5_stringsWithinLimit 20 = .ok (.idiv, 1) := by decide +kernel
theorem dX5_stringsWithinLimit_21 : decode cX5_stringsWithinLimit 21 = .ok (.invokestatic 127, 3) := by decide +kernel
theorem dX5_stringsWithinLimit_24 : decode cX5_stringsWithinLimit 24 = .ok (.idiv, 1) := by decide +kernel
theorem dX5_stringsWithinLimit_25 : decode cX5_stringsWithinLimit 25 = .ok (.goto 4, 3) := by decide +kernel
theorem dX5_stringsWithinLimit_28 : decode cX5_stringsWithinLimit 28 = .ok (.iconst 0, 1) := by decide +kernel
theorem dX5_stringsWithinLimit_29 : decode cX5_stringsWithinLimit 29 = .ok (.ireturn, 1) := by decide +kernel
theorem dX6_init_0 : decode cX6_init 0 = .ok (.aload_n 0, 1) := by decide +kernel
theorem dX6_init_1 : decode cX6_init 1 = .ok (.invokespecial 3, 3) := by decide +kernel
theorem dX6_init_4 : decode cX6_init 4 = .ok (.aload_n 0, 1) := by decide +kernel
theorem dX6_init_5 : decode cX6_init 5 = .ok (.bipush 12, 2) := by decide +kernel
theorem dX6_init_7 : decode cX6_init 7 = .ok (.bipush 12, 2) := by decide +kernel
theorem dX6_init_9 : decode cX6_init 9 = .ok (.multianewarray 9 2, 4) := by decide +kernel
theorem dX6_init_13 : decode cX6_init 13 = .ok (.putfield 11, 3) := by decide +kernel
theorem dX6_init_16 : decode cX6_init 16 = .ok (.return_, 1) := by decide +kernel
theorem dX6_leastCost_0 : decode cX6_leastCost 0 = .ok (.aload_n 1, 1) := by decide +kernel
theorem dX6_leastCost_1 : decode cX6_leastCost 1 = .ok (.iload_n 2, 1) := by decide +kernel
theorem dX6_leastCost_2 : decode cX6_leastCost 2 = .ok (.iload_n 3, 1) := by decide +kernel
theorem dX6_leastCost_3 : decode cX6_leastCost 3 = .ok (.invokevirtual 16, 3) := by decide +kernel
theorem dX6_leastCost_6 : decode cX6_leastCost 6 = .ok (.ifCond .ne 5, 3) := by decide +kernel
theorem dX6_leastCost_9 : decode cX6_leastCost 9 = .ok (.iconst 0, 1) := by decide +kernel
theorem dX6_leastCost_10 : decode cX6_leastCost 10 = .ok (.ireturn, 1) := by decide +kernel
theorem dX6_leastCost_11 : decode cX6_leastCost 11 = .ok (.aload_n 0, 1) := by decide +kernel
theorem dX6_leastCost_12 : decode cX6_leastCost 12 = .ok (.aload_n 1, 1) := by decide +kernel
theorem dX6_leastCost_13 : decode cX6_leastCost 13 = .ok (.iload_n 2, 1) := by decide +kernel
theorem dX6_leastCost_14 : decode cX6_leastCost 14 = .ok (.iload_n 3, 1) := by decide +kernel
theorem dX6_leastCost_15 : decode cX6_leastCost 15 = .ok (.iload 4, 2) := by decide +kernel
theorem dX6_leastCost_17 : decode cX6_leastCost 17 = .ok (.invokevirtual 22, 3) := by decide +kernel
theorem dX6_leastCost_20 : decode cX6_leastCost 20 = .ok (.aload_n 0, 1) := by decide +kernel
theorem dX6_leastCost_21 : decode cX6_leastCost 21 = .ok (.getfield 11, 3) := by decide +kernel
theorem dX6_leastCost_24 : decode cX6_leastCost 24 = .ok (.iload_n 2, 1) := by decide +kernel
theorem dX6_leastCost_25 : decode cX6_leastCost 25 = .ok (.aaload, 1) := by decide +kernel
theorem dX6_leastCost_26 : decode cX6_leastCost 26 = .ok (.iload_n 3, 1) := by decide +kernel
theorem dX6_leastCost_27 : decode cX6_leastCost 27 = .ok (.iaload, 1) := by decide +kernel
theorem dX6_leastCost_28 : decode cX6_leastCost 28 = .ok (.ireturn, 1) := by decide +kernel
theorem dX6_bestPlace_0 : decode cX6_bestPlace 0 = .ok (.aload_n 0, 1) := by decide +kernel
theorem dX6_bestPlace_1 : decode cX6_bestPlace 1 = .ok (.aload_n 1, 1) := by decide +kernel
theorem dX6_bestPlace_2 : decode cX6_bestPlace 2 = .ok (.iload_n 2, 1) := by decide +kernel
theorem dX6_bestPlace_3 : decode cX6_bestPlace 3 = .ok (.iload_n 3, 1) := by decide +kernel
theorem dX6_bestPlace_4 : decode cX6_bestPlace 4 = .ok (.iload 4, 2) := by decide +kernel
theorem dX6_bestPlace_6 : decode cX6_bestPlace 6 = .ok (.invokevirtual 26, 3) := by decide +kernel
theorem dX6_bestPlace_9 : decode cX6_bestPlace 9 = .ok (.istore 5, 2) := by decide +kernel
theorem dX6_bestPlace_11 : decode cX6_bestPlace 11 = .ok (.aload_n 1, 1) := by decide +kernel
theorem dX6_bestPlace_12 : decode cX6_bestPlace 12 = .ok (.iload_n 2, 1) := by decide +kernel
theorem dX6_bestPlace_13 : decode cX6_bestPlace 13 = .ok (.iload_n 3, 1) := by decide +kernel
theorem dX6_bestPlace_14 : decode cX6_bestPlace 14 = .ok (.invokestatic 30, 3) := by decide +kernel
theorem dX6_bestPlace_17 : decode cX6_bestPlace 17 = .ok (.istore 6, 2) := by decide +kernel
theorem dX6_bestPlace_19 : decode cX6_bestPlace 19 = .ok (.iload_n 2, 1) := by decide +kernel
theorem dX6_bestPlace_20 : decode cX6_bestPlace 20 = .ok (.iconst 1, 1) := by decide +kernel
theorem dX6_bestPlace_21 : decode cX6_bestPlace 21 = .ok (.iadd, 1) := by decide +kernel
theorem dX6_bestPlace_22 : decode cX6_bestPlace 22 = .ok (.istore 7, 2) := by decide +kernel
theorem dX6_bestPlace_24 : decode cX6_bestPlace 24 = .ok (.iload 7, 2) := by decide +kernel
theorem dX6_bestPlace_26 : decode cX6_bestPlace 26 = .ok (.iload_n 3, 1) := by decide +kernel
theorem dX6_bestPlace_27 : decode cX6_bestPlace 27 = .ok (.if_icmp .gt 30, 3) := by decide +kernel
theorem dX6_bestPlace_30 : decode cX6_bestPlace 30 = .ok (.aload_n 0, 1) := by decide +kernel
theorem dX6_bestPlace_31 : decode cX6_bestPlace 31 = .ok (.aload_n 1, 1) := by decide +kernel
theorem dX6_bestPlace_32 : decode cX6_bestPlace 32 = .ok (.iload_n 2, 1) := by decide +kernel
theorem dX6_bestPlace_33 : decode cX6_bestPlace 33 = .ok (.iload_n 3, 1) := by decide +kernel
theorem dX6_bestPlace_34 : decode cX6_bestPlace 34 = .ok (.iload 7, 2) := by decide +kernel
theorem dX6_bestPlace_36 : decode cX6_bestPlace 36 = .ok (.iload 6, 2) := by decide +kernel
theorem dX6_bestPlace_38 : decode cX6_bestPlace 38 = .ok (.iload 4, 2) := by decide +kernel
theorem dX6_bestPlace_40 : decode cX6_bestPlace 40 = .ok (.invokevirtual 34, 3) := by decide +kernel
theorem dX6_bestPlace_43 : decode cX6_bestPlace 43 = .ok (.iload 5, 2) := by decide +kernel
theorem dX6_bestPlace_45 : decode cX6_bestPlace 45 = .ok (.if_icmp .ne 6, 3) := by decide +kernel
theorem dX6_bestPlace_48 : decode cX6_bestPlace 48 = .ok (.iload 7, 2) := by decide +kernel
theorem dX6_bestPlace_50 : decode cX6_bestPlace 50 = .ok (.ireturn, 1) := by decide +kernel
theorem dX6_bestPlace_51 : decode cX6_bestPlace 51 = .ok (.iinc 7 1, 3) := by decide +kernel
theorem dX6_bestPlace_54 : decode cX6_bestPlace 54 = .ok (.goto (-30), 3) := by decide +kernel
theorem dX6_bestPlace_57 : decode cX6_bestPlace 57 = .ok (.bipush (-9), 2) := by decide +kernel
theorem dX6_bestPlace_59 : decode cX6_bestPlace 59 = .ok (.ireturn, 1) := by decide +kernel
theorem dX6_fill_0 : decode cX6_fill 0 = .ok (.iload_n 2, 1) := by decide +kernel
theorem dX6_fill_1 : decode cX6_fill 1 = .ok (.istore 5, 2) := by decide +kernel
theorem dX6_fill_3 : decode cX6_fill 3 = .ok (.iload 5, 2) := by decide +kernel
theorem dX6_fill_5 : decode cX6_fill 5 = .ok (.iload_n 3, 1) := by decide +kernel
theorem dX6_fill_6 : decode cX6_fill 6 = .ok (.if_icmp .gt 20, 3) := by decide +kernel
theorem dX6_fill_9 : decode cX6_fill 9 = .ok (.aload_n 0, 1) := by decide +kernel
theorem dX6_fill_10 : decode cX6_fill 10 = .ok (.getfield 11, 3) := by decide +kernel
theorem dX6_fill_13 : decode cX6_fill 13 = .ok (.iload 5, 2) := by decide +kernel
theorem dX6_fill_15 : decode cX6_fill 15 = .ok (.aaload, 1) := by decide +kernel
theorem dX6_fill_16 : decode cX6_fill 16 = .ok (.iload 5, 2) := by decide +kernel
theorem dX6_fill_18 : decode cX6_fill 18 = .ok (.iconst 0, 1) := by decide +kernel
theorem dX6_fill_19 : decode cX6_fill 19 = .ok (.iastore, 1) := by decide +kernel
theorem dX6_fill_20 : decode cX6_fill 20 = .ok (.iinc 5 1, 3) := by decide +kernel
theorem dX6_fill_23 : decode cX6_fill 23 = .ok (.goto (-20), 3) := by decide +kernel
theorem dX6_fill_26 : decode cX6_fill 26 = .ok (.iconst 1, 1) := by decide +kernel
theorem dX6_fill_27 : decode cX6_fill 27 = .ok (.istore 5, 2) := by decide +kernel
theorem dX6_fill_29 : decode cX6_fill 29 = .ok (.iload 5, 2) := by decide +kernel
theorem dX6_fill_31 : decode cX6_fill 31 = .ok (.iload_n 3, 1) := by decide +kernel
theorem dX6_fill_32 : decode cX6_fill 32 = .ok (.iload_n 2, 1) := by decide +kernel
theorem dX6_fill_33 : decode cX6_fill 33 = .ok (.isub, 1) := by decide +kernel
theorem dX6_fill_34 : decode cX6_fill 34 = .ok (.if_icmp .gt 54, 3) := by decide +kernel
theorem dX6_fill_37 : decode cX6_fill 37 = .ok (.iload_n 2, 1) := by decide +kernel
theorem dX6_fill_38 : decode cX6_fill 38 = .ok (.istore 6, 2) := by decide +kernel
theorem dX6_fill_40 : decode cX6_fill 40 = .ok (.iload 6, 2) := by decide +kernel
theorem dX6_fill_42 : decode cX6_fill 42 = .ok (.iload 5, 2) := by decide +kernel
theorem dX6_fill_44 : decode cX6_fill 44 = .ok (.iadd, 1) := by decide +kernel
theorem dX6_fill_45 : decode cX6_fill 45 = .ok (.iload_n 3, 1) := by decide +kernel
theorem dX6_fill_46 : decode cX6_fill 46 = .ok (.if_icmp .gt 36, 3) := by decide +kernel
theorem dX6_fill_49 : decode cX6_fill 49 = .ok (.aload_n 0, 1) := by decide +kernel
theorem dX6_fill_50 : decode cX6_fill 50 = .ok (.getfield 11, 3) := by decide +kernel
theorem dX6_fill_53 : decode cX6_fill 53 = .ok (.iload 6, 2) := by decide +kernel
theorem dX6_fill_55 : decode cX6_fill 55 = .ok (.aaload, 1) := by decide +kernel
theorem dX6_fill_56 : decode cX6_fill 56 = .ok (.iload 6, 2) := by decide +kernel
theorem dX6_fill_58 : decode cX6_fill 58 = .ok (.iload 5, 2) := by decide +kernel
theorem dX6_fill_60 : decode cX6_fill 60 = .ok (.iadd, 1) := by decide +kernel
theorem dX6_fill_61 : decode cX6_fill 61 = .ok (.aload_n 0, 1) := by decide +kernel
theorem dX6_fill_62 : decode cX6_fill 62 = .ok (.aload_n 1, 1) := by decide +kernel
theorem dX6_fill_63 : decode cX6_fill 63 = .ok (.iload 6, 2) := by decide +kernel
theorem dX6_fill_65 : decode cX6_fill 65 = .ok (.iload 6, 2) := by decide +kernel
theorem dX6_fill_67 : decode cX6_fill 67 = .ok (.iload 5, 2) := by decide +kernel
theorem dX6_fill_69 : decode cX6_fill 69 = .ok (.iadd, 1) := by decide +kernel
theorem dX6_fill_70 : decode cX6_fill 70 = .ok (.iload 4, 2) := by decide +kernel
theorem dX6_fill_72 : decode cX6_fill 72 = .ok (.invokevirtual 38, 3) := by decide +kernel
theorem dX6_fill_75 : decode cX6_fill 75 = .ok (.iastore, 1) := by decide +kernel
theorem dX6_fill_76 : decode cX6_fill 76 = .ok (.iinc 6 1, 3) := by decide +kernel
theorem dX6_fill_79 : decode cX6_fill 79 = .ok (.goto (-39), 3) := by decide +kernel
theorem dX6_fill_82 : decode cX6_fill 82 = .ok (.iinc 5 1, 3) := by decide +kernel
theorem dX6_fill_85 : decode cX6_fill 85 = .ok (.goto (-56), 3) := by decide +kernel
theorem dX6_fill_88 : decode cX6_fill 88 = .ok (.return_, 1) := by decide +kernel
theorem dX6_leastOf_0 : decode cX6_leastOf 0 = .ok (.aload_n 1, 1) := by decide +kernel
theorem dX6_leastOf_1 : decode cX6_leastOf 1 = .ok (.iload_n 2, 1) := by decide +kernel
theorem dX6_leastOf_2 : decode cX6_leastOf 2 = .ok (.iload_n 3, 1) := by decide +kernel
theorem dX6_leastOf_3 : decode cX6_leastOf 3 = .ok (.invokestatic 30, 3) := by decide +kernel
theorem dX6_leastOf_6 : decode cX6_leastOf 6 = .ok (.istore 5, 2) := by decide +kernel
theorem dX6_leastOf_8 : decode cX6_leastOf 8 = .ok (.aload_n 0, 1) := by decide +kernel
theorem dX6_leastOf_9 : decode cX6_leastOf 9 = .ok (.aload_n 1, 1) := by decide +kernel
theorem dX6_leastOf_10 : decode cX6_leastOf 10 = .ok (.iload_n 2, 1) := by decide +kernel
theorem dX6_leastOf_11 : decode cX6_leastOf 11 = .ok (.iload_n 3, 1) := by decide +kernel
theorem dX6_leastOf_12 : decode cX6_leastOf 12 = .ok (.iload_n 2, 1) := by decide +kernel
theorem dX6_leastOf_13 : decode cX6_leastOf 13 = .ok (.iconst 1, 1) := by decide +kernel
theorem dX6_leastOf_14 : decode cX6_leastOf 14 = .ok (.iadd, 1) := by decide +kernel
theorem dX6_leastOf_15 : decode cX6_leastOf 15 = .ok (.iload 5, 2) := by decide +kernel
theorem dX6_leastOf_17 : decode cX6_leastOf 17 = .ok (.iload 4, 2) := by decide +kernel
theorem dX6_leastOf_19 : decode cX6_leastOf 19 = .ok (.invokevirtual 34, 3) := by decide +kernel
theorem dX6_leastOf_22 : decode cX6_leastOf 22 = .ok (.istore 6, 2) := by decide +kernel
theorem dX6_leastOf_24 : decode cX6_leastOf 24 = .ok (.iload_n 2, 1) := by decide +kernel
theorem dX6_leastOf_25 : decode cX6_leastOf 25 = .ok (.iconst 2, 1) := by decide +kernel
theorem dX6_leastOf_26 : decode cX6_leastOf 26 = .ok (.iadd, 1) := by decide +kernel
theorem dX6_leastOf_27 : decode cX6_leastOf 27 = .ok (.istore 7, 2) := by decide +kernel
theorem dX6_leastOf_29 : decode cX6_leastOf 29 = .ok (.iload 7, 2) := by decide +kernel
theorem dX6_leastOf_31 : decode cX6_leastOf 31 = .ok (.iload_n 3, 1) := by decide +kernel
theorem dX6_leastOf_32 : decode cX6_leastOf 32 = .ok (.if_icmp .gt 29, 3) := by decide +kernel
theorem dX6_leastOf_35 : decode cX6_leastOf 35 = .ok (.iload 6, 2) := by decide +kernel
theorem dX6_leastOf_37 : decode cX6_leastOf 37 = .ok (.aload_n 0, 1) := by decide +kernel
theorem dX6_leastOf_38 : decode cX6_leastOf 38 = .ok (.aload_n 1, 1) := by decide +kernel
theorem dX6_leastOf_39 : decode cX6_leastOf 39 = .ok (.iload_n 2, 1) := by decide +kernel
theorem dX6_leastOf_40 : decode cX6_leastOf 40 = .ok (.iload_n 3, 1) := by decide +kernel
theorem dX6_leastOf_41 : decode cX6_leastOf 41 = .ok (.iload 7, 2) := by decide +kernel
theorem dX6_leastOf_43 : decode cX6_leastOf 43 = .ok (.iload 5, 2) := by decide +kernel
theorem dX6_leastOf_45 : decode cX6_leastOf 45 = .ok (.iload 4, 2) := by decide +kernel
theorem dX6_leastOf_47 : decode cX6_leastOf 47 = .ok (.invokevirtual 34, 3) := by decide +kernel
theorem dX6_leastOf_50 : decode cX6_leastOf 50 = .ok (.invokestatic 41, 3) := by decide +kernel
theorem dX6_leastOf_53 : decode cX6_leastOf 53 = .ok (.istore 6, 2) := by decide +kernel
theorem dX6_leastOf_55 : decode cX6_leastOf 55 = .ok (.iinc 7 1, 3) := by decide +kernel
theorem dX6_leastOf_58 : decode cX6_leastOf 58 = .ok (.goto (-29), 3) := by decide +kernel
theorem dX6_leastOf_61 : decode cX6_leastOf 61 = .ok (.iload 6, 2) := by decide +kernel
theorem dX6_leastOf_63 : decode cX6_leastOf 63 = .ok (.ireturn, 1) := by decide +kernel
theorem dX6_costOf_0 : decode cX6_costOf 0 = .ok (.aload_n 1, 1) := by decide +kernel
theorem dX6_costOf_1 : decode cX6_costOf 1 = .ok (.getfield 47, 3) := by decide +kernel
theorem dX6_costOf_4 : decode cX6_costOf 4 = .ok (.iload 4, 2) := by decide +kernel
theorem dX6_costOf_6 : decode cX6_costOf 6 = .ok (.aaload, 1) := by decide +kernel
theorem dX6_costOf_7 : decode cX6_costOf 7 = .ok (.getfield 51, 3) := by decide +kernel
theorem dX6_costOf_10 : decode cX6_costOf 10 = .ok (.istore 7, 2) := by decide +kernel
theorem dX6_costOf_12 : decode cX6_costOf 12 = .ok (.aload_n 0, 1) := by decide +kernel
theorem dX6_costOf_13 : decode cX6_costOf 13 = .ok (.getfield 11, 3) := by decide +kernel
theorem dX6_costOf_16 : decode cX6_costOf 16 = .ok (.iload_n 2, 1) := by decide +kernel
theorem dX6_costOf_17 : decode cX6_costOf 17 = .ok (.aaload, 1) := by decide +kernel
theorem dX6_costOf_18 : decode cX6_costOf 18 = .ok (.iload 4, 2) := by decide +kernel
theorem dX6_costOf_20 : decode cX6_costOf 20 = .ok (.iconst 1, 1) := by decide +kernel
theorem dX6_costOf_21 : decode cX6_costOf 21 = .ok (.isub, 1) := by decide +kernel
theorem dX6_costOf_22 : decode cX6_costOf 22 = .ok (.iaload, 1) := by decide +kernel
theorem dX6_costOf_23 : decode cX6_costOf 23 = .ok (.istore 8, 2) := by decide +kernel
theorem dX6_costOf_25 : decode cX6_costOf 25 = .ok (.aload_n 0, 1) := by decide +kernel
theorem dX6_costOf_26 : decode cX6_costOf 26 = .ok (.getfield 11, 3) := by decide +kernel
theorem dX6_costOf_29 : decode cX6_costOf 29 = .ok (.iload 4, 2) := by decide +kernel
theorem dX6_costOf_31 : decode cX6_costOf 31 = .ok (.aaload, 1) := by decide +kernel
theorem dX6_costOf_32 : decode cX6_costOf 32 = .ok (.iload_n 3, 1) := by decide +kernel
theorem dX6_costOf_33 : decode cX6_costOf 33 = .ok (.iaload, 1) := by decide +kernel
theorem dX6_costOf_34 : decode cX6_costOf 34 = .ok (.istore 9, 2) := by decide +kernel
theorem dX6_costOf_36 : decode cX6_costOf 36 = .ok (.iload 6, 2) := by decide +kernel
theorem dX6_costOf_38 : decode cX6_costOf 38 = .ok (.ifCond .ne 15, 3) := by decide +kernel
theorem dX6_costOf_41 : decode cX6_costOf 41 = .ok (.iload 7, 2) := by decide +kernel
theorem dX6_costOf_43 : decode cX6_costOf 43 = .ok (.iload 5, 2) := by decide +kernel
theorem dX6_costOf_45 : decode cX6_costOf 45 = .ok (.imul, 1) := by decide +kernel
theorem dX6_costOf_46 : decode cX6_costOf 46 = .ok (.iload 8, 2) := by decide +kernel
theorem dX6_costOf_48 : decode cX6_costOf 48 = .ok (.iadd, 1) := by decide +kernel
theorem dX6_costOf_49 : decode cX6_costOf 49 = .ok (.iload 9, 2) := by decide +kernel
theorem dX6_costOf_51 : decode cX6_costOf 51 = .ok (.iadd, 1) := by decide +kernel
theorem dX6_costOf_52 : decode cX6_costOf 52 = .ok (.ireturn, 1) := by decide +kernel
theorem dX6_costOf_53 : decode cX6_costOf 53 = .ok (.iload 7, 2) := by decide +kernel
theorem dX6_costOf_55 : decode cX6_costOf 55 = .ok (.iload 8, 2) := by decide +kernel
theorem dX6_costOf_57 : decode cX6_costOf 57 = .ok (.iload 9, 2) := by decide +kernel
theorem dX6_costOf_59 : decode cX6_costOf 59 = .ok (.invokestatic 57, 3) := by decide +kernel
theorem dX6_costOf_62 : decode cX6_costOf 62 = .ok (.iadd, 1) := by decide +kernel
theorem dX6_costOf_63 : decode cX6_costOf 63 = .ok (.ireturn, 1) := by decide +kernel
theorem dX6_weightOf_0 : decode cX6_weightOf 0 = .ok (.iconst 0, 1) := by decide +kernel
theorem dX6_weightOf_1 : decode cX6_weightOf 1 = .ok (.istore_n 3, 1) := by decide +kernel
theorem dX6_weightOf_2 : decode cX6_weightOf 2 = .ok (.iload_n 1, 1) := by decide +kernel
theorem dX6_weightOf_3 : decode cX6_weightOf 3 = .ok (.istore 4, 2) := by decide +kernel
theorem dX6_weightOf_5 : decode cX6_weightOf 5 = .ok (.iload 4, 2) := by decide +kernel
theorem dX6_weightOf_7 : decode cX6_weightOf 7 = .ok (.iload_n 2, 1) := by decide +kernel
theorem dX6_weightOf_8 : decode cX6_weightOf 8 = .ok (.if_icmp .gt 22, 3) := by decide +kernel
theorem dX6_weightOf_11 : decode cX6_weightOf 11 = .ok (.iload_n 3, 1) := by decide +kernel
theorem dX6_weightOf_12 : decode cX6_weightOf 12 = .ok (.aload_n 0, 1) := by decide +kernel
theorem dX6_weightOf_13 : decode cX6_weightOf 13 = .ok (.getfield 47, 3) := by decide +kernel
theorem dX6_weightOf_16 : decode cX6_weightOf 16 = .ok (.iload 4, 2) := by decide +kernel
theorem dX6_weightOf_18 : decode cX6_weightOf 18 = .ok (.aaload, 1) := by decide +kernel
theorem dX6_weightOf_19 : decode cX6_weightOf 19 = .ok (.invokevirtual 60, 3) := by decide +kernel
theorem dX6_weightOf_22 : decode cX6_weightOf 22 = .ok (.iadd, 1) := by decide +kernel
theorem dX6_weightOf_23 : decode cX6_weightOf 23 = .ok (.istore_n 3, 1) := by decide +kernel
theorem dX6_weightOf_24 : decode cX6_weightOf 24 = .ok (.iinc 4 1, 3) := by decide +kernel
theorem dX6_weightOf_27 : decode cX6_weightOf 27 = .ok (.goto (-22), 3) := by decide +kernel
theorem dX6_weightOf_30 : decode cX6_weightOf 30 = .ok (.iload_n 3, 1) := by decide +kernel
theorem dX6_weightOf_31 : decode cX6_weightOf 31 = .ok (.ireturn, 1) := by decide +kernel
theorem dX7_init_0 : decode cX7_init 0 = .ok (.aload_n 0, 1) := by decide +kernel
theorem dX7_init_1 : decode cX7_init 1 = .ok (.invokespecial 1, 3) := by decide +kernel
theorem dX7_init_4 : decode cX7_init 4 = .ok (.return_, 1) := by decide +kernel
theorem dX7_read_0 : decode cX7_read 0 = .ok (.aload_n 0, 1) := by decide +kernel
theorem dX7_read_1 : decode cX7_read 1 = .ok (.iload_n 2, 1) := by decide +kernel
theorem dX7_read_2 : decode cX7_read 2 = .ok (.putfield 7, 3) := by decide +kernel
theorem dX7_read_5 : decode cX7_read 5 = .ok (.aload_n 0, 1) := by decide +kernel
theorem dX7_read_6 : decode cX7_read 6 = .ok (.iconst 1, 1) := by decide +kernel
theorem dX7_read_7 : decode cX7_read 7 = .ok (.putfield 13, 3) := by decide +kernel
theorem dX7_read_10 : decode cX7_read 10 = .ok (.aload_n 0, 1) := by decide +kernel
theorem dX7_read_11 : decode cX7_read 11 = .ok (.aload_n 1, 1) := by decide +kernel
theorem dX7_read_12 : decode cX7_read 12 = .ok (.iload_n 2, 1) := by decide +kernel
theorem dX7_read_13 : decode cX7_read 13 = .ok (.invokevirtual 17, 3) := by decide +kernel
theorem dX7_read_16 : decode cX7_read 16 = .ok (.putfield 23, 3) := by decide +kernel
theorem dX7_read_19 : decode cX7_read 19 = .ok (.aload_n 0, 1) := by decide +kernel
theorem dX7_read_20 : decode cX7_read 20 = .ok (.getfield 23, 3) := by decide +kernel
theorem dX7_read_23 : decode cX7_read 23 = .ok (.lookupswitch 177 #[(100, 114), (103, 154), (112, 41), (117, 91)], 41) := by decide +kernel
theorem dX7_read_64 : decode cX7_read 64 = .ok (.aload_n 0, 1) := by decide +kernel
theorem dX7_read_65 : decode cX7_read 65 = .ok (.dup, 1) := by decide +kernel
theorem dX7_read_66 : decode cX7_read 66 = .ok (.getfield 7, 3) := by decide +kernel
theorem dX7_read_69 : decode cX7_read 69 = .ok (.iconst 1, 1) := by decide +kernel
theorem dX7_read_70 : decode cX7_read 70 = .ok (.iadd, 1) := by decide +kernel
theorem dX7_read_71 : decode cX7_read 71 = .ok (.putfield 7, 3) := by decide +kernel
theorem dX7_read_74 : decode cX7_read 74 = .ok (.aload_n 0, 1) := by decide +kernel
theorem dX7_read_75 : decode cX7_read 75 = .ok (.aload_n 0, 1) := by decide +kernel
theorem dX7_read_76 : decode cX7_read 76 = .ok (.aload_n 1, 1) := by decide +kernel
theorem dX7_read_77 : decode cX7_read 77 = .ok (.iconst 1, 1) := by decide +kernel
theorem dX7_read_78 : decode cX7_read 78 = .ok (.invokevirtual 26, 3) := by decide +kernel
theorem dX7_read_81 : decode cX7_read 81 = .ok (.putfield 30, 3) := by decide +kernel
theorem dX7_read_84 : decode cX7_read 84 = .ok (.aload_n 0, 1) := by decide +kernel
theorem dX7_read_85 : decode cX7_read 85 = .ok (.aload_n 0, 1) := by decide +kernel
theorem dX7_read_86 : decode cX7_read 86 = .ok (.aload_n 1, 1) := by decide +kernel
theorem dX7_read_87 : decode cX7_read 87 = .ok (.iconst 2, 1) := by decide +kernel
theorem dX7_read_88 : decode cX7_read 88 = .ok (.invokevirtual 26, 3) := by decide +kernel
theorem dX7_read_91 : decode cX7_read 91 = .ok (.putfield 33, 3) := by decide +kernel
theorem dX7_read_94 : decode cX7_read 94 = .ok (.aload_n 0, 1) := by decide +kernel
theorem dX7_read_95 : decode cX7_read 95 = .ok (.aload_n 1, 1) := by decide +kernel
theorem dX7_read_96 : decode cX7_read 96 = .ok (.bipush 44, 2) := by decide +kernel
theorem dX7_read_98 : decode cX7_read 98 = .ok (.invokevirtual 36, 3) := by decide +kernel
theorem dX7_read_101 : decode cX7_read 101 = .ok (.aload_n 0, 1) := by decide +kernel
theorem dX7_read_102 : decode cX7_read 102 = .ok (.aload_n 0, 1) := by decide +kernel
theorem dX7_read_103 : decode cX7_read 103 = .ok (.aload_n 1, 1) := by decide +kernel
theorem dX7_read_104 : decode cX7_read 104 = .ok (.iconst 1, 1) := by decide +kernel
theorem dX7_read_105 : decode cX7_read 105 = .ok (.invokevirtual 26, 3) := by decide +kernel
theorem dX7_read_108 : decode cX7_read 108 = .ok (.putfield 40, 3) := by decide +kernel
theorem dX7_read_111 : decode cX7_read 111 = .ok (.goto 94, 3) := by decide +kernel
theorem dX7_read_114 : decode cX7_read 114 = .ok (.aload_n 0, 1) := by decide +kernel
theorem dX7_read_115 : decode cX7_read 115 = .ok (.dup, 1) := by decide +kernel
theorem dX7_read_116 : decode cX7_read 116 = .ok (.getfield 7, 3) := by decide +kernel
theorem dX7_read_119 : decode cX7_read 119 = .ok (.iconst 1, 1) := by decide +kernel
theorem dX7_read_120 : decode cX7_read 120 = .ok (.iadd, 1) := by decide +kernel
theorem dX7_read_121 : decode cX7_read 121 = .ok (.putfield 7, 3) := by decide +kernel
theorem dX7_read_124 : decode cX7_read 124 = .ok (.aload_n 0, 1) := by decide +kernel
theorem dX7_read_125 : decode cX7_read 125 = .ok (.aload_n 0, 1) := by decide +kernel
theorem dX7_read_126 : decode cX7_read 126 = .ok (.aload_n 1, 1) := by decide +kernel
theorem dX7_read_127 : decode cX7_read 127 = .ok (.iconst 3, 1) := by decide +kernel
theorem dX7_read_128 : decode cX7_read 128 = .ok (.invokevirtual 26, 3) := by decide +kernel
theorem dX7_read_131 : decode cX7_read 131 = .ok (.putfield 30, 3) := by decide +kernel
theorem dX7_read_134 : decode cX7_read 134 = .ok (.goto 71, 3) := by decide +kernel
theorem dX7_read_137 : decode cX7_read 137 = .ok (.aload_n 0, 1) := by decide +kernel
theorem dX7_read_138 : decode cX7_read 138 = .ok (.dup, 1) := by decide +kernel
theorem dX7_read_139 : decode cX7_read 139 = .ok (.getfield 7, 3) := by decide +kernel
theorem dX7_read_142 : decode cX7_read 142 = .ok (.iconst 1, 1) := by decide +kernel
theorem dX7_read_143 : decode cX7_read 143 = .ok (.iadd, 1) := by decide +kernel
theorem dX7_read_144 : decode cX7_read 144 = .ok (.putfield 7, 3) := by decide +kernel
theorem dX7_read_147 : decode cX7_read 147 = .ok (.aload_n 0, 1) := by decide +kernel
theorem dX7_read_148 : decode cX7_read 148 = .ok (.aload_n 0, 1) := by decide +kernel
theorem dX7_read_149 : decode cX7_read 149 = .ok (.aload_n 1, 1) := by decide +kernel
theorem dX7_read_150 : decode cX7_read 150 = .ok (.iconst 2, 1) := by decide +kernel
theorem dX7_read_151 : decode cX7_read 151 = .ok (.invokevirtual 26, 3) := by decide +kernel
theorem dX7_read_154 : decode cX7_read 154 = .ok (.putfield 30, 3) := by decide +kernel
theorem dX7_read_157 : decode cX7_read 157 = .ok (.aload_n 0, 1) := by decide +kernel
theorem dX7_read_158 : decode cX7_read 158 = .ok (.aload_n 1, 1) := by decide +kernel
theorem dX7_read_159 : decode cX7_read 159 = .ok (.bipush 44, 2) := by decide +kernel
theorem dX7_read_161 : decode cX7_read 161 = .ok (.invokevirtual 36, 3) := by decide +kernel
theorem dX7_read_164 : decode cX7_read 164 = .ok (.aload_n 0, 1) := by decide +kernel
theorem dX7_read_165 : decode cX7_read 165 = .ok (.aload_n 0, 1) := by decide +kernel
theorem dX7_read_166 : decode cX7_read 166 = .ok (.aload_n 1, 1) := by decide +kernel
theorem dX7_read_167 : decode cX7_read 167 = .ok (.iconst 1, 1) := by decide +kernel
theorem dX7_read_168 : decode cX7_read 168 = .ok (.invokevirtual 26, 3) := by decide +kernel
theorem dX7_read_171 : decode cX7_read 171 = .ok (.putfield 33, 3) := by decide +kernel
theorem dX7_read_174 : decode cX7_read 174 = .ok (.goto 31, 3) := by decide +kernel
theorem dX7_read_177 : decode cX7_read 177 = .ok (.aload_n 0, 1) := by decide +kernel
theorem dX7_read_178 : decode cX7_read 178 = .ok (.dup, 1) := by decide +kernel
theorem dX7_read_179 : decode cX7_read 179 = .ok (.getfield 7, 3) := by decide +kernel
theorem dX7_read_182 : decode cX7_read 182 = .ok (.iconst 1, 1) := by decide +kernel
theorem dX7_read_183 : decode cX7_read 183 = .ok (.iadd, 1) := by decide +kernel
theorem dX7_read_184 : decode cX7_read 184 = .ok (.putfield 7, 3) := by decide +kernel
theorem dX7_read_187 : decode cX7_read 187 = .ok (.aload_n 0, 1) := by decide +kernel
theorem dX7_read_188 : decode cX7_read 188 = .ok (.aload_n 0, 1) := by decide +kernel
theorem dX7_read_189 : decode cX7_read 189 = .ok (.aload_n 1, 1) := by decide +kernel
theorem dX7_read_190 : decode cX7_read 190 = .ok (.iconst 1, 1) := by decide +kernel
theorem dX7_read_191 : decode cX7_read 191 = .ok (.invokevirtual 26, 3) := by decide +kernel
theorem dX7_read_194 : decode cX7_read 194 = .ok (.putfield 30, 3) := by decide +kernel
theorem dX7_read_197 : decode cX7_read 197 = .ok (.goto 8, 3) := by decide +kernel
theorem dX7_read_200 : decode cX7_read 200 = .ok (.aload_n 0, 1) := by decide +kernel
theorem dX7_read_201 : decode cX7_read 201 = .ok (.iconst 0, 1) := by decide +kernel
theorem dX7_read_202 : decode cX7_read 202 = .ok (.putfield 13, 3) := by decide +kernel
theorem dX7_read_205 : decode cX7_read 205 = .ok (.aload_n 0, 1) := by decide +kernel
theorem dX7_read_206 : decode cX7_read 206 = .ok (.aload_n 1, 1) := by decide +kernel
theorem dX7_read_207 : decode cX7_read 207 = .ok (.bipush 59, 2) := by decide +kernel
theorem dX7_read_209 : decode cX7_read 209 = .ok (.invokevirtual 36, 3) := by decide +kernel
theorem dX7_read_212 : decode cX7_read 212 = .ok (.return_, 1) := by decide +kernel
theorem dX7_readSign_0 : decode cX7_readSign 0 = .ok (.aload_n 0, 1) := by decide +kernel
theorem dX7_readSign_1 : decode cX7_readSign 1 = .ok (.getfield 13, 3) := by decide +kernel
theorem dX7_readSign_4 : decode cX7_readSign 4 = .ok (.ifCond .ne 4, 3) := by decide +kernel
theorem dX7_readSign_7 : decode cX7_readSign 7 = .ok (.return_, 1) := by decide +kernel
theorem dX7_readSign_8 : decode cX7_readSign 8 = .ok (.aload_n 1, 1) := by decide +kernel
theorem dX7_readSign_9 : decode cX7_readSign 9 = .ok (.aload_n 0, 1) := by decide +kernel
theorem dX7_readSign_10 : decode cX7_readSign 10 = .ok (.getfield 7, 3) := by decide +kernel
theorem dX7_readSign_13 : decode cX7_readSign 13 = .ok (.invokevirtual 17, 3) := by decide +kernel
theorem dX7_readSign_16 : decode cX7_readSign 16 = .ok (.iload_n 2, 1) := by decide +kernel
theorem dX7_readSign_17 : decode cX7_readSign 17 = .ok (.if_icmp .ne 16, 3) := by decide +kernel
theorem dX7_readSign_20 : decode cX7_readSign 20 = .ok (.aload_n 0, 1) := by decide +kernel
theorem dX7_readSign_21 : decode cX7_readSign 21 = .ok (.dup, 1) := by decide +kernel
theorem dX7_readSign_22 : decode cX7_readSign 22 = .ok (.getfield 7, 3) := by decide +kernel
theorem dX7_readSign_25 : decode cX7_readSign 25 = .ok (.iconst 1, 1) := by decide +kernel
theorem dX7_readSign_26 : decode cX7_readSign 26 = .ok (.iadd, 1) := by decide +kernel
theorem dX7_readSign_27 : decode cX7_readSign 27 = .ok (.putfield 7, 3) := by decide +kernel
theorem dX7_readSign_30 : decode cX7_readSign 30 = .ok (.goto 8, 3) := by decide +kernel
theorem dX7_readSign_33 : decode cX7_readSign 33 = .ok (.aload_n 0, 1) := by decide +kernel
theorem dX7_readSign_34 : decode cX7_readSign 34 = .ok (.iconst 0, 1) := by decide +kernel
theorem dX7_readSign_35 : decode cX7_readSign 35 = .ok (.putfield 13, 3) := by decide +kernel
theorem dX7_readSign_38 : decode cX7_readSign 38 = .ok (.return_, 1) := by decide +kernel
theorem dX7_readNumber_0 : decode cX7_readNumber 0 = .ok (.iconst 0, 1) := by decide +kernel
theorem dX7_readNumber_1 : decode cX7_readNumber 1 = .ok (.istore_n 3, 1) := by decide +kernel
theorem dX7_readNumber_2 : decode cX7_readNumber 2 = .ok (.iconst 0, 1) := by decide +kernel
theorem dX7_readNumber_3 : decode cX7_readNumber 3 = .ok (.istore 4, 2) := by decide +kernel
theorem dX7_readNumber_5 : decode cX7_readNumber 5 = .ok (.aload_n 0, 1) := by decide +kernel
theorem dX7_readNumber_6 : decode cX7_readNumber 6 = .ok (.getfield 13, 3) := by decide +kernel
theorem dX7_readNumber_9 : decode cX7_readNumber 9 = .ok (.ifCond .eq 56, 3) := by decide +kernel
theorem dX7_readNumber_12 : decode cX7_readNumber 12 = .ok (.iload 4, 2) := by decide +kernel
theorem dX7_readNumber_14 : decode cX7_readNumber 14 = .ok (.iload_n 2, 1) := by decide +kernel
theorem dX7_readNumber_15 : decode cX7_readNumber 15 = .ok (.if_icmp .ge 50, 3) := by decide +kernel
theorem dX7_readNumber_18 : decode cX7_readNumber 18 = .ok (.aload_n 1, 1) := by decide +kernel
theorem dX7_readNumber_19 : decode cX7_readNumber 19 = .ok (.aload_n 0, 1) := by decide +kernel
theorem dX7_readNumber_20 : decode cX7_readNumber 20 = .ok (.getfield 7, 3) := by decide +kernel
theorem dX7_readNumber_23 : decode cX7_readNumber 23 = .ok (.invokevirtual 17, 3) := by decide +kernel
theorem dX7_readNumber_26 : decode cX7_readNumber 26 = .ok (.invokestatic 43, 3) := by decide +kernel
theorem dX7_readNumber_29 : decode cX7_readNumber 29 = .ok (.ifCond .eq 36, 3) := by decide +kernel
theorem dX7_readNumber_32 : decode cX7_readNumber 32 = .ok (.bipush 10, 2) := by decide +kernel
theorem dX7_readNumber_34 : decode cX7_readNumber 34 = .ok (.iload_n 3, 1) := by decide +kernel
theorem dX7_readNumber_35 : decode cX7_readNumber 35 = .ok (.imul, 1) := by decide +kernel
theorem dX7_readNumber_36 : decode cX7_readNumber 36 = .ok (.aload_n 1, 1) := by decide +kernel
theorem dX7_readNumber_37 : decode cX7_readNumber 37 = .ok (.aload_n 0, 1) := by decide +kernel
theorem dX7_readNumber_38 : decode cX7_readNumber 38 = .ok (.getfield 7, 3) := by decide +kernel
theorem dX7_readNumber_41 : decode cX7_readNumber 41 = .ok (.invokevirtual 17, 3) := by decide +kernel
theorem dX7_readNumber_44 : decode cX7_readNumber 44 = .ok (.iadd, 1) := by decide +kernel
theorem dX7_readNumber_45 : decode cX7_readNumber 45 = .ok (.bipush 48, 2) := by decide +kernel
theorem dX7_readNumber_47 : decode cX7_readNumber 47 = .ok (.isub, 1) := by decide +kernel
theorem dX7_readNumber_48 : decode cX7_readNumber 48 = .ok (.istore_n 3, 1) := by decide +kernel
theorem dX7_readNumber_49 : decode cX7_readNumber 49 = .ok (.aload_n 0, 1) := by decide +kernel
theorem dX7_readNumber_50 : decode cX7_readNumber 50 = .ok (.dup, 1) := by decide +kernel
theorem dX7_readNumber_51 : decode cX7_readNumber 51 = .ok (.getfield 7, 3) := by decide +kernel
theorem dX7_readNumber_54 : decode cX7_readNumber 54 = .ok (.iconst 1, 1) := by decide +kernel
theorem dX7_readNumber_55 : decode cX7_readNumber 55 = .ok (.iadd, 1) := by decide +kernel
theorem dX7_readNumber_56 : decode cX7_readNumber 56 = .ok (.putfield 7, 3) := by decide +kernel
theorem dX7_readNumber_59 : decode cX7_readNumber 59 = .ok (.iinc 4 1, 3) := by decide +kernel
theorem dX7_readNumber_62 : decode cX7_readNumber 62 = .ok (.goto (-57), 3) := by decide +kernel
theorem dX7_readNumber_65 : decode cX7_readNumber 65 = .ok (.iload 4, 2) := by decide +kernel
theorem dX7_readNumber_67 : decode cX7_readNumber 67 = .ok (.ifCond .ne 8, 3) := by decide +kernel
theorem dX7_readNumber_70 : decode cX7_readNumber 70 = .ok (.aload_n 0, 1) := by decide +kernel
theorem dX7_readNumber_71 : decode cX7_readNumber 71 = .ok (.iconst 0, 1) := by decide +kernel
theorem dX7_readNumber_72 : decode cX7_readNumber 72 = .ok (.putfield 13, 3) := by decide +kernel
theorem dX7_readNumber_75 : decode cX7_readNumber 75 = .ok (.iload_n 3, 1) := by decide +kernel
theorem dX7_readNumber_76 : decode cX7_readNumber 76 = .ok (.ireturn, 1) := by decide +kernel
theorem dX7_isDigit_0 : decode cX7_isDigit 0 = .ok (.iload_n 0, 1) := by decide +kernel
theorem dX7_isDigit_1 : decode cX7_isDigit 1 = .ok (.bipush 48, 2) := by decide +kernel
theorem dX7_isDigit_3 : decode cX7_isDigit 3 = .ok (.if_icmp .lt 13, 3) := by decide +kernel
theorem dX7_isDigit_6 : decode cX7_isDigit 6 = .ok (.iload_n 0, 1) := by decide +kernel
theorem dX7_isDigit_7 : decode cX7_isDigit 7 = .ok (.bipush 57, 2) := by decide +kernel
theorem dX7_isDigit_9 : decode cX7_isDigit 9 = .ok (.if_icmp .gt 7, 3) := by decide +kernel
theorem dX7_isDigit_12 : decode cX7_isDigit 12 = .ok (.iconst 1, 1) := by decide +kernel
theorem dX7_isDigit_13 : decode cX7_isDigit 13 = .ok (.goto 4, 3) := by decide +kernel
theorem dX7_isDigit_16 : decode cX7_isDigit 16 = .ok (.iconst 0, 1) := by decide +kernel
theorem dX7_isDigit_17 : decode cX7_isDigit 17 = .ok (.ireturn, 1) := by decide +kernel
theorem dX8_init_0 : decode cX8_init 0 = .ok (.aload_n 0, 1) := by decide +kernel
theorem dX8_init_1 : decode cX8_init 1 = .ok (.invokespecial 3, 3) := by decide +kernel
theorem dX8_init_4 : decode cX8_init 4 = .ok (.aload_n 0, 1) := by decide +kernel
theorem dX8_init_5 : decode cX8_init 5 = .ok (.bipush 12, 2) := by decide +kernel
theorem dX8_init_7 : decode cX8_init 7 = .ok (.newarray .int, 2) := by decide +kernel
theorem dX8_init_9 : decode cX8_init 9 = .ok (.putfield 9, 3) := by decide +kernel
theorem dX8_init_12 : decode cX8_init 12 = .ok (.return_, 1) := by decide +kernel
theorem dX8_arrange_0 : decode cX8_arrange 0 = .ok (.iconst 0, 1) := by decide +kernel
theorem dX8_arrange_1 : decode cX8_arrange 1 = .ok (.istore_n 2, 1) := by decide +kernel
theorem dX8_arrange_2 : decode cX8_arrange 2 = .ok (.iload_n 2, 1) := by decide +kernel
theorem dX8_arrange_3 : decode cX8_arrange 3 = .ok (.aload_n 1, 1) := by decide +kernel
theorem dX8_arrange_4 : decode cX8_arrange 4 = .ok (.getfield 15, 3) := by decide +kernel
theorem dX8_arrange_7 : decode cX8_arrange 7 = .ok (.if_icmp .ge 67, 3) := by decide +kernel
theorem dX8_arrange_10 : decode cX8_arrange 10 = .ok (.iload_n 2, 1) := by decide +kernel
theorem dX8_arrange_11 : decode cX8_arrange 11 = .ok (.istore_n 3, 1) := by decide +kernel
theorem dX8_arrange_12 : decode cX8_arrange 12 = .ok (.iload_n 3, 1) := by decide +kernel
theorem dX8_arrange_13 : decode cX8_arrange 13 = .ok (.ifCond .le 48, 3) := by decide +kernel
theorem dX8_arrange_16 : decode cX8_arrange 16 = .ok (.aload_n 1, 1) := by decide +kernel
theorem dX8_arrange_17 : decode cX8_arrange 17 = .ok (.getfield 21, 3) := by decide +kernel
theorem dX8_arrange_20 : decode cX8_arrange 20 = .ok (.iload_n 2, 1) := by decide +kernel
theorem dX8_arrange_21 : decode cX8_arrange 21 = .ok (.aaload, 1) := by decide +kernel
theorem dX8_arrange_22 : decode cX8_arrange 22 = .ok (.aload_n 1, 1) := by decide +kernel
theorem dX8_arrange_23 : decode cX8_arrange 23 = .ok (.getfield 21, 3) := by decide +kernel
theorem dX8_arrange_26 : decode cX8_arrange 26 = .ok (.aload_n 0, 1) := by decide +kernel
theorem dX8_arrange_27 : decode cX8_arrange 27 = .ok (.getfield 9, 3) := by decide +kernel
theorem dX8_arrange_30 : decode cX8_arrange 30 = .ok (.iload_n 3, 1) := by decide +kernel
theorem dX8_arrange_31 : decode cX8_arrange 31 = .ok (.iconst 1, 1) := by decide +kernel
theorem dX8_arrange_32 : decode cX8_arrange 32 = .ok (.isub, 1) := by decide +kernel
theorem dX8_arrange_33 : decode cX8_arrange 33 = .ok (.iaload, 1) := by decide +kernel
theorem dX8_arrange_34 : decode cX8_arrange 34 = .ok (.aaload, 1) := by decide +kernel
theorem dX8_arrange_35 : decode cX8_arrange 35 = .ok (.invokestatic 25, 3) := by decide +kernel
theorem dX8_arrange_38 : decode cX8_arrange 38 = .ok (.ifCond .eq 23, 3) := by decide +kernel
theorem dX8_arrange_41 : decode cX8_arrange 41 = .ok (.aload_n 0, 1) := by decide +kernel
theorem dX8_arrange_42 : decode cX8_arrange 42 = .ok (.getfield 9, 3) := by decide +kernel
theorem dX8_arrange_45 : decode cX8_arrange 45 = .ok (.iload_n 3, 1) := by decide +kernel
theorem dX8_arrange_46 : decode cX8_arrange 46 = .ok (.aload_n 0, 1) := by decide +kernel
theorem dX8_arrange_47 : decode cX8_arrange 47 = .ok (.getfield 9, 3) := by decide +kernel
theorem dX8_arrange_50 : decode cX8_arrange 50 = .ok (.iload_n 3, 1) := by decide +kernel
theorem dX8_arrange_51 : decode cX8_arrange 51 = .ok (.iconst 1, 1) := by decide +kernel
theorem dX8_arrange_52 : decode cX8_arrange 52 = .ok (.isub, 1) := by decide +kernel
theorem dX8_arrange_53 : decode cX8_arrange 53 = .ok (.iaload, 1) := by decide +kernel
theorem dX8_arrange_54 : decode cX8_arrange 54 = .ok (.iastore, 1) := by decide +kernel
theorem dX8_arrange_55 : decode cX8_arrange 55 = .ok (.iinc 3 (-1), 3) := by decide +kernel
theorem dX8_arrange_58 : decode cX8_arrange 58 = .ok (.goto (-46), 3) := by decide +kernel
theorem dX8_arrange_61 : decode cX8_arrange 61 = .ok (.aload_n 0, 1) := by decide +kernel
theorem dX8_arrange_62 : decode cX8_arrange 62 = .ok (.getfield 9, 3) := by decide +kernel
theorem dX8_arrange_65 : decode cX8_arrange 65 = .ok (.iload_n 3, 1) := by decide +kernel
theorem dX8_arrange_66 : decode cX8_arrange 66 = .ok (.iload_n 2, 1) := by decide +kernel
theorem dX8_arrange_67 : decode cX8_arrange 67 = .ok (.iastore, 1) := by decide +kernel
theorem dX8_arrange_68 : decode cX8_arrange 68 = .ok (.iinc 2 1, 3) := by decide +kernel
theorem dX8_arrange_71 : decode cX8_arrange 71 = .ok (.goto (-69), 3) := by decide +kernel
theorem dX8_arrange_74 : decode cX8_arrange 74 = .ok (.return_, 1) := by decide +kernel
theorem dX8_comesFirst_0 : decode cX8_comesFirst 0 = .ok (.aload_n 0, 1) := by decide +kernel
theorem dX8_comesFirst_1 : decode cX8_comesFirst 1 = .ok (.getfield 29, 3) := by decide +kernel
theorem dX8_comesFirst_4 : decode cX8_comesFirst 4 = .ok (.aload_n 1, 1) := by decide +kernel
theorem dX8_comesFirst_5 : decode cX8_comesFirst 5 = .ok (.invokevirtual 34, 3) := by decide +kernel
theorem dX8_comesFirst_8 : decode cX8_comesFirst 8 = .ok (.imul, 1) := by decide +kernel
theorem dX8_comesFirst_9 : decode cX8_comesFirst 9 = .ok (.aload_n 1, 1) := by decide +kernel
theorem dX8_comesFirst_10 : decode cX8_comesFirst 10 = .ok (.getfield 29, 3) := by decide +kernel
theorem dX8_comesFirst_13 : decode cX8_comesFirst 13 = .ok (.aload_n 0, 1) := by decide +kernel
theorem dX8_comesFirst_14 : decode cX8_comesFirst 14 = .ok (.invokevirtual 34, 3) := by decide +kernel
theorem dX8_comesFirst_17 : decode cX8_comesFirst 17 = .ok (.imul, 1) := by decide +kernel
theorem dX8_comesFirst_18 : decode cX8_comesFirst 18 = .ok (.if_icmp .ge 7, 3) := by decide +kernel
theorem dX8_comesFirst_21 : decode cX8_comesFirst 21 = .ok (.iconst 1, 1) := by decide +kernel
theorem dX8_comesFirst_22 : decode cX8_comesFirst 22 = .ok (.goto 4, 3) := by decide +kernel
theorem dX8_comesFirst_25 : decode cX8_comesFirst 25 = .ok (.iconst 0, 1) := by decide +kernel
theorem dX8_comesFirst_26 : decode cX8_comesFirst 26 = .ok (.ireturn, 1) := by decide +kernel
theorem dX8_cost_0 : decode cX8_cost 0 = .ok (.iconst 0, 1) := by decide +kernel
theorem dX8_cost_1 : decode cX8_cost 1 = .ok (.istore_n 2, 1) := by decide +kernel
theorem dX8_cost_2 : decode cX8_cost 2 = .ok (.iconst 0, 1) := by decide +kernel
theorem dX8_cost_3 : decode cX8_cost 3 = .ok (.istore_n 3, 1) := by decide +kernel
theorem dX8_cost_4 : decode cX8_cost 4 = .ok (.iconst 0, 1) := by decide +kernel
theorem dX8_cost_5 : decode cX8_cost 5 = .ok (.istore 4, 2) := by decide +kernel
theorem dX8_cost_7 : decode cX8_cost 7 = .ok (.iload 4, 2) := by decide +kernel
theorem dX8_cost_9 : decode cX8_cost 9 = .ok (.aload_n 1, 1) := by decide +kernel
theorem dX8_cost_10 : decode cX8_cost 10 = .ok (.getfield 15, 3) := by decide +kernel
theorem dX8_cost_13 : decode cX8_cost 13 = .ok (.if_icmp .ge 41, 3) := by decide +kernel
theorem dX8_cost_16 : decode cX8_cost 16 = .ok (.aload_n 1, 1) := by decide +kernel
theorem dX8_cost_17 : decode cX8_cost 17 = .ok (.getfield 21, 3) := by decide +kernel
theorem dX8_cost_20 : decode cX8_cost 20 = .ok (.aload_n 0, 1) := by decide +kernel
theorem dX8_cost_21 : decode cX8_cost 21 = .ok (.getfield 9, 3) := by decide +kernel
theorem dX8_cost_24 : decode cX8_cost 24 = .ok (.iload 4, 2) := by decide +kernel
theorem dX8_cost_26 : decode cX8_cost 26 = .ok (.iaload, 1) := by decide +kernel
theorem dX8_cost_27 : decode cX8_cost 27 = .ok (.aaload, 1) := by decide +kernel
theorem dX8_cost_28 : decode cX8_cost 28 = .ok (.astore 5, 2) := by decide +kernel
theorem dX8_cost_30 : decode cX8_cost 30 = .ok (.iload_n 2, 1) := by decide +kernel
theorem dX8_cost_31 : decode cX8_cost 31 = .ok (.aload 5, 2) := by decide +kernel
theorem dX8_cost_33 : decode cX8_cost 33 = .ok (.getfield 29, 3) := by decide +kernel
theorem dX8_cost_36 : decode cX8_cost 36 = .ok (.iadd, 1) := by decide +kernel
theorem dX8_cost_37 : decode cX8_cost 37 = .ok (.istore_n 2, 1) := by decide +kernel
theorem dX8_cost_38 : decode cX8_cost 38 = .ok (.iload_n 3, 1) := by decide +kernel
theorem dX8_cost_39 : decode cX8_cost 39 = .ok (.aload 5, 2) := by decide +kernel
theorem dX8_cost_41 : decode cX8_cost 41 = .ok (.invokevirtual 34, 3) := by decide +kernel
theorem dX8_cost_44 : decode cX8_cost 44 = .ok (.iload_n 2, 1) := by decide +kernel
theorem dX8_cost_45 : decode cX8_cost 45 = .ok (.imul, 1) := by decide +kernel
theorem dX8_cost_46 : decode cX8_cost 46 = .ok (.iadd, 1) := by decide +kernel
theorem dX8_cost_47 : decode cX8_cost 47 = .ok (.istore_n 3, 1) := by decide +kernel
theorem dX8_cost_48 : decode cX8_cost 48 = .ok (.iinc 4 1, 3) := by decide +kernel
theorem dX8_cost_51 : decode cX8_cost 51 = .ok (.goto (-44), 3) := by decide +kernel
theorem dX8_cost_54 : decode cX8_cost 54 = .ok (.iload_n 3, 1) := by decide +kernel
theorem dX8_cost_55 : decode cX8_cost 55 = .ok (.ireturn, 1) := by decide +kernel
theorem dX9_init_0 : decode cX9_init 0 = .ok (.aload_n 0, 1) := by decide +kernel
theorem dX9_init_1 : decode cX9_init 1 = .ok (.invokespecial 1, 3) := by decide +kernel
theorem dX9_init_4 : decode cX9_init 4 = .ok (.aload_n 0, 1) := by decide +kernel
theorem dX9_init_5 : decode cX9_init 5 = .ok (.new 7, 3) := by decide +kernel
theorem dX9_init_8 : decode cX9_init 8 = .ok (.dup, 1) := by decide +kernel
theorem dX9_init_9 : decode cX9_init 9 = .ok (.invokespecial 9, 3) := by decide +kernel
theorem dX9_init_12 : decode cX9_init 12 = .ok (.putfield 10, 3) := by decide +kernel
theorem dX9_init_15 : decode cX9_init 15 = .ok (.aload_n 0, 1) := by decide +kernel
theorem dX9_init_16 : decode cX9_init 16 = .ok (.new 7, 3) := by decide +kernel
theorem dX9_init_19 : decode cX9_init 19 = .ok (.dup, 1) := by decide +kernel
theorem dX9_init_20 : decode cX9_init 20 = .ok (.invokespecial 9, 3) := by decide +kernel
theorem dX9_init_23 : decode cX9_init 23 = .ok (.putfield 16, 3) := by decide +kernel
theorem dX9_init_26 : decode cX9_init 26 = .ok (.aload_n 0, 1) := by decide +kernel
theorem dX9_init_27 : decode cX9_init 27 = .ok (.new 19, 3) := by decide +kernel
theorem dX9_init_30 : decode cX9_init 30 = .ok (.dup, 1) := by decide +kernel
theorem dX9_init_31 : decode cX9_init 31 = .ok (.invokespecial 21, 3) := by decide +kernel
theorem dX9_init_34 : decode cX9_init 34 = .ok (.putfield 22, 3) := by decide +kernel
theorem dX9_init_37 : decode cX9_init 37 = .ok (.aload_n 0, 1) := by decide +kernel
theorem dX9_init_38 : decode cX9_init 38 = .ok (.new 26, 3) := by decide +kernel
theorem dX9_init_41 : decode cX9_init 41 = .ok (.dup, 1) := by decide +kernel
theorem dX9_init_42 : decode cX9_init 42 = .ok (.invokespecial 28, 3) := by decide +kernel
theorem dX9_init_45 : decode cX9_init 45 = .ok (.putfield 29, 3) := by decide +kernel
theorem dX9_init_48 : decode cX9_init 48 = .ok (.aload_n 0, 1) := by decide +kernel
theorem dX9_init_49 : decode cX9_init 49 = .ok (.new 33, 3) := by decide +kernel
theorem dX9_init_52 : decode cX9_init 52 = .ok (.dup, 1) := by decide +kernel
theorem dX9_init_53 : decode cX9_init 53 = .ok (.invokespecial 35, 3) := by decide +kernel
theorem dX9_init_56 : decode cX9_init 56 = .ok (.putfield 36, 3) := by decide +kernel
theorem dX9_init_59 : decode cX9_init 59 = .ok (.aload_n 0, 1) := by decide +kernel
theorem dX9_init_60 : decode cX9_init 60 = .ok (.new 40, 3) := by decide +kernel
theorem dX9_init_63 : decode cX9_init 63 = .ok (.dup, 1) := by decide +kernel
theorem dX9_init_64 : decode cX9_init 64 = .ok (.invokespecial 42, 3) := by decide +kernel
theorem dX9_init_67 : decode cX9_init 67 = .ok (.putfield 43, 3) := by decide +kernel
theorem dX9_init_70 : decode cX9_init 70 = .ok (.aload_n 0, 1) := by decide +kernel
theorem dX9_init_71 : decode cX9_init 71 = .ok (.new 47, 3) := by decide +kernel
theorem dX9_init_74 : decode cX9_init 74 = .ok (.dup, 1) := by decide +kernel
theorem dX9_init_75 : decode cX9_init 75 = .ok (.invokespecial 49, 3) := by decide +kernel
theorem dX9_init_78 : decode cX9_init 78 = .ok (.putfield 50, 3) := by decide +kernel
theorem dX9_init_81 : decode cX9_init 81 = .ok (.aload_n 0, 1) := by decide +kernel
theorem dX9_init_82 : decode cX9_init 82 = .ok (.new 54, 3) := by decide +kernel
theorem dX9_init_85 : decode cX9_init 85 = .ok (.dup, 1) := by decide +kernel
theorem dX9_init_86 : decode cX9_init 86 = .ok (.invokespecial 56, 3) := by decide +kernel
theorem dX9_init_89 : decode cX9_init 89 = .ok (.putfield 57, 3) := by decide +kernel
theorem dX9_init_92 : decode cX9_init 92 = .ok (.aload_n 0, 1) := by decide +kernel
theorem dX9_init_93 : decode cX9_init 93 = .ok (.bipush 6, 2) := by decide +kernel
theorem dX9_init_95 : decode cX9_init 95 = .ok (.newarray .int, 2) := by decide +kernel
theorem dX9_init_97 : decode cX9_init 97 = .ok (.putfield 61, 3) := by decide +kernel
theorem dX9_init_100 : decode cX9_init 100 = .ok (.return_, 1) := by decide +kernel
theorem dX9_feed_0 : decode cX9_feed 0 = .ok (.iload_n 1, 1) := by decide +kernel
theorem dX9_feed_1 : decode cX9_feed 1 = .ok (.ifCond .ge 10, 3) := by decide +kernel
theorem dX9_feed_4 : decode cX9_feed 4 = .ok (.aload_n 0, 1) := by decide +kernel
theorem dX9_feed_5 : decode cX9_feed 5 = .ok (.bipush (-4), 2) := by decide +kernel
theorem dX9_feed_7 : decode cX9_feed 7 = .ok (.invokevirtual 65, 3) := by decide +kernel
theorem dX9_feed_10 : decode cX9_feed 10 = .ok (.ireturn, 1) := by decide +kernel
theorem dX9_feed_11 : decode cX9_feed 11 = .ok (.iload_n 1, 1) := by decide +kernel
theorem dX9_feed_12 : decode cX9_feed 12 = .ok (.sipush 255, 3) := by decide +kernel
theorem dX9_feed_15 : decode cX9_feed 15 = .ok (.if_icmp .gt 15, 3) := by decide +kernel
theorem dX9_feed_18 : decode cX9_feed 18 = .ok (.aload_n 0, 1) := by decide +kernel
theorem dX9_feed_19 : decode cX9_feed 19 = .ok (.getfield 29, 3) := by decide +kernel
theorem dX9_feed_22 : decode cX9_feed 22 = .ok (.getfield 69, 3) := by decide +kernel
theorem dX9_feed_25 : decode cX9_feed 25 = .ok (.bipush 64, 2) := by decide +kernel
theorem dX9_feed_27 : decode cX9_feed 27 = .ok (.if_icmp .lt 10, 3) := by decide +kernel
theorem dX9_feed_30 : decode cX9_feed 30 = .ok (.aload_n 0, 1) := by decide +kernel
theorem dX9_feed_31 : decode cX9_feed 31 = .ok (.bipush (-6), 2) := by decide +kernel
theorem dX9_feed_33 : decode cX9_feed 33 = .ok (.invokevirtual 65, 3) := by decide +kernel
theorem dX9_feed_36 : decode cX9_feed 36 = .ok (.ireturn, 1) := by decide +kernel
theorem dX9_feed_37 : decode cX9_feed 37 = .ok (.aload_n 0, 1) := by decide +kernel
theorem dX9_feed_38 : decode cX9_feed 38 = .ok (.getfield 29, 3) := by decide +kernel
theorem dX9_feed_41 : decode cX9_feed 41 = .ok (.iload_n 1, 1) := by decide +kernel
theorem dX9_feed_42 : decode cX9_feed 42 = .ok (.invokevirtual 73, 3) := by decide +kernel
theorem dX9_feed_45 : decode cX9_feed 45 = .ok (.aload_n 0, 1) := by decide +kernel
theorem dX9_feed_46 : decode cX9_feed 46 = .ok (.getfield 29, 3) := by decide +kernel
theorem dX9_feed_49 : decode cX9_feed 49 = .ok (.getfield 69, 3) := by decide +kernel
theorem dX9_feed_52 : decode cX9_feed 52 = .ok (.ireturn, 1) := by decide +kernel
theorem dX9_string_0 : decode cX9_string 0 = .ok (.aload_n 0, 1) := by decide +kernel
theorem dX9_string_1 : decode cX9_string 1 = .ok (.invokevirtual 77, 3) := by decide +kernel
theorem dX9_string_4 : decode cX9_string 4 = .ok (.istore_n 1, 1) := by decide +kernel
theorem dX9_string_5 : decode cX9_string 5 = .ok (.iload_n 1, 1) := by decide +kernel
theorem dX9_string_6 : decode cX9_string 6 = .ok (.ifCond .lt 38, 3) := by decide +kernel
theorem dX9_string_9 : decode cX9_string 9 = .ok (.aload_n 0, 1) := by decide +kernel
theorem dX9_string_10 : decode cX9_string 10 = .ok (.getfield 22, 3) := by decide +kernel
theorem dX9_string_13 : decode cX9_string 13 = .ok (.aload_n 0, 1) := by decide +kernel
theorem dX9_string_14 : decode cX9_string 14 = .ok (.getfield 10, 3) := by decide +kernel
theorem dX9_string_17 : decode cX9_string 17 = .ok (.invokevirtual 81, 3) := by decide +kernel
theorem dX9_string_20 : decode cX9_string 20 = .ok (.astore_n 2, 1) := by decide +kernel
theorem dX9_string_21 : decode cX9_string 21 = .ok (.aload_n 0, 1) := by decide +kernel
theorem dX9_string_22 : decode cX9_string 22 = .ok (.aload_n 2, 1) := by decide +kernel
theorem dX9_string_23 : decode cX9_string 23 = .ok (.invokevirtual 85, 3) := by decide +kernel
theorem dX9_string_26 : decode cX9_string 26 = .ok (.istore_n 3, 1) := by decide +kernel
theorem dX9_string_27 : decode cX9_string 27 = .ok (.iload_n 3, 1) := by decide +kernel
theorem dX9_string_28 : decode cX9_string 28 = .ok (.ifCond .ge 8, 3) := by decide +kernel
theorem dX9_string_31 : decode cX9_string 31 = .ok (.iload_n 3, 1) := by decide +kernel
theorem dX9_string_32 : decode cX9_string 32 = .ok (.istore_n 1, 1) := by decide +kernel
theorem dX9_string_33 : decode cX9_string 33 = .ok (.goto 11, 3) := by decide +kernel
theorem dX9_string_36 : decode cX9_string 36 = .ok (.aload_n 0, 1) := by decide +kernel
theorem dX9_string_37 : decode cX9_string 37 = .ok (.getfield 10, 3) := by decide +kernel
theorem dX9_string_40 : decode cX9_string 40 = .ok (.aload_n 2, 1) := by decide +kernel
theorem dX9_string_41 : decode cX9_string 41 = .ok (.invokevirtual 89, 3) := by decide +kernel
theorem dX9_string_44 : decode cX9_string 44 = .ok (.aload_n 0, 1) := by decide +kernel
theorem dX9_string_45 : decode cX9_string 45 = .ok (.getfield 29, 3) := by decide +kernel
theorem dX9_string_48 : decode cX9_string 48 = .ok (.iconst 0, 1) := by decide +kernel
theorem dX9_string_49 : decode cX9_string 49 = .ok (.putfield 69, 3) := by decide +kernel
theorem dX9_string_52 : decode cX9_string 52 = .ok (.iload_n 1, 1) := by decide +kernel
theorem dX9_string_53 : decode cX9_string 53 = .ok (.ireturn, 1) := by decide +kernel
theorem dX9_lamp_0 : decode cX9_lamp 0 = .ok (.aload_n 0, 1) := by decide +kernel
theorem dX9_lamp_1 : decode cX9_lamp 1 = .ok (.getfield 10, 3) := by decide +kernel
theorem dX9_lamp_4 : decode cX9_lamp 4 = .ok (.iload_n 1, 1) := by decide +kernel
theorem dX9_lamp_5 : decode cX9_lamp 5 = .ok (.invokevirtual 93, 3) := by decide +kernel
theorem dX9_lamp_8 : decode cX9_lamp 8 = .ok (.ifCond .ne 9, 3) := by decide +kernel
theorem dX9_lamp_11 : decode cX9_lamp 11 = .ok (.aload_n 0, 1) := by decide +kernel
theorem dX9_lamp_12 : decode cX9_lamp 12 = .ok (.iconst (-1), 1) := by decide +kernel
theorem dX9_lamp_13 : decode cX9_lamp 13 = .ok (.invokevirtual 65, 3) := by decide +kernel
theorem dX9_lamp_16 : decode cX9_lamp 16 = .ok (.ireturn, 1) := by decide +kernel
theorem dX9_lamp_17 : decode cX9_lamp 17 = .ok (.aload_n 0, 1) := by decide +kernel
theorem dX9_lamp_18 : decode cX9_lamp 18 = .ok (.getfield 10, 3) := by decide +kernel
theorem dX9_lamp_21 : decode cX9_lamp 21 = .ok (.getfield 97, 3) := by decide +kernel
theorem dX9_lamp_24 : decode cX9_lamp 24 = .ok (.iload_n 1, 1) := by decide +kernel
theorem dX9_lamp_25 : decode cX9_lamp 25 = .ok (.aaload, 1) := by decide +kernel
theorem dX9_lamp_26 : decode cX9_lamp 26 = .ok (.astore_n 3, 1) := by decide +kernel
theorem dX9_lamp_27 : decode cX9_lamp 27 = .ok (.iload_n 2, 1) := by decide +kernel
theorem dX9_lamp_28 : decode cX9_lamp 28 = .ok (.tableswitch 95 0 7 #[48, 53, 58, 63, 68, 73, 78, 90], 48) := by decide +kernel
theorem dX9_lamp_76 : decode cX9_lamp 76 = .ok (.aload_n 3, 1) := by decide +kernel
theorem dX9_lamp_77 : decode cX9_lamp 77 = .ok (.getfield 101, 3) := by decide +kernel
theorem dX9_lamp_80 : decode cX9_lamp 80 = .ok (.ireturn, 1) := by decide +kernel
theorem dX9_lamp_81 : decode cX9_lamp 81 = .ok (.aload_n 3, 1) := by decide +kernel
theorem dX9_lamp_82 : decode cX9_lamp 82 = .ok (.getfield 106, 3) := by decide +kernel
theorem dX9_lamp_85 : decode cX9_lamp 85 = .ok (.ireturn, 1) := by decide +kernel
theorem dX9_lamp_86 : decode cX9_lamp 86 = .ok (.aload_n 3, 1) := by decide +kernel
theorem dX9_lamp_87 : decode cX9_lamp 87 = .ok (.getfield 109, 3) := by decide +kernel
theorem dX9_lamp_90 : decode cX9_lamp 90 = .ok (.ireturn, 1) := by decide +kernel
theorem dX9_lamp_91 : decode cX9_lamp 91 = .ok (.aload_n 3, 1) := by decide +kernel
theorem dX9_lamp_92 : decode cX9_lamp 92 = .ok (.getfield 112, 3) := by decide +kernel
theorem dX9_lamp_95 : decode cX9_lamp 95 = .ok (.ireturn, 1) := by decide +kernel
theorem dX9_lamp_96 : decode cX9_lamp 96 = .ok (.aload_n 3, 1) := by decide +kernel
theorem dX9_lamp_97 : decode cX9_lamp 97 = .ok (.getfield 115, 3) := by decide +kernel
end
section
theorem dX9_lamp_100 : decode cX9_lamp 100 = .ok (.ireturn, 1) := by decide +kernel
theorem dX9_lamp_101 : decode cX9_lamp 101 = .ok (.aload_n 3, 1) := by decide +kernel
theorem dX9_lamp_102 : decode cX9_lamp 102 = .ok (.invokevirtual 118, 3) := by decide +kernel
theorem dX9_lamp_105 : decode cX9_lamp 105 = .ok (.ireturn, 1) := by decide +kernel
theorem dX9_lamp_106 : decode cX9_lamp 106 = .ok (.aload_n 3, 1) := by decide +kernel
theorem dX9_lamp_107 : decode cX9_lamp 107 = .ok (.aload_n 0, 1) := by decide +kernel
theorem dX9_lamp_108 : decode cX9_lamp 108 = .ok (.getfield 10, 3) := by decide +kernel
theorem dX9_lamp_111 : decode cX9_lamp 111 = .ok (.invokevirtual 121, 3) := by decide +kernel
theorem dX9_lamp_114 : decode cX9_lamp 114 = .ok (.invokevirtual 124, 3) := by decide +kernel
theorem dX9_lamp_117 : decode cX9_lamp 117 = .ok (.ireturn, 1) := by decide +kernel
theorem dX9_lamp_118 : decode cX9_lamp 118 = .ok (.aload_n 3, 1) := by decide +kernel
theorem dX9_lamp_119 : decode cX9_lamp 119 = .ok (.invokevirtual 127, 3) := by decide +kernel
theorem dX9_lamp_122 : decode cX9_lamp 122 = .ok (.ireturn, 1) := by decide +kernel
theorem dX9_lamp_123 : decode cX9_lamp 123 = .ok (.aload_n 0, 1) := by decide +kernel
theorem dX9_lamp_124 : decode cX9_lamp 124 = .ok (.bipush (-2), 2) := by decide +kernel
theorem dX9_lamp_126 : decode cX9_lamp 126 = .ok (.invokevirtual 65, 3) := by decide +kernel
theorem dX9_lamp_129 : decode cX9_lamp 129 = .ok (.ireturn, 1) := by decide +kernel
theorem dX9_set_0 : decode cX9_set 0 = .ok (.iload_n 1, 1) := by decide +kernel
theorem dX9_set_1 : decode cX9_set 1 = .ok (.ifCond .lt 8, 3) := by decide +kernel
theorem dX9_set_4 : decode cX9_set 4 = .ok (.iload_n 1, 1) := by decide +kernel
theorem dX9_set_5 : decode cX9_set 5 = .ok (.iconst 3, 1) := by decide +kernel
theorem dX9_set_6 : decode cX9_set 6 = .ok (.if_icmp .le 10, 3) := by decide +kernel
theorem dX9_set_9 : decode cX9_set 9 = .ok (.aload_n 0, 1) := by decide +kernel
theorem dX9_set_10 : decode cX9_set 10 = .ok (.bipush (-2), 2) := by decide +kernel
theorem dX9_set_12 : decode cX9_set 12 = .ok (.invokevirtual 65, 3) := by decide +kernel
theorem dX9_set_15 : decode cX9_set 15 = .ok (.ireturn, 1) := by decide +kernel
theorem dX9_set_16 : decode cX9_set 16 = .ok (.iload_n 2, 1) := by decide +kernel
theorem dX9_set_17 : decode cX9_set 17 = .ok (.getstatic 130, 3) := by decide +kernel
theorem dX9_set_20 : decode cX9_set 20 = .ok (.iload_n 1, 1) := by decide +kernel
theorem dX9_set_21 : decode cX9_set 21 = .ok (.iaload, 1) := by decide +kernel
theorem dX9_set_22 : decode cX9_set 22 = .ok (.if_icmp .ge 10, 3) := by decide +kernel
theorem dX9_set_25 : decode cX9_set 25 = .ok (.aload_n 0, 1) := by decide +kernel
theorem dX9_set_26 : decode cX9_set 26 = .ok (.bipush (-4), 2) := by decide +kernel
theorem dX9_set_28 : decode cX9_set 28 = .ok (.invokevirtual 65, 3) := by decide +kernel
theorem dX9_set_31 : decode cX9_set 31 = .ok (.ireturn, 1) := by decide +kernel
theorem dX9_set_32 : decode cX9_set 32 = .ok (.iload_n 2, 1) := by decide +kernel
theorem dX9_set_33 : decode cX9_set 33 = .ok (.getstatic 133, 3) := by decide +kernel
theorem dX9_set_36 : decode cX9_set 36 = .ok (.iload_n 1, 1) := by decide +kernel
theorem dX9_set_37 : decode cX9_set 37 = .ok (.iaload, 1) := by decide +kernel
theorem dX9_set_38 : decode cX9_set 38 = .ok (.if_icmp .le 10, 3) := by decide +kernel
theorem dX9_set_41 : decode cX9_set 41 = .ok (.aload_n 0, 1) := by decide +kernel
theorem dX9_set_42 : decode cX9_set 42 = .ok (.bipush (-6), 2) := by decide +kernel
theorem dX9_set_44 : decode cX9_set 44 = .ok (.invokevirtual 65, 3) := by decide +kernel
theorem dX9_set_47 : decode cX9_set 47 = .ok (.ireturn, 1) := by decide +kernel
theorem dX9_set_48 : decode cX9_set 48 = .ok (.aload_n 0, 1) := by decide +kernel
theorem dX9_set_49 : decode cX9_set 49 = .ok (.getfield 10, 3) := by decide +kernel
theorem dX9_set_52 : decode cX9_set 52 = .ok (.getfield 136, 3) := by decide +kernel
theorem dX9_set_55 : decode cX9_set 55 = .ok (.iload_n 1, 1) := by decide +kernel
theorem dX9_set_56 : decode cX9_set 56 = .ok (.iaload, 1) := by decide +kernel
theorem dX9_set_57 : decode cX9_set 57 = .ok (.istore_n 3, 1) := by decide +kernel
theorem dX9_set_58 : decode cX9_set 58 = .ok (.aload_n 0, 1) := by decide +kernel
theorem dX9_set_59 : decode cX9_set 59 = .ok (.getfield 10, 3) := by decide +kernel
theorem dX9_set_62 : decode cX9_set 62 = .ok (.getfield 136, 3) := by decide +kernel
theorem dX9_set_65 : decode cX9_set 65 = .ok (.iload_n 1, 1) := by decide +kernel
theorem dX9_set_66 : decode cX9_set 66 = .ok (.iload_n 2, 1) := by decide +kernel
theorem dX9_set_67 : decode cX9_set 67 = .ok (.iastore, 1) := by decide +kernel
theorem dX9_set_68 : decode cX9_set 68 = .ok (.iload_n 3, 1) := by decide +kernel
theorem dX9_set_69 : decode cX9_set 69 = .ok (.ireturn, 1) := by decide +kernel
theorem dX9_flow_0 : decode cX9_flow 0 = .ok (.aload_n 0, 1) := by decide +kernel
theorem dX9_flow_1 : decode cX9_flow 1 = .ok (.getfield 10, 3) := by decide +kernel
theorem dX9_flow_4 : decode cX9_flow 4 = .ok (.invokevirtual 121, 3) := by decide +kernel
theorem dX9_flow_7 : decode cX9_flow 7 = .ok (.ireturn, 1) := by decide +kernel
theorem dX9_hour_0 : decode cX9_hour 0 = .ok (.aload_n 0, 1) := by decide +kernel
theorem dX9_hour_1 : decode cX9_hour 1 = .ok (.getfield 10, 3) := by decide +kernel
theorem dX9_hour_4 : decode cX9_hour 4 = .ok (.getfield 139, 3) := by decide +kernel
theorem dX9_hour_7 : decode cX9_hour 7 = .ok (.sipush 9999, 3) := by decide +kernel
theorem dX9_hour_10 : decode cX9_hour 10 = .ok (.if_icmp .lt 10, 3) := by decide +kernel
theorem dX9_hour_13 : decode cX9_hour 13 = .ok (.aload_n 0, 1) := by decide +kernel
theorem dX9_hour_14 : decode cX9_hour 14 = .ok (.bipush (-6), 2) := by decide +kernel
theorem dX9_hour_16 : decode cX9_hour 16 = .ok (.invokevirtual 65, 3) := by decide +kernel
theorem dX9_hour_19 : decode cX9_hour 19 = .ok (.ireturn, 1) := by decide +kernel
theorem dX9_hour_20 : decode cX9_hour 20 = .ok (.aload_n 0, 1) := by decide +kernel
theorem dX9_hour_21 : decode cX9_hour 21 = .ok (.getfield 10, 3) := by decide +kernel
theorem dX9_hour_24 : decode cX9_hour 24 = .ok (.invokevirtual 142, 3) := by decide +kernel
theorem dX9_hour_27 : decode cX9_hour 27 = .ok (.ireturn, 1) := by decide +kernel
theorem dX9_swap_0 : decode cX9_swap 0 = .ok (.aload_n 0, 1) := by decide +kernel
theorem dX9_swap_1 : decode cX9_swap 1 = .ok (.getfield 10, 3) := by decide +kernel
theorem dX9_swap_4 : decode cX9_swap 4 = .ok (.iload_n 1, 1) := by decide +kernel
theorem dX9_swap_5 : decode cX9_swap 5 = .ok (.invokevirtual 93, 3) := by decide +kernel
theorem dX9_swap_8 : decode cX9_swap 8 = .ok (.ifCond .ne 9, 3) := by decide +kernel
theorem dX9_swap_11 : decode cX9_swap 11 = .ok (.aload_n 0, 1) := by decide +kernel
theorem dX9_swap_12 : decode cX9_swap 12 = .ok (.iconst (-1), 1) := by decide +kernel
theorem dX9_swap_13 : decode cX9_swap 13 = .ok (.invokevirtual 65, 3) := by decide +kernel
theorem dX9_swap_16 : decode cX9_swap 16 = .ok (.ireturn, 1) := by decide +kernel
theorem dX9_swap_17 : decode cX9_swap 17 = .ok (.aload_n 0, 1) := by decide +kernel
theorem dX9_swap_18 : decode cX9_swap 18 = .ok (.getfield 10, 3) := by decide +kernel
theorem dX9_swap_21 : decode cX9_swap 21 = .ok (.getfield 136, 3) := by decide +kernel
theorem dX9_swap_24 : decode cX9_swap 24 = .ok (.iconst 1, 1) := by decide +kernel
theorem dX9_swap_25 : decode cX9_swap 25 = .ok (.iaload, 1) := by decide +kernel
theorem dX9_swap_26 : decode cX9_swap 26 = .ok (.ifCond .gt 10, 3) := by decide +kernel
theorem dX9_swap_29 : decode cX9_swap 29 = .ok (.aload_n 0, 1) := by decide +kernel
theorem dX9_swap_30 : decode cX9_swap 30 = .ok (.bipush (-3), 2) := by decide +kernel
theorem dX9_swap_32 : decode cX9_swap 32 = .ok (.invokevirtual 65, 3) := by decide +kernel
theorem dX9_swap_35 : decode cX9_swap 35 = .ok (.ireturn, 1) := by decide +kernel
theorem dX9_swap_36 : decode cX9_swap 36 = .ok (.aload_n 0, 1) := by decide +kernel
theorem dX9_swap_37 : decode cX9_swap 37 = .ok (.getfield 10, 3) := by decide +kernel
theorem dX9_swap_40 : decode cX9_swap 40 = .ok (.getfield 136, 3) := by decide +kernel
theorem dX9_swap_43 : decode cX9_swap 43 = .ok (.iconst 1, 1) := by decide +kernel
theorem dX9_swap_44 : decode cX9_swap 44 = .ok (.dup2, 1) := by decide +kernel
theorem dX9_swap_45 : decode cX9_swap 45 = .ok (.iaload, 1) := by decide +kernel
theorem dX9_swap_46 : decode cX9_swap 46 = .ok (.iconst 1, 1) := by decide +kernel
theorem dX9_swap_47 : decode cX9_swap 47 = .ok (.isub, 1) := by decide +kernel
theorem dX9_swap_48 : decode cX9_swap 48 = .ok (.iastore, 1) := by decide +kernel
theorem dX9_swap_49 : decode cX9_swap 49 = .ok (.aload_n 0, 1) := by decide +kernel
theorem dX9_swap_50 : decode cX9_swap 50 = .ok (.getfield 10, 3) := by decide +kernel
theorem dX9_swap_53 : decode cX9_swap 53 = .ok (.getfield 97, 3) := by decide +kernel
theorem dX9_swap_56 : decode cX9_swap 56 = .ok (.iload_n 1, 1) := by decide +kernel
theorem dX9_swap_57 : decode cX9_swap 57 = .ok (.aaload, 1) := by decide +kernel
theorem dX9_swap_58 : decode cX9_swap 58 = .ok (.invokevirtual 145, 3) := by decide +kernel
theorem dX9_swap_61 : decode cX9_swap 61 = .ok (.aload_n 0, 1) := by decide +kernel
theorem dX9_swap_62 : decode cX9_swap 62 = .ok (.getfield 10, 3) := by decide +kernel
theorem dX9_swap_65 : decode cX9_swap 65 = .ok (.invokevirtual 148, 3) := by decide +kernel
theorem dX9_swap_68 : decode cX9_swap 68 = .ok (.invokestatic 152, 3) := by decide +kernel
theorem dX9_swap_71 : decode cX9_swap 71 = .ok (.ireturn, 1) := by decide +kernel
theorem dX9_meter_0 : decode cX9_meter 0 = .ok (.aload_n 0, 1) := by decide +kernel
theorem dX9_meter_1 : decode cX9_meter 1 = .ok (.getfield 10, 3) := by decide +kernel
theorem dX9_meter_4 : decode cX9_meter 4 = .ok (.iload_n 1, 1) := by decide +kernel
theorem dX9_meter_5 : decode cX9_meter 5 = .ok (.iload_n 2, 1) := by decide +kernel
theorem dX9_meter_6 : decode cX9_meter 6 = .ok (.invokevirtual 156, 3) := by decide +kernel
theorem dX9_meter_9 : decode cX9_meter 9 = .ok (.ifCond .ne 9, 3) := by decide +kernel
theorem dX9_meter_12 : decode cX9_meter 12 = .ok (.aload_n 0, 1) := by decide +kernel
theorem dX9_meter_13 : decode cX9_meter 13 = .ok (.iconst (-1), 1) := by decide +kernel
theorem dX9_meter_14 : decode cX9_meter 14 = .ok (.invokevirtual 65, 3) := by decide +kernel
theorem dX9_meter_17 : decode cX9_meter 17 = .ok (.ireturn, 1) := by decide +kernel
theorem dX9_meter_18 : decode cX9_meter 18 = .ok (.aload_n 0, 1) := by decide +kernel
theorem dX9_meter_19 : decode cX9_meter 19 = .ok (.getfield 10, 3) := by decide +kernel
theorem dX9_meter_22 : decode cX9_meter 22 = .ok (.iload_n 1, 1) := by decide +kernel
theorem dX9_meter_23 : decode cX9_meter 23 = .ok (.iload_n 2, 1) := by decide +kernel
theorem dX9_meter_24 : decode cX9_meter 24 = .ok (.invokevirtual 160, 3) := by decide +kernel
theorem dX9_meter_27 : decode cX9_meter 27 = .ok (.invokestatic 152, 3) := by decide +kernel
theorem dX9_meter_30 : decode cX9_meter 30 = .ok (.ireturn, 1) := by decide +kernel
theorem dX9_finder_0 : decode cX9_finder 0 = .ok (.aload_n 0, 1) := by decide +kernel
theorem dX9_finder_1 : decode cX9_finder 1 = .ok (.getfield 10, 3) := by decide +kernel
theorem dX9_finder_4 : decode cX9_finder 4 = .ok (.iload_n 1, 1) := by decide +kernel
theorem dX9_finder_5 : decode cX9_finder 5 = .ok (.invokevirtual 93, 3) := by decide +kernel
theorem dX9_finder_8 : decode cX9_finder 8 = .ok (.ifCond .ne 9, 3) := by decide +kernel
theorem dX9_finder_11 : decode cX9_finder 11 = .ok (.aload_n 0, 1) := by decide +kernel
theorem dX9_finder_12 : decode cX9_finder 12 = .ok (.iconst (-1), 1) := by decide +kernel
theorem dX9_finder_13 : decode cX9_finder 13 = .ok (.invokevirtual 65, 3) := by decide +kernel
theorem dX9_finder_16 : decode cX9_finder 16 = .ok (.ireturn, 1) := by decide +kernel
theorem dX9_finder_17 : decode cX9_finder 17 = .ok (.aload_n 0, 1) := by decide +kernel
theorem dX9_finder_18 : decode cX9_finder 18 = .ok (.getfield 10, 3) := by decide +kernel
theorem dX9_finder_21 : decode cX9_finder 21 = .ok (.iconst 0, 1) := by decide +kernel
theorem dX9_finder_22 : decode cX9_finder 22 = .ok (.iload_n 1, 1) := by decide +kernel
theorem dX9_finder_23 : decode cX9_finder 23 = .ok (.iconst 1, 1) := by decide +kernel
theorem dX9_finder_24 : decode cX9_finder 24 = .ok (.isub, 1) := by decide +kernel
theorem dX9_finder_25 : decode cX9_finder 25 = .ok (.invokevirtual 160, 3) := by decide +kernel
theorem dX9_finder_28 : decode cX9_finder 28 = .ok (.invokestatic 152, 3) := by decide +kernel
theorem dX9_finder_31 : decode cX9_finder 31 = .ok (.ireturn, 1) := by decide +kernel
theorem dX9_touch_0 : decode cX9_touch 0 = .ok (.aload_n 0, 1) := by decide +kernel
theorem dX9_touch_1 : decode cX9_touch 1 = .ok (.getfield 10, 3) := by decide +kernel
theorem dX9_touch_4 : decode cX9_touch 4 = .ok (.iload_n 1, 1) := by decide +kernel
theorem dX9_touch_5 : decode cX9_touch 5 = .ok (.invokevirtual 93, 3) := by decide +kernel
theorem dX9_touch_8 : decode cX9_touch 8 = .ok (.ifCond .ne 9, 3) := by decide +kernel
theorem dX9_touch_11 : decode cX9_touch 11 = .ok (.aload_n 0, 1) := by decide +kernel
theorem dX9_touch_12 : decode cX9_touch 12 = .ok (.iconst (-1), 1) := by decide +kernel
theorem dX9_touch_13 : decode cX9_touch 13 = .ok (.invokevirtual 65, 3) := by decide +kernel
theorem dX9_touch_16 : decode cX9_touch 16 = .ok (.ireturn, 1) := by decide +kernel
theorem dX9_touch_17 : decode cX9_touch 17 = .ok (.aload_n 0, 1) := by decide +kernel
theorem dX9_touch_18 : decode cX9_touch 18 = .ok (.getfield 10, 3) := by decide +kernel
theorem dX9_touch_21 : decode cX9_touch 21 = .ok (.iload_n 1, 1) := by decide +kernel
theorem dX9_touch_22 : decode cX9_touch 22 = .ok (.invokevirtual 163, 3) := by decide +kernel
theorem dX9_touch_25 : decode cX9_touch 25 = .ok (.aload_n 0, 1) := by decide +kernel
theorem dX9_touch_26 : decode cX9_touch 26 = .ok (.getfield 10, 3) := by decide +kernel
theorem dX9_touch_29 : decode cX9_touch 29 = .ok (.getfield 97, 3) := by decide +kernel
theorem dX9_touch_32 : decode cX9_touch 32 = .ok (.iload_n 1, 1) := by decide +kernel
theorem dX9_touch_33 : decode cX9_touch 33 = .ok (.aaload, 1) := by decide +kernel
theorem dX9_touch_34 : decode cX9_touch 34 = .ok (.getfield 115, 3) := by decide +kernel
theorem dX9_touch_37 : decode cX9_touch 37 = .ok (.ireturn, 1) := by decide +kernel
theorem dX9_find_0 : decode cX9_find 0 = .ok (.aload_n 0, 1) := by decide +kernel
theorem dX9_find_1 : decode cX9_find 1 = .ok (.getfield 10, 3) := by decide +kernel
theorem dX9_find_4 : decode cX9_find 4 = .ok (.iload_n 1, 1) := by decide +kernel
theorem dX9_find_5 : decode cX9_find 5 = .ok (.iload_n 2, 1) := by decide +kernel
theorem dX9_find_6 : decode cX9_find 6 = .ok (.invokevirtual 156, 3) := by decide +kernel
theorem dX9_find_9 : decode cX9_find 9 = .ok (.ifCond .ne 9, 3) := by decide +kernel
theorem dX9_find_12 : decode cX9_find 12 = .ok (.aload_n 0, 1) := by decide +kernel
theorem dX9_find_13 : decode cX9_find 13 = .ok (.iconst (-1), 1) := by decide +kernel
theorem dX9_find_14 : decode cX9_find 14 = .ok (.invokevirtual 65, 3) := by decide +kernel
theorem dX9_find_17 : decode cX9_find 17 = .ok (.ireturn, 1) := by decide +kernel
theorem dX9_find_18 : decode cX9_find 18 = .ok (.iload_n 3, 1) := by decide +kernel
theorem dX9_find_19 : decode cX9_find 19 = .ok (.ifCond .eq 15, 3) := by decide +kernel
theorem dX9_find_22 : decode cX9_find 22 = .ok (.iload_n 3, 1) := by decide +kernel
theorem dX9_find_23 : decode cX9_find 23 = .ok (.iconst 1, 1) := by decide +kernel
theorem dX9_find_24 : decode cX9_find 24 = .ok (.if_icmp .eq 10, 3) := by decide +kernel
theorem dX9_find_27 : decode cX9_find 27 = .ok (.aload_n 0, 1) := by decide +kernel
theorem dX9_find_28 : decode cX9_find 28 = .ok (.bipush (-2), 2) := by decide +kernel
theorem dX9_find_30 : decode cX9_find 30 = .ok (.invokevirtual 65, 3) := by decide +kernel
theorem dX9_find_33 : decode cX9_find 33 = .ok (.ireturn, 1) := by decide +kernel
theorem dX9_find_34 : decode cX9_find 34 = .ok (.aload_n 0, 1) := by decide +kernel
theorem dX9_find_35 : decode cX9_find 35 = .ok (.getfield 50, 3) := by decide +kernel
theorem dX9_find_38 : decode cX9_find 38 = .ok (.aload_n 0, 1) := by decide +kernel
theorem dX9_find_39 : decode cX9_find 39 = .ok (.getfield 10, 3) := by decide +kernel
theorem dX9_find_42 : decode cX9_find 42 = .ok (.iload_n 1, 1) := by decide +kernel
theorem dX9_find_43 : decode cX9_find 43 = .ok (.iload_n 2, 1) := by decide +kernel
theorem dX9_find_44 : decode cX9_find 44 = .ok (.iload_n 3, 1) := by decide +kernel
theorem dX9_find_45 : decode cX9_find 45 = .ok (.invokevirtual 166, 3) := by decide +kernel
theorem dX9_find_48 : decode cX9_find 48 = .ok (.ireturn, 1) := by decide +kernel
theorem dX9_look_0 : decode cX9_look 0 = .ok (.aload_n 0, 1) := by decide +kernel
theorem dX9_look_1 : decode cX9_look 1 = .ok (.getfield 10, 3) := by decide +kernel
theorem dX9_look_4 : decode cX9_look 4 = .ok (.iload_n 1, 1) := by decide +kernel
theorem dX9_look_5 : decode cX9_look 5 = .ok (.iload_n 2, 1) := by decide +kernel
theorem dX9_look_6 : decode cX9_look 6 = .ok (.invokevirtual 156, 3) := by decide +kernel
theorem dX9_look_9 : decode cX9_look 9 = .ok (.ifCond .ne 9, 3) := by decide +kernel
theorem dX9_look_12 : decode cX9_look 12 = .ok (.aload_n 0, 1) := by decide +kernel
theorem dX9_look_13 : decode cX9_look 13 = .ok (.iconst (-1), 1) := by decide +kernel
theorem dX9_look_14 : decode cX9_look 14 = .ok (.invokevirtual 65, 3) := by decide +kernel
theorem dX9_look_17 : decode cX9_look 17 = .ok (.ireturn, 1) := by decide +kernel
theorem dX9_look_18 : decode cX9_look 18 = .ok (.iload_n 3, 1) := by decide +kernel
theorem dX9_look_19 : decode cX9_look 19 = .ok (.ifCond .eq 15, 3) := by decide +kernel
theorem dX9_look_22 : decode cX9_look 22 = .ok (.iload_n 3, 1) := by decide +kernel
theorem dX9_look_23 : decode cX9_look 23 = .ok (.iconst 1, 1) := by decide +kernel
theorem dX9_look_24 : decode cX9_look 24 = .ok (.if_icmp .eq 10, 3) := by decide +kernel
theorem dX9_look_27 : decode cX9_look 27 = .ok (.aload_n 0, 1) := by decide +kernel
theorem dX9_look_28 : decode cX9_look 28 = .ok (.bipush (-2), 2) := by decide +kernel
theorem dX9_look_30 : decode cX9_look 30 = .ok (.invokevirtual 65, 3) := by decide +kernel
theorem dX9_look_33 : decode cX9_look 33 = .ok (.ireturn, 1) := by decide +kernel
theorem dX9_look_34 : decode cX9_look 34 = .ok (.aload_n 0, 1) := by decide +kernel
theorem dX9_look_35 : decode cX9_look 35 = .ok (.getfield 50, 3) := by decide +kernel
theorem dX9_look_38 : decode cX9_look 38 = .ok (.aload_n 0, 1) := by decide +kernel
theorem dX9_look_39 : decode cX9_look 39 = .ok (.getfield 10, 3) := by decide +kernel
theorem dX9_look_42 : decode cX9_look 42 = .ok (.iload_n 1, 1) := by decide +kernel
theorem dX9_look_43 : decode cX9_look 43 = .ok (.iload_n 2, 1) := by decide +kernel
theorem dX9_look_44 : decode cX9_look 44 = .ok (.iload_n 3, 1) := by decide +kernel
theorem dX9_look_45 : decode cX9_look 45 = .ok (.invokevirtual 170, 3) := by decide +kernel
theorem dX9_look_48 : decode cX9_look 48 = .ok (.ireturn, 1) := by decide +kernel
theorem dX9_order_0 : decode cX9_order 0 = .ok (.iload_n 1, 1) := by decide +kernel
theorem dX9_order_1 : decode cX9_order 1 = .ok (.ifCond .ge 10, 3) := by decide +kernel
theorem dX9_order_4 : decode cX9_order 4 = .ok (.aload_n 0, 1) := by decide +kernel
theorem dX9_order_5 : decode cX9_order 5 = .ok (.bipush (-4), 2) := by decide +kernel
theorem dX9_order_7 : decode cX9_order 7 = .ok (.invokevirtual 65, 3) := by decide +kernel
theorem dX9_order_10 : decode cX9_order 10 = .ok (.ireturn, 1) := by decide +kernel
theorem dX9_order_11 : decode cX9_order 11 = .ok (.aload_n 0, 1) := by decide +kernel
theorem dX9_order_12 : decode cX9_order 12 = .ok (.getfield 10, 3) := by decide +kernel
theorem dX9_order_15 : decode cX9_order 15 = .ok (.iload_n 1, 1) := by decide +kernel
theorem dX9_order_16 : decode cX9_order 16 = .ok (.invokevirtual 93, 3) := by decide +kernel
theorem dX9_order_19 : decode cX9_order 19 = .ok (.ifCond .ne 6, 3) := by decide +kernel
theorem dX9_order_22 : decode cX9_order 22 = .ok (.bipush (-9), 2) := by decide +kernel
theorem dX9_order_24 : decode cX9_order 24 = .ok (.ireturn, 1) := by decide +kernel
theorem dX9_order_25 : decode cX9_order 25 = .ok (.aload_n 0, 1) := by decide +kernel
theorem dX9_order_26 : decode cX9_order 26 = .ok (.getfield 57, 3) := by decide +kernel
theorem dX9_order_29 : decode cX9_order 29 = .ok (.aload_n 0, 1) := by decide +kernel
theorem dX9_order_30 : decode cX9_order 30 = .ok (.getfield 10, 3) := by decide +kernel
theorem dX9_order_33 : decode cX9_order 33 = .ok (.invokevirtual 173, 3) := by decide +kernel
theorem dX9_order_36 : decode cX9_order 36 = .ok (.aload_n 0, 1) := by decide +kernel
theorem dX9_order_37 : decode cX9_order 37 = .ok (.getfield 57, 3) := by decide +kernel
theorem dX9_order_40 : decode cX9_order 40 = .ok (.getfield 176, 3) := by decide +kernel
theorem dX9_order_43 : decode cX9_order 43 = .ok (.iload_n 1, 1) := by decide +kernel
theorem dX9_order_44 : decode cX9_order 44 = .ok (.iaload, 1) := by decide +kernel
theorem dX9_order_45 : decode cX9_order 45 = .ok (.ireturn, 1) := by decide +kernel
theorem dX9_orderSum_0 : decode cX9_orderSum 0 = .ok (.aload_n 0, 1) := by decide +kernel
theorem dX9_orderSum_1 : decode cX9_orderSum 1 = .ok (.getfield 10, 3) := by decide +kernel
theorem dX9_orderSum_4 : decode cX9_orderSum 4 = .ok (.getfield 179, 3) := by decide +kernel
theorem dX9_orderSum_7 : decode cX9_orderSum 7 = .ok (.ifCond .ne 10, 3) := by decide +kernel
theorem dX9_orderSum_10 : decode cX9_orderSum 10 = .ok (.aload_n 0, 1) := by decide +kernel
theorem dX9_orderSum_11 : decode cX9_orderSum 11 = .ok (.bipush (-3), 2) := by decide +kernel
theorem dX9_orderSum_13 : decode cX9_orderSum 13 = .ok (.invokevirtual 65, 3) := by decide +kernel
theorem dX9_orderSum_16 : decode cX9_orderSum 16 = .ok (.ireturn, 1) := by decide +kernel
theorem dX9_orderSum_17 : decode cX9_orderSum 17 = .ok (.aload_n 0, 1) := by decide +kernel
theorem dX9_orderSum_18 : decode cX9_orderSum 18 = .ok (.getfield 57, 3) := by decide +kernel
theorem dX9_orderSum_21 : decode cX9_orderSum 21 = .ok (.aload_n 0, 1) := by decide +kernel
theorem dX9_orderSum_22 : decode cX9_orderSum 22 = .ok (.getfield 10, 3) := by decide +kernel
theorem dX9_orderSum_25 : decode cX9_orderSum 25 = .ok (.invokevirtual 173, 3) := by decide +kernel
theorem dX9_orderSum_28 : decode cX9_orderSum 28 = .ok (.aload_n 0, 1) := by decide +kernel
theorem dX9_orderSum_29 : decode cX9_orderSum 29 = .ok (.getfield 57, 3) := by decide +kernel
theorem dX9_orderSum_32 : decode cX9_orderSum 32 = .ok (.aload_n 0, 1) := by decide +kernel
theorem dX9_orderSum_33 : decode cX9_orderSum 33 = .ok (.getfield 10, 3) := by decide +kernel
theorem dX9_orderSum_36 : decode cX9_orderSum 36 = .ok (.invokevirtual 180, 3) := by decide +kernel
theorem dX9_orderSum_39 : decode cX9_orderSum 39 = .ok (.ireturn, 1) := by decide +kernel
theorem dX9_told_0 : decode cX9_told 0 = .ok (.aload_n 0, 1) := by decide +kernel
theorem dX9_told_1 : decode cX9_told 1 = .ok (.getfield 10, 3) := by decide +kernel
theorem dX9_told_4 : decode cX9_told 4 = .ok (.iload_n 1, 1) := by decide +kernel
theorem dX9_told_5 : decode cX9_told 5 = .ok (.invokevirtual 93, 3) := by decide +kernel
theorem dX9_told_8 : decode cX9_told 8 = .ok (.ifCond .ne 9, 3) := by decide +kernel
theorem dX9_told_11 : decode cX9_told 11 = .ok (.aload_n 0, 1) := by decide +kernel
theorem dX9_told_12 : decode cX9_told 12 = .ok (.iconst (-1), 1) := by decide +kernel
theorem dX9_told_13 : decode cX9_told 13 = .ok (.invokevirtual 65, 3) := by decide +kernel
theorem dX9_told_16 : decode cX9_told 16 = .ok (.ireturn, 1) := by decide +kernel
theorem dX9_told_17 : decode cX9_told 17 = .ok (.iload_n 2, 1) := by decide +kernel
theorem dX9_told_18 : decode cX9_told 18 = .ok (.ifCond .eq 15, 3) := by decide +kernel
theorem dX9_told_21 : decode cX9_told 21 = .ok (.iload_n 2, 1) := by decide +kernel
theorem dX9_told_22 : decode cX9_told 22 = .ok (.iconst 1, 1) := by decide +kernel
theorem dX9_told_23 : decode cX9_told 23 = .ok (.if_icmp .eq 10, 3) := by decide +kernel
theorem dX9_told_26 : decode cX9_told 26 = .ok (.aload_n 0, 1) := by decide +kernel
theorem dX9_told_27 : decode cX9_told 27 = .ok (.bipush (-2), 2) := by decide +kernel
theorem dX9_told_29 : decode cX9_told 29 = .ok (.invokevirtual 65, 3) := by decide +kernel
theorem dX9_told_32 : decode cX9_told 32 = .ok (.ireturn, 1) := by decide +kernel
theorem dX9_told_33 : decode cX9_told 33 = .ok (.aload_n 0, 1) := by decide +kernel
theorem dX9_told_34 : decode cX9_told 34 = .ok (.getfield 43, 3) := by decide +kernel
theorem dX9_told_37 : decode cX9_told 37 = .ok (.getfield 183, 3) := by decide +kernel
theorem dX9_told_40 : decode cX9_told 40 = .ok (.bipush 6, 2) := by decide +kernel
theorem dX9_told_42 : decode cX9_told 42 = .ok (.if_icmp .lt 10, 3) := by decide +kernel
theorem dX9_told_45 : decode cX9_told 45 = .ok (.aload_n 0, 1) := by decide +kernel
theorem dX9_told_46 : decode cX9_told 46 = .ok (.bipush (-6), 2) := by decide +kernel
theorem dX9_told_48 : decode cX9_told 48 = .ok (.invokevirtual 65, 3) := by decide +kernel
theorem dX9_told_51 : decode cX9_told 51 = .ok (.ireturn, 1) := by decide +kernel
theorem dX9_told_52 : decode cX9_told 52 = .ok (.aload_n 0, 1) := by decide +kernel
theorem dX9_told_53 : decode cX9_told 53 = .ok (.getfield 43, 3) := by decide +kernel
theorem dX9_told_56 : decode cX9_told 56 = .ok (.iload_n 1, 1) := by decide +kernel
theorem dX9_told_57 : decode cX9_told 57 = .ok (.iload_n 2, 1) := by decide +kernel
theorem dX9_told_58 : decode cX9_told 58 = .ok (.invokevirtual 184, 3) := by decide +kernel
theorem dX9_told_61 : decode cX9_told 61 = .ok (.aload_n 0, 1) := by decide +kernel
theorem dX9_told_62 : decode cX9_told 62 = .ok (.getfield 43, 3) := by decide +kernel
theorem dX9_told_65 : decode cX9_told 65 = .ok (.getfield 183, 3) := by decide +kernel
theorem dX9_told_68 : decode cX9_told 68 = .ok (.ireturn, 1) := by decide +kernel
theorem dX9_openTo_0 : decode cX9_openTo 0 = .ok (.aload_n 0, 1) := by decide +kernel
theorem dX9_openTo_1 : decode cX9_openTo 1 = .ok (.getfield 43, 3) := by decide +kernel
theorem dX9_openTo_4 : decode cX9_openTo 4 = .ok (.aload_n 0, 1) := by decide +kernel
theorem dX9_openTo_5 : decode cX9_openTo 5 = .ok (.getfield 43, 3) := by decide +kernel
theorem dX9_openTo_8 : decode cX9_openTo 8 = .ok (.getfield 183, 3) := by decide +kernel
theorem dX9_openTo_11 : decode cX9_openTo 11 = .ok (.aload_n 0, 1) := by decide +kernel
theorem dX9_openTo_12 : decode cX9_openTo 12 = .ok (.getfield 10, 3) := by decide +kernel
theorem dX9_openTo_15 : decode cX9_openTo 15 = .ok (.getfield 179, 3) := by decide +kernel
theorem dX9_openTo_18 : decode cX9_openTo 18 = .ok (.invokevirtual 187, 3) := by decide +kernel
theorem dX9_openTo_21 : decode cX9_openTo 21 = .ok (.ireturn, 1) := by decide +kernel
theorem dX9_judge_0 : decode cX9_judge 0 = .ok (.aload_n 0, 1) := by decide +kernel
theorem dX9_judge_1 : decode cX9_judge 1 = .ok (.getfield 43, 3) := by decide +kernel
theorem dX9_judge_4 : decode cX9_judge 4 = .ok (.aload_n 0, 1) := by decide +kernel
theorem dX9_judge_5 : decode cX9_judge 5 = .ok (.getfield 10, 3) := by decide +kernel
theorem dX9_judge_8 : decode cX9_judge 8 = .ok (.getfield 179, 3) := by decide +kernel
theorem dX9_judge_11 : decode cX9_judge 11 = .ok (.invokevirtual 191, 3) := by decide +kernel
theorem dX9_judge_14 : decode cX9_judge 14 = .ok (.istore_n 1, 1) := by decide +kernel
theorem dX9_judge_15 : decode cX9_judge 15 = .ok (.aload_n 0, 1) := by decide +kernel
theorem dX9_judge_16 : decode cX9_judge 16 = .ok (.getfield 43, 3) := by decide +kernel
theorem dX9_judge_19 : decode cX9_judge 19 = .ok (.iconst 0, 1) := by decide +kernel
theorem dX9_judge_20 : decode cX9_judge 20 = .ok (.putfield 183, 3) := by decide +kernel
theorem dX9_judge_23 : decode cX9_judge 23 = .ok (.iload_n 1, 1) := by decide +kernel
theorem dX9_judge_24 : decode cX9_judge 24 = .ok (.ireturn, 1) := by decide +kernel
theorem dX9_lasts_0 : decode cX9_lasts 0 = .ok (.aload_n 0, 1) := by decide +kernel
theorem dX9_lasts_1 : decode cX9_lasts 1 = .ok (.getfield 22, 3) := by decide +kernel
theorem dX9_lasts_4 : decode cX9_lasts 4 = .ok (.aload_n 0, 1) := by decide +kernel
theorem dX9_lasts_5 : decode cX9_lasts 5 = .ok (.getfield 10, 3) := by decide +kernel
theorem dX9_lasts_8 : decode cX9_lasts 8 = .ok (.invokevirtual 194, 3) := by decide +kernel
theorem dX9_lasts_11 : decode cX9_lasts 11 = .ok (.ireturn, 1) := by decide +kernel
theorem dX9_next_0 : decode cX9_next 0 = .ok (.iload_n 1, 1) := by decide +kernel
theorem dX9_next_1 : decode cX9_next 1 = .ok (.ifCond .eq 15, 3) := by decide +kernel
theorem dX9_next_4 : decode cX9_next 4 = .ok (.iload_n 1, 1) := by decide +kernel
theorem dX9_next_5 : decode cX9_next 5 = .ok (.iconst 1, 1) := by decide +kernel
theorem dX9_next_6 : decode cX9_next 6 = .ok (.if_icmp .eq 10, 3) := by decide +kernel
theorem dX9_next_9 : decode cX9_next 9 = .ok (.aload_n 0, 1) := by decide +kernel
theorem dX9_next_10 : decode cX9_next 10 = .ok (.bipush (-2), 2) := by decide +kernel
theorem dX9_next_12 : decode cX9_next 12 = .ok (.invokevirtual 65, 3) := by decide +kernel
theorem dX9_next_15 : decode cX9_next 15 = .ok (.ireturn, 1) := by decide +kernel
theorem dX9_next_16 : decode cX9_next 16 = .ok (.aload_n 0, 1) := by decide +kernel
theorem dX9_next_17 : decode cX9_next 17 = .ok (.getfield 22, 3) := by decide +kernel
theorem dX9_next_20 : decode cX9_next 20 = .ok (.aload_n 0, 1) := by decide +kernel
theorem dX9_next_21 : decode cX9_next 21 = .ok (.getfield 10, 3) := by decide +kernel
theorem dX9_next_24 : decode cX9_next 24 = .ok (.iload_n 1, 1) := by decide +kernel
theorem dX9_next_25 : decode cX9_next 25 = .ok (.ifCond .ne 7, 3) := by decide +kernel
theorem dX9_next_28 : decode cX9_next 28 = .ok (.iconst 1, 1) := by decide +kernel
theorem dX9_next_29 : decode cX9_next 29 = .ok (.goto 4, 3) := by decide +kernel
theorem dX9_next_32 : decode cX9_next 32 = .ok (.iconst 0, 1) := by decide +kernel
theorem dX9_next_33 : decode cX9_next 33 = .ok (.invokevirtual 197, 3) := by decide +kernel
theorem dX9_next_36 : decode cX9_next 36 = .ok (.ireturn, 1) := by decide +kernel
theorem dX9_bridged_0 : decode cX9_bridged 0 = .ok (.iload_n 1, 1) := by decide +kernel
theorem dX9_bridged_1 : decode cX9_bridged 1 = .ok (.ifCond .ge 10, 3) := by decide +kernel
theorem dX9_bridged_4 : decode cX9_bridged 4 = .ok (.aload_n 0, 1) := by decide +kernel
theorem dX9_bridged_5 : decode cX9_bridged 5 = .ok (.bipush (-4), 2) := by decide +kernel
theorem dX9_bridged_7 : decode cX9_bridged 7 = .ok (.invokevirtual 65, 3) := by decide +kernel
theorem dX9_bridged_10 : decode cX9_bridged 10 = .ok (.ireturn, 1) := by decide +kernel
theorem dX9_bridged_11 : decode cX9_bridged 11 = .ok (.iload_n 1, 1) := by decide +kernel
theorem dX9_bridged_12 : decode cX9_bridged 12 = .ok (.bipush 12, 2) := by decide +kernel
theorem dX9_bridged_14 : decode cX9_bridged 14 = .ok (.if_icmp .le 10, 3) := by decide +kernel
theorem dX9_bridged_17 : decode cX9_bridged 17 = .ok (.aload_n 0, 1) := by decide +kernel
theorem dX9_bridged_18 : decode cX9_bridged 18 = .ok (.bipush (-6), 2) := by decide +kernel
theorem dX9_bridged_20 : decode cX9_bridged 20 = .ok (.invokevirtual 65, 3) := by decide +kernel
theorem dX9_bridged_23 : decode cX9_bridged 23 = .ok (.ireturn, 1) := by decide +kernel
theorem dX9_bridged_24 : decode cX9_bridged 24 = .ok (.aload_n 0, 1) := by decide +kernel
theorem dX9_bridged_25 : decode cX9_bridged 25 = .ok (.getfield 22, 3) := by decide +kernel
theorem dX9_bridged_28 : decode cX9_bridged 28 = .ok (.aload_n 0, 1) := by decide +kernel
theorem dX9_bridged_29 : decode cX9_bridged 29 = .ok (.getfield 10, 3) := by decide +kernel
theorem dX9_bridged_32 : decode cX9_bridged 32 = .ok (.iload_n 1, 1) := by decide +kernel
theorem dX9_bridged_33 : decode cX9_bridged 33 = .ok (.invokevirtual 201, 3) := by decide +kernel
theorem dX9_bridged_36 : decode cX9_bridged 36 = .ok (.ireturn, 1) := by decide +kernel
theorem dX9_stop_0 : decode cX9_stop 0 = .ok (.aload_n 0, 1) := by decide +kernel
theorem dX9_stop_1 : decode cX9_stop 1 = .ok (.getfield 10, 3) := by decide +kernel
theorem dX9_stop_4 : decode cX9_stop 4 = .ok (.getfield 179, 3) := by decide +kernel
theorem dX9_stop_7 : decode cX9_stop 7 = .ok (.ifCond .ne 10, 3) := by decide +kernel
theorem dX9_stop_10 : decode cX9_stop 10 = .ok (.aload_n 0, 1) := by decide +kernel
theorem dX9_stop_11 : decode cX9_stop 11 = .ok (.bipush (-3), 2) := by decide +kernel
theorem dX9_stop_13 : decode cX9_stop 13 = .ok (.invokevirtual 65, 3) := by decide +kernel
theorem dX9_stop_16 : decode cX9_stop 16 = .ok (.ireturn, 1) := by decide +kernel
theorem dX9_stop_17 : decode cX9_stop 17 = .ok (.aload_n 0, 1) := by decide +kernel
theorem dX9_stop_18 : decode cX9_stop 18 = .ok (.getfield 10, 3) := by decide +kernel
theorem dX9_stop_21 : decode cX9_stop 21 = .ok (.invokevirtual 205, 3) := by decide +kernel
theorem dX9_stop_24 : decode cX9_stop 24 = .ok (.ireturn, 1) := by decide +kernel
theorem dX9_light_0 : decode cX9_light 0 = .ok (.iload_n 1, 1) := by decide +kernel
theorem dX9_light_1 : decode cX9_light 1 = .ok (.ifCond .ge 10, 3) := by decide +kernel
theorem dX9_light_4 : decode cX9_light 4 = .ok (.aload_n 0, 1) := by decide +kernel
theorem dX9_light_5 : decode cX9_light 5 = .ok (.bipush (-4), 2) := by decide +kernel
theorem dX9_light_7 : decode cX9_light 7 = .ok (.invokevirtual 65, 3) := by decide +kernel
theorem dX9_light_10 : decode cX9_light 10 = .ok (.ireturn, 1) := by decide +kernel
theorem dX9_light_11 : decode cX9_light 11 = .ok (.iload_n 1, 1) := by decide +kernel
theorem dX9_light_12 : decode cX9_light 12 = .ok (.sipush 200, 3) := by decide +kernel
theorem dX9_light_15 : decode cX9_light 15 = .ok (.if_icmp .le 10, 3) := by decide +kernel
theorem dX9_light_18 : decode cX9_light 18 = .ok (.aload_n 0, 1) := by decide +kernel
theorem dX9_light_19 : decode cX9_light 19 = .ok (.bipush (-6), 2) := by decide +kernel
theorem dX9_light_21 : decode cX9_light 21 = .ok (.invokevirtual 65, 3) := by decide +kernel
theorem dX9_light_24 : decode cX9_light 24 = .ok (.ireturn, 1) := by decide +kernel
theorem dX9_light_25 : decode cX9_light 25 = .ok (.aload_n 0, 1) := by decide +kernel
theorem dX9_light_26 : decode cX9_light 26 = .ok (.getfield 22, 3) := by decide +kernel
theorem dX9_light_29 : decode cX9_light 29 = .ok (.aload_n 0, 1) := by decide +kernel
theorem dX9_light_30 : decode cX9_light 30 = .ok (.getfield 10, 3) := by decide +kernel
theorem dX9_light_33 : decode cX9_light 33 = .ok (.iload_n 1, 1) := by decide +kernel
theorem dX9_light_34 : decode cX9_light 34 = .ok (.invokevirtual 208, 3) := by decide +kernel
theorem dX9_light_37 : decode cX9_light 37 = .ok (.ireturn, 1) := by decide +kernel
theorem dX9_keeps_0 : decode cX9_keeps 0 = .ok (.iload_n 1, 1) := by decide +kernel
theorem dX9_keeps_1 : decode cX9_keeps 1 = .ok (.iconst 1, 1) := by decide +kernel
theorem dX9_keeps_2 : decode cX9_keeps 2 = .ok (.if_icmp .ge 10, 3) := by decide +kernel
theorem dX9_keeps_5 : decode cX9_keeps 5 = .ok (.aload_n 0, 1) := by decide +kernel
theorem dX9_keeps_6 : decode cX9_keeps 6 = .ok (.bipush (-4), 2) := by decide +kernel
theorem dX9_keeps_8 : decode cX9_keeps 8 = .ok (.invokevirtual 65, 3) := by decide +kernel
theorem dX9_keeps_11 : decode cX9_keeps 11 = .ok (.ireturn, 1) := by decide +kernel
theorem dX9_keeps_12 : decode cX9_keeps 12 = .ok (.iload_n 1, 1) := by decide +kernel
theorem dX9_keeps_13 : decode cX9_keeps 13 = .ok (.sipush 200, 3) := by decide +kernel
theorem dX9_keeps_16 : decode cX9_keeps 16 = .ok (.if_icmp .le 10, 3) := by decide +kernel
theorem dX9_keeps_19 : decode cX9_keeps 19 = .ok (.aload_n 0, 1) := by decide +kernel
theorem dX9_keeps_20 : decode cX9_keeps 20 = .ok (.bipush (-6), 2) := by decide +kernel
theorem dX9_keeps_22 : decode cX9_keeps 22 = .ok (.invokevirtual 65, 3) := by decide +kernel
theorem dX9_keeps_25 : decode cX9_keeps 25 = .ok (.ireturn, 1) := by decide +kernel
theorem dX9_keeps_26 : decode cX9_keeps 26 = .ok (.aload_n 0, 1) := by decide +kernel
theorem dX9_keeps_27 : decode cX9_keeps 27 = .ok (.getfield 22, 3) := by decide +kernel
theorem dX9_keeps_30 : decode cX9_keeps 30 = .ok (.aload_n 0, 1) := by decide +kernel
theorem dX9_keeps_31 : decode cX9_keeps 31 = .ok (.getfield 10, 3) := by decide +kernel
theorem dX9_keeps_34 : decode cX9_keeps 34 = .ok (.iload_n 1, 1) := by decide +kernel
theorem dX9_keeps_35 : decode cX9_keeps 35 = .ok (.invokevirtual 211, 3) := by decide +kernel
theorem dX9_keeps_38 : decode cX9_keeps 38 = .ok (.ireturn, 1) := by decide +kernel
theorem dX9_allAnew_0 : decode cX9_allAnew 0 = .ok (.aload_n 0, 1) := by decide +kernel
theorem dX9_allAnew_1 : decode cX9_allAnew 1 = .ok (.getfield 10, 3) := by decide +kernel
theorem dX9_allAnew_4 : decode cX9_allAnew 4 = .ok (.getfield 179, 3) := by decide +kernel
theorem dX9_allAnew_7 : decode cX9_allAnew 7 = .ok (.ifCond .ne 10, 3) := by decide +kernel
theorem dX9_allAnew_10 : decode cX9_allAnew 10 = .ok (.aload_n 0, 1) := by decide +kernel
theorem dX9_allAnew_11 : decode cX9_allAnew 11 = .ok (.bipush (-3), 2) := by decide +kernel
theorem dX9_allAnew_13 : decode cX9_allAnew 13 = .ok (.invokevirtual 65, 3) := by decide +kernel
theorem dX9_allAnew_16 : decode cX9_allAnew 16 = .ok (.ireturn, 1) := by decide +kernel
theorem dX9_allAnew_17 : decode cX9_allAnew 17 = .ok (.aload_n 0, 1) := by decide +kernel
theorem dX9_allAnew_18 : decode cX9_allAnew 18 = .ok (.getfield 22, 3) := by decide +kernel
theorem dX9_allAnew_21 : decode cX9_allAnew 21 = .ok (.aload_n 0, 1) := by decide +kernel
theorem dX9_allAnew_22 : decode cX9_allAnew 22 = .ok (.getfield 10, 3) := by decide +kernel
theorem dX9_allAnew_25 : decode cX9_allAnew 25 = .ok (.invokevirtual 214, 3) := by decide +kernel
theorem dX9_allAnew_28 : decode cX9_allAnew 28 = .ok (.ireturn, 1) := by decide +kernel
theorem dX9_joined_0 : decode cX9_joined 0 = .ok (.aload_n 0, 1) := by decide +kernel
theorem dX9_joined_1 : decode cX9_joined 1 = .ok (.getfield 10, 3) := by decide +kernel
theorem dX9_joined_4 : decode cX9_joined 4 = .ok (.invokevirtual 217, 3) := by decide +kernel
theorem dX9_joined_7 : decode cX9_joined 7 = .ok (.ireturn, 1) := by decide +kernel
theorem dX9_two_0 : decode cX9_two 0 = .ok (.iload_n 1, 1) := by decide +kernel
theorem dX9_two_1 : decode cX9_two 1 = .ok (.ifCond .eq 20, 3) := by decide +kernel
theorem dX9_two_4 : decode cX9_two 4 = .ok (.iload_n 1, 1) := by decide +kernel
theorem dX9_two_5 : decode cX9_two 5 = .ok (.iconst 1, 1) := by decide +kernel
theorem dX9_two_6 : decode cX9_two 6 = .ok (.if_icmp .eq 15, 3) := by decide +kernel
theorem dX9_two_9 : decode cX9_two 9 = .ok (.ldc2_w 220, 3) := by decide +kernel
theorem dX9_two_12 : decode cX9_two 12 = .ok (.aload_n 0, 1) := by decide +kernel
theorem dX9_two_13 : decode cX9_two 13 = .ok (.bipush (-2), 2) := by decide +kernel
theorem dX9_two_15 : decode cX9_two 15 = .ok (.invokevirtual 65, 3) := by decide +kernel
theorem dX9_two_18 : decode cX9_two 18 = .ok (.i2l, 1) := by decide +kernel
theorem dX9_two_19 : decode cX9_two 19 = .ok (.lsub, 1) := by decide +kernel
theorem dX9_two_20 : decode cX9_two 20 = .ok (.lreturn, 1) := by decide +kernel
theorem dX9_two_21 : decode cX9_two 21 = .ok (.aload_n 0, 1) := by decide +kernel
theorem dX9_two_22 : decode cX9_two 22 = .ok (.getfield 10, 3) := by decide +kernel
theorem dX9_two_25 : decode cX9_two 25 = .ok (.getfield 179, 3) := by decide +kernel
theorem dX9_two_28 : decode cX9_two 28 = .ok (.ifCond .ne 15, 3) := by decide +kernel
theorem dX9_two_31 : decode cX9_two 31 = .ok (.ldc2_w 220, 3) := by decide +kernel
theorem dX9_two_34 : decode cX9_two 34 = .ok (.aload_n 0, 1) := by decide +kernel
theorem dX9_two_35 : decode cX9_two 35 = .ok (.bipush (-3), 2) := by decide +kernel
theorem dX9_two_37 : decode cX9_two 37 = .ok (.invokevirtual 65, 3) := by decide +kernel
theorem dX9_two_40 : decode cX9_two 40 = .ok (.i2l, 1) := by decide +kernel
theorem dX9_two_41 : decode cX9_two 41 = .ok (.lsub, 1) := by decide +kernel
theorem dX9_two_42 : decode cX9_two 42 = .ok (.lreturn, 1) := by decide +kernel
theorem dX9_two_43 : decode cX9_two 43 = .ok (.aload_n 0, 1) := by decide +kernel
theorem dX9_two_44 : decode cX9_two 44 = .ok (.getfield 10, 3) := by decide +kernel
theorem dX9_two_47 : decode cX9_two 47 = .ok (.getfield 179, 3) := by decide +kernel
theorem dX9_two_50 : decode cX9_two 50 = .ok (.bipush 8, 2) := by decide +kernel
theorem dX9_two_52 : decode cX9_two 52 = .ok (.if_icmp .le 15, 3) := by decide +kernel
theorem dX9_two_55 : decode cX9_two 55 = .ok (.ldc2_w 220, 3) := by decide +kernel
theorem dX9_two_58 : decode cX9_two 58 = .ok (.aload_n 0, 1) := by decide +kernel
theorem dX9_two_59 : decode cX9_two 59 = .ok (.bipush (-6), 2) := by decide +kernel
theorem dX9_two_61 : decode cX9_two 61 = .ok (.invokevirtual 65, 3) := by decide +kernel
theorem dX9_two_64 : decode cX9_two 64 = .ok (.i2l, 1) := by decide +kernel
theorem dX9_two_65 : decode cX9_two 65 = .ok (.lsub, 1) := by decide +kernel
theorem dX9_two_66 : decode cX9_two 66 = .ok (.lreturn, 1) := by decide +kernel
theorem dX9_two_67 : decode cX9_two 67 = .ok (.aload_n 0, 1) := by decide +kernel
theorem dX9_two_68 : decode cX9_two 68 = .ok (.getfield 10, 3) := by decide +kernel
theorem dX9_two_71 : decode cX9_two 71 = .ok (.iload_n 1, 1) := by decide +kernel
theorem dX9_two_72 : decode cX9_two 72 = .ok (.ifCond .ne 7, 3) := by decide +kernel
theorem dX9_two_75 : decode cX9_two 75 = .ok (.iconst 1, 1) := by decide +kernel
theorem dX9_two_76 : decode cX9_two 76 = .ok (.goto 4, 3) := by decide +kernel
theorem dX9_two_79 : decode cX9_two 79 = .ok (.iconst 0, 1) := by decide +kernel
theorem dX9_two_80 : decode cX9_two 80 = .ok (.invokestatic 222, 3) := by decide +kernel
theorem dX9_two_83 : decode cX9_two 83 = .ok (.lreturn, 1) := by decide +kernel
theorem dX9_seeds_0 : decode cX9_seeds 0 = .ok (.iload_n 1, 1) := by decide +kernel
theorem dX9_seeds_1 : decode cX9_seeds 1 = .ok (.iconst 1, 1) := by decide +kernel
theorem dX9_seeds_2 : decode cX9_seeds 2 = .ok (.if_icmp .ge 10, 3) := by decide +kernel
theorem dX9_seeds_5 : decode cX9_seeds 5 = .ok (.aload_n 0, 1) := by decide +kernel
theorem dX9_seeds_6 : decode cX9_seeds 6 = .ok (.bipush (-4), 2) := by decide +kernel
theorem dX9_seeds_8 : decode cX9_seeds 8 = .ok (.invokevirtual 65, 3) := by decide +kernel
theorem dX9_seeds_11 : decode cX9_seeds 11 = .ok (.ireturn, 1) := by decide +kernel
theorem dX9_seeds_12 : decode cX9_seeds 12 = .ok (.iload_n 1, 1) := by decide +kernel
theorem dX9_seeds_13 : decode cX9_seeds 13 = .ok (.bipush 50, 2) := by decide +kernel
theorem dX9_seeds_15 : decode cX9_seeds 15 = .ok (.if_icmp .le 10, 3) := by decide +kernel
theorem dX9_seeds_18 : decode cX9_seeds 18 = .ok (.aload_n 0, 1) := by decide +kernel
theorem dX9_seeds_19 : decode cX9_seeds 19 = .ok (.bipush (-6), 2) := by decide +kernel
theorem dX9_seeds_21 : decode cX9_seeds 21 = .ok (.invokevirtual 65, 3) := by decide +kernel
theorem dX9_seeds_24 : decode cX9_seeds 24 = .ok (.ireturn, 1) := by decide +kernel
theorem dX9_seeds_25 : decode cX9_seeds 25 = .ok (.aload_n 0, 1) := by decide +kernel
theorem dX9_seeds_26 : decode cX9_seeds 26 = .ok (.getfield 10, 3) := by decide +kernel
theorem dX9_seeds_29 : decode cX9_seeds 29 = .ok (.getfield 179, 3) := by decide +kernel
theorem dX9_seeds_32 : decode cX9_seeds 32 = .ok (.ifCond .ne 10, 3) := by decide +kernel
theorem dX9_seeds_35 : decode cX9_seeds 35 = .ok (.aload_n 0, 1) := by decide +kernel
theorem dX9_seeds_36 : decode cX9_seeds 36 = .ok (.bipush (-3), 2) := by decide +kernel
theorem dX9_seeds_38 : decode cX9_seeds 38 = .ok (.invokevirtual 65, 3) := by decide +kernel
theorem dX9_seeds_41 : decode cX9_seeds 41 = .ok (.ireturn, 1) := by decide +kernel
theorem dX9_seeds_42 : decode cX9_seeds 42 = .ok (.aload_n 0, 1) := by decide +kernel
theorem dX9_seeds_43 : decode cX9_seeds 43 = .ok (.getfield 22, 3) := by decide +kernel
theorem dX9_seeds_46 : decode cX9_seeds 46 = .ok (.aload_n 0, 1) := by decide +kernel
theorem dX9_seeds_47 : decode cX9_seeds 47 = .ok (.getfield 10, 3) := by decide +kernel
theorem dX9_seeds_50 : decode cX9_seeds 50 = .ok (.iload_n 1, 1) := by decide +kernel
theorem dX9_seeds_51 : decode cX9_seeds 51 = .ok (.iload_n 2, 1) := by decide +kernel
theorem dX9_seeds_52 : decode cX9_seeds 52 = .ok (.invokevirtual 228, 3) := by decide +kernel
theorem dX9_seeds_55 : decode cX9_seeds 55 = .ok (.ireturn, 1) := by decide +kernel
theorem dX9_image_0 : decode cX9_image 0 = .ok (.aload_n 0, 1) := by decide +kernel
theorem dX9_image_1 : decode cX9_image 1 = .ok (.getfield 16, 3) := by decide +kernel
theorem dX9_image_4 : decode cX9_image 4 = .ok (.aload_n 0, 1) := by decide +kernel
theorem dX9_image_5 : decode cX9_image 5 = .ok (.getfield 10, 3) := by decide +kernel
theorem dX9_image_8 : decode cX9_image 8 = .ok (.invokevirtual 89, 3) := by decide +kernel
theorem dX9_image_11 : decode cX9_image 11 = .ok (.aload_n 0, 1) := by decide +kernel
theorem dX9_image_12 : decode cX9_image 12 = .ok (.iconst 1, 1) := by decide +kernel
theorem dX9_image_13 : decode cX9_image 13 = .ok (.putfield 232, 3) := by decide +kernel
theorem dX9_image_16 : decode cX9_image 16 = .ok (.aload_n 0, 1) := by decide +kernel
theorem dX9_image_17 : decode cX9_image 17 = .ok (.getfield 10, 3) := by decide +kernel
theorem dX9_image_20 : decode cX9_image 20 = .ok (.getfield 139, 3) := by decide +kernel
theorem dX9_image_23 : decode cX9_image 23 = .ok (.ireturn, 1) := by decide +kernel
theorem dX9_restore_0 : decode cX9_restore 0 = .ok (.aload_n 0, 1) := by decide +kernel
theorem dX9_restore_1 : decode cX9_restore 1 = .ok (.getfield 232, 3) := by decide +kernel
theorem dX9_restore_4 : decode cX9_restore 4 = .ok (.ifCond .ne 10, 3) := by decide +kernel
theorem dX9_restore_7 : decode cX9_restore 7 = .ok (.aload_n 0, 1) := by decide +kernel
theorem dX9_restore_8 : decode cX9_restore 8 = .ok (.bipush (-3), 2) := by decide +kernel
theorem dX9_restore_10 : decode cX9_restore 10 = .ok (.invokevirtual 65, 3) := by decide +kernel
theorem dX9_restore_13 : decode cX9_restore 13 = .ok (.ireturn, 1) := by decide +kernel
theorem dX9_restore_14 : decode cX9_restore 14 = .ok (.aload_n 0, 1) := by decide +kernel
theorem dX9_restore_15 : decode cX9_restore 15 = .ok (.getfield 10, 3) := by decide +kernel
theorem dX9_restore_18 : decode cX9_restore 18 = .ok (.aload_n 0, 1) := by decide +kernel
theorem dX9_restore_19 : decode cX9_restore 19 = .ok (.getfield 16, 3) := by decide +kernel
theorem dX9_restore_22 : decode cX9_restore 22 = .ok (.invokevirtual 89, 3) := by decide +kernel
theorem dX9_restore_25 : decode cX9_restore 25 = .ok (.aload_n 0, 1) := by decide +kernel
theorem dX9_restore_26 : decode cX9_restore 26 = .ok (.getfield 10, 3) := by decide +kernel
theorem dX9_restore_29 : decode cX9_restore 29 = .ok (.getfield 139, 3) := by decide +kernel
theorem dX9_restore_32 : decode cX9_restore 32 = .ok (.ireturn, 1) := by decide +kernel
theorem dX9_count_0 : decode cX9_count 0 = .ok (.iload_n 1, 1) := by decide +kernel
theorem dX9_count_1 : decode cX9_count 1 = .ok (.tableswitch 142 0 9 #[55, 63, 72, 81, 90, 99, 107, 118, 126, 134], 55) := by decide +kernel
theorem dX9_count_56 : decode cX9_count 56 = .ok (.aload_n 0, 1) := by decide +kernel
theorem dX9_count_57 : decode cX9_count 57 = .ok (.getfield 10, 3) := by decide +kernel
theorem dX9_count_60 : decode cX9_count 60 = .ok (.getfield 179, 3) := by decide +kernel
theorem dX9_count_63 : decode cX9_count 63 = .ok (.ireturn, 1) := by decide +kernel
theorem dX9_count_64 : decode cX9_count 64 = .ok (.aload_n 0, 1) := by decide +kernel
theorem dX9_count_65 : decode cX9_count 65 = .ok (.getfield 10, 3) := by decide +kernel
theorem dX9_count_68 : decode cX9_count 68 = .ok (.iconst 0, 1) := by decide +kernel
theorem dX9_count_69 : decode cX9_count 69 = .ok (.invokevirtual 236, 3) := by decide +kernel
theorem dX9_count_72 : decode cX9_count 72 = .ok (.ireturn, 1) := by decide +kernel
theorem dX9_count_73 : decode cX9_count 73 = .ok (.aload_n 0, 1) := by decide +kernel
theorem dX9_count_74 : decode cX9_count 74 = .ok (.getfield 10, 3) := by decide +kernel
theorem dX9_count_77 : decode cX9_count 77 = .ok (.iconst 1, 1) := by decide +kernel
theorem dX9_count_78 : decode cX9_count 78 = .ok (.invokevirtual 236, 3) := by decide +kernel
theorem dX9_count_81 : decode cX9_count 81 = .ok (.ireturn, 1) := by decide +kernel
theorem dX9_count_82 : decode cX9_count 82 = .ok (.aload_n 0, 1) := by decide +kernel
theorem dX9_count_83 : decode cX9_count 83 = .ok (.getfield 10, 3) := by decide +kernel
theorem dX9_count_86 : decode cX9_count 86 = .ok (.iconst 2, 1) := by decide +kernel
theorem dX9_count_87 : decode cX9_count 87 = .ok (.invokevirtual 236, 3) := by decide +kernel
theorem dX9_count_90 : decode cX9_count 90 = .ok (.ireturn, 1) := by decide +kernel
theorem dX9_count_91 : decode cX9_count 91 = .ok (.aload_n 0, 1) := by decide +kernel
theorem dX9_count_92 : decode cX9_count 92 = .ok (.getfield 10, 3) := by decide +kernel
theorem dX9_count_95 : decode cX9_count 95 = .ok (.iconst 3, 1) := by decide +kernel
theorem dX9_count_96 : decode cX9_count 96 = .ok (.invokevirtual 236, 3) := by decide +kernel
theorem dX9_count_99 : decode cX9_count 99 = .ok (.ireturn, 1) := by decide +kernel
theorem dX9_count_100 : decode cX9_count 100 = .ok (.aload_n 0, 1) := by decide +kernel
theorem dX9_count_101 : decode cX9_count 101 = .ok (.getfield 10, 3) := by decide +kernel
theorem dX9_count_104 : decode cX9_count 104 = .ok (.getfield 139, 3) := by decide +kernel
theorem dX9_count_107 : decode cX9_count 107 = .ok (.ireturn, 1) := by decide +kernel
theorem dX9_count_108 : decode cX9_count 108 = .ok (.aload_n 0, 1) := by decide +kernel
theorem dX9_count_109 : decode cX9_count 109 = .ok (.getfield 10, 3) := by decide +kernel
theorem dX9_count_112 : decode cX9_count 112 = .ok (.invokevirtual 148, 3) := by decide +kernel
theorem dX9_count_115 : decode cX9_count 115 = .ok (.invokestatic 152, 3) := by decide +kernel
theorem dX9_count_118 : decode cX9_count 118 = .ok (.ireturn, 1) := by decide +kernel
theorem dX9_count_119 : decode cX9_count 119 = .ok (.aload_n 0, 1) := by decide +kernel
theorem dX9_count_120 : decode cX9_count 120 = .ok (.getfield 29, 3) := by decide +kernel
theorem dX9_count_123 : decode cX9_count 123 = .ok (.getfield 69, 3) := by decide +kernel
theorem dX9_count_126 : decode cX9_count 126 = .ok (.ireturn, 1) := by decide +kernel
theorem dX9_count_127 : decode cX9_count 127 = .ok (.aload_n 0, 1) := by decide +kernel
theorem dX9_count_128 : decode cX9_count 128 = .ok (.getfield 43, 3) := by decide +kernel
theorem dX9_count_131 : decode cX9_count 131 = .ok (.getfield 183, 3) := by decide +kernel
theorem dX9_count_134 : decode cX9_count 134 = .ok (.ireturn, 1) := by decide +kernel
theorem dX9_count_135 : decode cX9_count 135 = .ok (.aload_n 0, 1) := by decide +kernel
theorem dX9_count_136 : decode cX9_count 136 = .ok (.getfield 10, 3) := by decide +kernel
theorem dX9_count_139 : decode cX9_count 139 = .ok (.invokevirtual 239, 3) := by decide +kernel
theorem dX9_count_142 : decode cX9_count 142 = .ok (.ireturn, 1) := by decide +kernel
theorem dX9_count_143 : decode cX9_count 143 = .ok (.aload_n 0, 1) := by decide +kernel
theorem dX9_count_144 : decode cX9_count 144 = .ok (.iload_n 1, 1) := by decide +kernel
theorem dX9_count_145 : decode cX9_count 145 = .ok (.invokevirtual 242, 3) := by decide +kernel
theorem dX9_count_148 : decode cX9_count 148 = .ok (.ireturn, 1) := by decide +kernel
theorem dX9_refusalsOf_0 : decode cX9_refusalsOf 0 = .ok (.iload_n 1, 1) := by decide +kernel
theorem dX9_refusalsOf_1 : decode cX9_refusalsOf 1 = .ok (.bipush 11, 2) := by decide +kernel
theorem dX9_refusalsOf_3 : decode cX9_refusalsOf 3 = .ok (.if_icmp .lt 9, 3) := by decide +kernel
theorem dX9_refusalsOf_6 : decode cX9_refusalsOf 6 = .ok (.iload_n 1, 1) := by decide +kernel
theorem dX9_refusalsOf_7 : decode cX9_refusalsOf 7 = .ok (.bipush 17, 2) := by decide +kernel
theorem dX9_refusalsOf_9 : decode cX9_refusalsOf 9 = .ok (.if_icmp .lt 6, 3) := by decide +kernel
theorem dX9_refusalsOf_12 : decode cX9_refusalsOf 12 = .ok (.bipush (-9), 2) := by decide +kernel
theorem dX9_refusalsOf_14 : decode cX9_refusalsOf 14 = .ok (.ireturn, 1) := by decide +kernel
theorem dX9_refusalsOf_15 : decode cX9_refusalsOf 15 = .ok (.aload_n 0, 1) := by decide +kernel
theorem dX9_refusalsOf_16 : decode cX9_refusalsOf 16 = .ok (.getfield 61, 3) := by decide +kernel
theorem dX9_refusalsOf_19 : decode cX9_refusalsOf 19 = .ok (.iload_n 1, 1) := by decide +kernel
theorem dX9_refusalsOf_20 : decode cX9_refusalsOf 20 = .ok (.bipush 11, 2) := by decide +kernel
theorem dX9_refusalsOf_22 : decode cX9_refusalsOf 22 = .ok (.isub, 1) := by decide +kernel
theorem dX9_refusalsOf_23 : decode cX9_refusalsOf 23 = .ok (.iaload, 1) := by decide +kernel
theorem dX9_refusalsOf_24 : decode cX9_refusalsOf 24 = .ok (.ireturn, 1) := by decide +kernel
theorem dX9_refuse_0 : decode cX9_refuse 0 = .ok (.iconst (-1), 1) := by decide +kernel
theorem dX9_refuse_1 : decode cX9_refuse 1 = .ok (.iload_n 1, 1) := by decide +kernel
theorem dX9_refuse_2 : decode cX9_refuse 2 = .ok (.isub, 1) := by decide +kernel
theorem dX9_refuse_3 : decode cX9_refuse 3 = .ok (.istore_n 2, 1) := by decide +kernel
theorem dX9_refuse_4 : decode cX9_refuse 4 = .ok (.iload_n 2, 1) := by decide +kernel
theorem dX9_refuse_5 : decode cX9_refuse 5 = .ok (.ifCond .lt 19, 3) := by decide +kernel
theorem dX9_refuse_8 : decode cX9_refuse 8 = .ok (.iload_n 2, 1) := by decide +kernel
theorem dX9_refuse_9 : decode cX9_refuse 9 = .ok (.bipush 6, 2) := by decide +kernel
theorem dX9_refuse_11 : decode cX9_refuse 11 = .ok (.if_icmp .ge 13, 3) := by decide +kernel
theorem dX9_refuse_14 : decode cX9_refuse 14 = .ok (.aload_n 0, 1) := by decide +kernel
theorem dX9_refuse_15 : decode cX9_refuse 15 = .ok (.getfield 61, 3) := by decide +kernel
theorem dX9_refuse_18 : decode cX9_refuse 18 = .ok (.iload_n 2, 1) := by decide +kernel
theorem dX9_refuse_19 : decode cX9_refuse 19 = .ok (.dup2, 1) := by decide +kernel
theorem dX9_refuse_20 : decode cX9_refuse 20 = .ok (.iaload, 1) := by decide +kernel
theorem dX9_refuse_21 : decode cX9_refuse 21 = .ok (.iconst 1, 1) := by decide +kernel
theorem dX9_refuse_22 : decode cX9_refuse 22 = .ok (.iadd, 1) := by decide +kernel
theorem dX9_refuse_23 : decode cX9_refuse 23 = .ok (.iastore, 1) := by decide +kernel
theorem dX9_refuse_24 : decode cX9_refuse 24 = .ok (.iload_n 1, 1) := by decide +kernel
theorem dX9_refuse_25 : decode cX9_refuse 25 = .ok (.ireturn, 1) := by decide +kernel
theorem dX9_asNumber_0 : decode cX9_asNumber 0 = .ok (.iload_n 0, 1) := by decide +kernel
theorem dX9_asNumber_1 : decode cX9_asNumber 1 = .ok (.ifCond .eq 7, 3) := by decide +kernel
theorem dX9_asNumber_4 : decode cX9_asNumber 4 = .ok (.iconst 1, 1) := by decide +kernel
theorem dX9_asNumber_5 : decode cX9_asNumber 5 = .ok (.goto 4, 3) := by decide +kernel
theorem dX9_asNumber_8 : decode cX9_asNumber 8 = .ok (.iconst 0, 1) := by decide +kernel
theorem dX9_asNumber_9 : decode cX9_asNumber 9 = .ok (.ireturn, 1) := by decide +kernel
theorem dX9_formOfLetters_0 : decode cX9_formOfLetters 0 = .ok (.iconst 0, 1) := by decide +kernel
theorem dX9_formOfLetters_1 : decode cX9_formOfLetters 1 = .ok (.istore_n 1, 1) := by decide +kernel
theorem dX9_formOfLetters_2 : decode cX9_formOfLetters 2 = .ok (.iconst 0, 1) := by decide +kernel
theorem dX9_formOfLetters_3 : decode cX9_formOfLetters 3 = .ok (.istore_n 2, 1) := by decide +kernel
theorem dX9_formOfLetters_4 : decode cX9_formOfLetters 4 = .ok (.iload_n 1, 1) := by decide +kernel
theorem dX9_formOfLetters_5 : decode cX9_formOfLetters 5 = .ok (.aload_n 0, 1) := by decide +kernel
theorem dX9_formOfLetters_6 : decode cX9_formOfLetters 6 = .ok (.getfield 29, 3) := by decide +kernel
theorem dX9_formOfLetters_9 : decode cX9_formOfLetters 9 = .ok (.getfield 69, 3) := by decide +kernel
theorem dX9_formOfLetters_12 : decode cX9_formOfLetters 12 = .ok (.if_icmp .ge 51, 3) := by decide +kernel
theorem dX9_formOfLetters_15 : decode cX9_formOfLetters 15 = .ok (.iload_n 2, 1) := by decide +kernel
theorem dX9_formOfLetters_16 : decode cX9_formOfLetters 16 = .ok (.bipush 64, 2) := by decide +kernel
theorem dX9_formOfLetters_18 : decode cX9_formOfLetters 18 = .ok (.if_icmp .ge 45, 3) := by decide +kernel
theorem dX9_formOfLetters_21 : decode cX9_formOfLetters 21 = .ok (.aload_n 0, 1) := by decide +kernel
theorem dX9_formOfLetters_22 : decode cX9_formOfLetters 22 = .ok (.getfield 36, 3) := by decide +kernel
theorem dX9_formOfLetters_25 : decode cX9_formOfLetters 25 = .ok (.aload_n 0, 1) := by decide +kernel
theorem dX9_formOfLetters_26 : decode cX9_formOfLetters 26 = .ok (.getfield 29, 3) := by decide +kernel
theorem dX9_formOfLetters_29 : decode cX9_formOfLetters 29 = .ok (.iload_n 1, 1) := by decide +kernel
theorem dX9_formOfLetters_30 : decode cX9_formOfLetters 30 = .ok (.invokevirtual 245, 3) := by decide +kernel
theorem dX9_formOfLetters_33 : decode cX9_formOfLetters 33 = .ok (.aload_n 0, 1) := by decide +kernel
theorem dX9_formOfLetters_34 : decode cX9_formOfLetters 34 = .ok (.getfield 36, 3) := by decide +kernel
theorem dX9_formOfLetters_37 : decode cX9_formOfLetters 37 = .ok (.getfield 249, 3) := by decide +kernel
theorem dX9_formOfLetters_40 : decode cX9_formOfLetters 40 = .ok (.istore_n 1, 1) := by decide +kernel
theorem dX9_formOfLetters_41 : decode cX9_formOfLetters 41 = .ok (.aload_n 0, 1) := by decide +kernel
theorem dX9_formOfLetters_42 : decode cX9_formOfLetters 42 = .ok (.getfield 36, 3) := by decide +kernel
theorem dX9_formOfLetters_45 : decode cX9_formOfLetters 45 = .ok (.getfield 252, 3) := by decide +kernel
theorem dX9_formOfLetters_48 : decode cX9_formOfLetters 48 = .ok (.ifCond .ne 9, 3) := by decide +kernel
theorem dX9_formOfLetters_51 : decode cX9_formOfLetters 51 = .ok (.sipush (-1000), 3) := by decide +kernel
theorem dX9_formOfLetters_54 : decode cX9_formOfLetters 54 = .ok (.iload_n 1, 1) := by decide +kernel
theorem dX9_formOfLetters_55 : decode cX9_formOfLetters 55 = .ok (.isub, 1) := by decide +kernel
theorem dX9_formOfLetters_56 : decode cX9_formOfLetters 56 = .ok (.ireturn, 1) := by decide +kernel
theorem dX9_formOfLetters_57 : decode cX9_formOfLetters 57 = .ok (.iinc 2 1, 3) := by decide +kernel
theorem dX9_formOfLetters_60 : decode cX9_formOfLetters 60 = .ok (.goto (-56), 3) := by decide +kernel
theorem dX9_formOfLetters_63 : decode cX9_formOfLetters 63 = .ok (.iload_n 2, 1) := by decide +kernel
theorem dX9_formOfLetters_64 : decode cX9_formOfLetters 64 = .ok (.ifCond .ne 9, 3) := by decide +kernel
theorem dX9_formOfLetters_67 : decode cX9_formOfLetters 67 = .ok (.sipush (-1000), 3) := by decide +kernel
theorem dX9_formOfLetters_70 : decode cX9_formOfLetters 70 = .ok (.goto 4, 3) := by decide +kernel
theorem dX9_formOfLetters_73 : decode cX9_formOfLetters 73 = .ok (.iload_n 2, 1) := by decide +kernel
theorem dX9_formOfLetters_74 : decode cX9_formOfLetters 74 = .ok (.ireturn, 1) := by decide +kernel
theorem dX9_takeLetters_0 : decode cX9_takeLetters 0 = .ok (.iconst 0, 1) := by decide +kernel
theorem dX9_takeLetters_1 : decode cX9_takeLetters 1 = .ok (.istore_n 2, 1) := by decide +kernel
theorem dX9_takeLetters_2 : decode cX9_takeLetters 2 = .ok (.iconst 0, 1) := by decide +kernel
theorem dX9_takeLetters_3 : decode cX9_takeLetters 3 = .ok (.istore_n 3, 1) := by decide +kernel
theorem dX9_takeLetters_4 : decode cX9_takeLetters 4 = .ok (.iload_n 3, 1) := by decide +kernel
theorem dX9_takeLetters_5 : decode cX9_takeLetters 5 = .ok (.bipush 64, 2) := by decide +kernel
theorem dX9_takeLetters_7 : decode cX9_takeLetters 7 = .ok (.if_icmp .ge 57, 3) := by decide +kernel
theorem dX9_takeLetters_10 : decode cX9_takeLetters 10 = .ok (.iload_n 2, 1) := by decide +kernel
theorem dX9_takeLetters_11 : decode cX9_takeLetters 11 = .ok (.aload_n 0, 1) := by decide +kernel
theorem dX9_takeLetters_12 : decode cX9_takeLetters 12 = .ok (.getfield 29, 3) := by decide +kernel
theorem dX9_takeLetters_15 : decode cX9_takeLetters 15 = .ok (.getfield 69, 3) := by decide +kernel
theorem dX9_takeLetters_18 : decode cX9_takeLetters 18 = .ok (.if_icmp .ge 46, 3) := by decide +kernel
theorem dX9_takeLetters_21 : decode cX9_takeLetters 21 = .ok (.aload_n 0, 1) := by decide +kernel
theorem dX9_takeLetters_22 : decode cX9_takeLetters 22 = .ok (.getfield 36, 3) := by decide +kernel
theorem dX9_takeLetters_25 : decode cX9_takeLetters 25 = .ok (.aload_n 0, 1) := by decide +kernel
theorem dX9_takeLetters_26 : decode cX9_takeLetters 26 = .ok (.getfield 29, 3) := by decide +kernel
theorem dX9_takeLetters_29 : decode cX9_takeLetters 29 = .ok (.iload_n 2, 1) := by decide +kernel
theorem dX9_takeLetters_30 : decode cX9_takeLetters 30 = .ok (.invokevirtual 245, 3) := by decide +kernel
theorem dX9_takeLetters_33 : decode cX9_takeLetters 33 = .ok (.aload_n 1, 1) := by decide +kernel
theorem dX9_takeLetters_34 : decode cX9_takeLetters 34 = .ok (.aload_n 0, 1) := by decide +kernel
theorem dX9_takeLetters_35 : decode cX9_takeLetters 35 = .ok (.getfield 36, 3) := by decide +kernel
theorem dX9_takeLetters_38 : decode cX9_takeLetters 38 = .ok (.invokevirtual 255, 3) := by decide +kernel
theorem dX9_takeLetters_41 : decode cX9_takeLetters 41 = .ok (.ifCond .ne 9, 3) := by decide +kernel
theorem dX9_takeLetters_44 : decode cX9_takeLetters 44 = .ok (.sipush (-2000), 3) := by decide +kernel
theorem dX9_takeLetters_47 : decode cX9_takeLetters 47 = .ok (.iload_n 2, 1) := by decide +kernel
theorem dX9_takeLetters_48 : decode cX9_takeLetters 48 = .ok (.isub, 1) := by decide +kernel
theorem dX9_takeLetters_49 : decode cX9_takeLetters 49 = .ok (.ireturn, 1) := by decide +kernel
theorem dX9_takeLetters_50 : decode cX9_takeLetters 50 = .ok (.aload_n 0, 1) := by decide +kernel
theorem dX9_takeLetters_51 : decode cX9_takeLetters 51 = .ok (.getfield 36, 3) := by decide +kernel
theorem dX9_takeLetters_54 : decode cX9_takeLetters 54 = .ok (.getfield 249, 3) := by decide +kernel
theorem dX9_takeLetters_57 : decode cX9_takeLetters 57 = .ok (.istore_n 2, 1) := by decide +kernel
theorem dX9_takeLetters_58 : decode cX9_takeLetters 58 = .ok (.iinc 3 1, 3) := by decide +kernel
theorem dX9_takeLetters_61 : decode cX9_takeLetters 61 = .ok (.goto (-57), 3) := by decide +kernel
theorem dX9_takeLetters_64 : decode cX9_takeLetters 64 = .ok (.iconst 0, 1) := by decide +kernel
theorem dX9_takeLetters_65 : decode cX9_takeLetters 65 = .ok (.ireturn, 1) := by decide +kernel
theorem dX10_init_0 : decode cX10_init 0 = .ok (.aload_n 0, 1) := by decide +kernel
theorem dX10_init_1 : decode cX10_init 1 = .ok (.invokespecial 1, 3) := by decide +kernel
theorem dX10_init_4 : decode cX10_init 4 = .ok (.aload_n 0, 1) := by decide +kernel
theorem dX10_init_5 : decode cX10_init 5 = .ok (.bipush 7, 2) := by decide +kernel
theorem dX10_init_7 : decode cX10_init 7 = .ok (.newarray .int, 2) := by decide +kernel
theorem dX10_init_9 : decode cX10_init 9 = .ok (.putfield 7, 3) := by decide +kernel
theorem dX10_init_12 : decode cX10_init 12 = .ok (.aload_n 0, 1) := by decide +kernel
theorem dX10_init_13 : decode cX10_init 13 = .ok (.bipush 12, 2) := by decide +kernel
theorem dX10_init_15 : decode cX10_init 15 = .ok (.newarray .int, 2) := by decide +kernel
theorem dX10_init_17 : decode cX10_init 17 = .ok (.putfield 13, 3) := by decide +kernel
theorem dX10_init_20 : decode cX10_init 20 = .ok (.aload_n 0, 1) := by decide +kernel
theorem dX10_init_21 : decode cX10_init 21 = .ok (.bipush 12, 2) := by decide +kernel
theorem dX10_init_23 : decode cX10_init 23 = .ok (.newarray .int, 2) := by decide +kernel
theorem dX10_init_25 : decode cX10_init 25 = .ok (.putfield 16, 3) := by decide +kernel
theorem dX10_init_28 : decode cX10_init 28 = .ok (.aload_n 0, 1) := by decide +kernel
theorem dX10_init_29 : decode cX10_init 29 = .ok (.bipush 12, 2) := by decide +kernel
theorem dX10_init_31 : decode cX10_init 31 = .ok (.newarray .int, 2) := by decide +kernel
theorem dX10_init_33 : decode cX10_init 33 = .ok (.putfield 19, 3) := by decide +kernel
theorem dX10_init_36 : decode cX10_init 36 = .ok (.aload_n 0, 1) := by decide +kernel
theorem dX10_init_37 : decode cX10_init 37 = .ok (.bipush 12, 2) := by decide +kernel
theorem dX10_init_39 : decode cX10_init 39 = .ok (.newarray .int, 2) := by decide +kernel
theorem dX10_init_41 : decode cX10_init 41 = .ok (.putfield 22, 3) := by decide +kernel
theorem dX10_init_44 : decode cX10_init 44 = .ok (.aload_n 0, 1) := by decide +kernel
theorem dX10_init_45 : decode cX10_init 45 = .ok (.bipush 12, 2) := by decide +kernel
theorem dX10_init_47 : decode cX10_init 47 = .ok (.newarray .int, 2) := by decide +kernel
theorem dX10_init_49 : decode cX10_init 49 = .ok (.putfield 25, 3) := by decide +kernel
theorem dX10_init_52 : decode cX10_init 52 = .ok (.aload_n 0, 1) := by decide +kernel
theorem dX10_init_53 : decode cX10_init 53 = .ok (.iconst 4, 1) := by decide +kernel
theorem dX10_init_54 : decode cX10_init 54 = .ok (.newarray .int, 2) := by decide +kernel
theorem dX10_init_56 : decode cX10_init 56 = .ok (.dup, 1) := by decide +kernel
theorem dX10_init_57 : decode cX10_init 57 = .ok (.iconst 0, 1) := by decide +kernel
theorem dX10_init_58 : decode cX10_init 58 = .ok (.sipush 230, 3) := by decide +kernel
theorem dX10_init_61 : decode cX10_init 61 = .ok (.iastore, 1) := by decide +kernel
theorem dX10_init_62 : decode cX10_init 62 = .ok (.dup, 1) := by decide +kernel
theorem dX10_init_63 : decode cX10_init 63 = .ok (.iconst 1, 1) := by decide +kernel
theorem dX10_init_64 : decode cX10_init 64 = .ok (.iconst 3, 1) := by decide +kernel
theorem dX10_init_65 : decode cX10_init 65 = .ok (.iastore, 1) := by decide +kernel
theorem dX10_init_66 : decode cX10_init 66 = .ok (.dup, 1) := by decide +kernel
theorem dX10_init_67 : decode cX10_init 67 = .ok (.iconst 2, 1) := by decide +kernel
theorem dX10_init_68 : decode cX10_init 68 = .ok (.bipush 100, 2) := by decide +kernel
theorem dX10_init_70 : decode cX10_init 70 = .ok (.iastore, 1) := by decide +kernel
theorem dX10_init_71 : decode cX10_init 71 = .ok (.dup, 1) := by decide +kernel
theorem dX10_init_72 : decode cX10_init 72 = .ok (.iconst 3, 1) := by decide +kernel
theorem dX10_init_73 : decode cX10_init 73 = .ok (.iconst 3, 1) := by decide +kernel
theorem dX10_init_74 : decode cX10_init 74 = .ok (.iastore, 1) := by decide +kernel
theorem dX10_init_75 : decode cX10_init 75 = .ok (.putfield 28, 3) := by decide +kernel
theorem dX10_init_78 : decode cX10_init 78 = .ok (.aload_n 0, 1) := by decide +kernel
theorem dX10_init_79 : decode cX10_init 79 = .ok (.bipush 64, 2) := by decide +kernel
theorem dX10_init_81 : decode cX10_init 81 = .ok (.newarray .int, 2) := by decide +kernel
theorem dX10_init_83 : decode cX10_init 83 = .ok (.putfield 31, 3) := by decide +kernel
theorem dX10_init_86 : decode cX10_init 86 = .ok (.aload_n 0, 1) := by decide +kernel
theorem dX10_init_87 : decode cX10_init 87 = .ok (.bipush 32, 2) := by decide +kernel
theorem dX10_init_89 : decode cX10_init 89 = .ok (.newarray .int, 2) := by decide +kernel
theorem dX10_init_91 : decode cX10_init 91 = .ok (.putfield 34, 3) := by decide +kernel
theorem dX10_init_94 : decode cX10_init 94 = .ok (.aload_n 0, 1) := by decide +kernel
theorem dX10_init_95 : decode cX10_init 95 = .ok (.bipush 32, 2) := by decide +kernel
theorem dX10_init_97 : decode cX10_init 97 = .ok (.newarray .int, 2) := by decide +kernel
theorem dX10_init_99 : decode cX10_init 99 = .ok (.putfield 37, 3) := by decide +kernel
theorem dX10_init_102 : decode cX10_init 102 = .ok (.aload_n 0, 1) := by decide +kernel
theorem dX10_init_103 : decode cX10_init 103 = .ok (.bipush 96, 2) := by decide +kernel
theorem dX10_init_105 : decode cX10_init 105 = .ok (.newarray .int, 2) := by decide +kernel
theorem dX10_init_107 : decode cX10_init 107 = .ok (.putfield 40, 3) := by decide +kernel
theorem dX10_init_110 : decode cX10_init 110 = .ok (.aload_n 0, 1) := by decide +kernel
theorem dX10_init_111 : decode cX10_init 111 = .ok (.sipush 160, 3) := by decide +kernel
theorem dX10_init_114 : decode cX10_init 114 = .ok (.newarray .int, 2) := by decide +kernel
theorem dX10_init_116 : decode cX10_init 116 = .ok (.putfield 43, 3) := by decide +kernel
theorem dX10_init_119 : decode cX10_init 119 = .ok (.aload_n 0, 1) := by decide +kernel
theorem dX10_init_120 : decode cX10_init 120 = .ok (.bipush 12, 2) := by decide +kernel
theorem dX10_init_122 : decode cX10_init 122 = .ok (.newarray .int, 2) := by decide +kernel
theorem dX10_init_124 : decode cX10_init 124 = .ok (.putfield 46, 3) := by decide +kernel
theorem dX10_init_127 : decode cX10_init 127 = .ok (.aload_n 0, 1) := by decide +kernel
theorem dX10_init_128 : decode cX10_init 128 = .ok (.sipush 144, 3) := by decide +kernel
theorem dX10_init_131 : decode cX10_init 131 = .ok (.newarray .int, 2) := by decide +kernel
theorem dX10_init_133 : decode cX10_init 133 = .ok (.putfield 49, 3) := by decide +kernel
theorem dX10_init_136 : decode cX10_init 136 = .ok (.aload_n 0, 1) := by decide +kernel
theorem dX10_init_137 : decode cX10_init 137 = .ok (.sipush 144, 3) := by decide +kernel
theorem dX10_init_140 : decode cX10_init 140 = .ok (.newarray .int, 2) := by decide +kernel
theorem dX10_init_142 : decode cX10_init 142 = .ok (.putfield 52, 3) := by decide +kernel
theorem dX10_init_145 : decode cX10_init 145 = .ok (.aload_n 0, 1) := by decide +kernel
theorem dX10_init_146 : decode cX10_init 146 = .ok (.sipush 144, 3) := by decide +kernel
theorem dX10_init_149 : decode cX10_init 149 = .ok (.newarray .int, 2) := by decide +kernel
theorem dX10_init_151 : decode cX10_init 151 = .ok (.putfield 55, 3) := by decide +kernel
theorem dX10_init_154 : decode cX10_init 154 = .ok (.aload_n 0, 1) := by decide +kernel
theorem dX10_init_155 : decode cX10_init 155 = .ok (.sipush 144, 3) := by decide +kernel
theorem dX10_init_158 : decode cX10_init 158 = .ok (.newarray .int, 2) := by decide +kernel
theorem dX10_init_160 : decode cX10_init 160 = .ok (.putfield 58, 3) := by decide +kernel
theorem dX10_init_163 : decode cX10_init 163 = .ok (.aload_n 0, 1) := by decide +kernel
theorem dX10_init_164 : decode cX10_init 164 = .ok (.bipush 12, 2) := by decide +kernel
theorem dX10_init_166 : decode cX10_init 166 = .ok (.newarray .int, 2) := by decide +kernel
theorem dX10_init_168 : decode cX10_init 168 = .ok (.putfield 61, 3) := by decide +kernel
theorem dX10_init_171 : decode cX10_init 171 = .ok (.aload_n 0, 1) := by decide +kernel
theorem dX10_init_172 : decode cX10_init 172 = .ok (.bipush 6, 2) := by decide +kernel
theorem dX10_init_174 : decode cX10_init 174 = .ok (.newarray .int, 2) := by decide +kernel
theorem dX10_init_176 : decode cX10_init 176 = .ok (.putfield 64, 3) := by decide +kernel
theorem dX10_init_179 : decode cX10_init 179 = .ok (.aload_n 0, 1) := by decide +kernel
theorem dX10_init_180 : decode cX10_init 180 = .ok (.bipush 6, 2) := by decide +kernel
theorem dX10_init_182 : decode cX10_init 182 = .ok (.newarray .int, 2) := by decide +kernel
theorem dX10_init_184 : decode cX10_init 184 = .ok (.putfield 67, 3) := by decide +kernel
theorem dX10_init_187 : decode cX10_init 187 = .ok (.return_, 1) := by decide +kernel
theorem dX10_no_0 : decode cX10_no 0 = .ok (.aload_n 0, 1) := by decide +kernel
theorem dX10_no_1 : decode cX10_no 1 = .ok (.getfield 7, 3) := by decide +kernel
theorem dX10_no_4 : decode cX10_no 4 = .ok (.iload_n 1, 1) := by decide +kernel
theorem dX10_no_5 : decode cX10_no 5 = .ok (.ineg, 1) := by decide +kernel
theorem dX10_no_6 : decode cX10_no 6 = .ok (.dup2, 1) := by decide +kernel
theorem dX10_no_7 : decode cX10_no 7 = .ok (.iaload, 1) := by decide +kernel
theorem dX10_no_8 : decode cX10_no 8 = .ok (.iconst 1, 1) := by decide +kernel
theorem dX10_no_9 : decode cX10_no 9 = .ok (.iadd, 1) := by decide +kernel
theorem dX10_no_10 : decode cX10_no 10 = .ok (.iastore, 1) := by decide +kernel
theorem dX10_no_11 : decode cX10_no 11 = .ok (.iload_n 1, 1) := by decide +kernel
theorem dX10_no_12 : decode cX10_no 12 = .ok (.ireturn, 1) := by decide +kernel
theorem dX10_lowest_0 : decode cX10_lowest 0 = .ok (.aload_n 0, 1) := by decide +kernel
theorem dX10_lowest_1 : decode cX10_lowest 1 = .ok (.getfield 7, 3) := by decide +kernel
theorem dX10_lowest_4 : decode cX10_lowest 4 = .ok (.iload_n 1, 1) := by decide +kernel
theorem dX10_lowest_5 : decode cX10_lowest 5 = .ok (.ineg, 1) := by decide +kernel
theorem dX10_lowest_6 : decode cX10_lowest 6 = .ok (.dup2, 1) := by decide +kernel
theorem dX10_lowest_7 : decode cX10_lowest 7 = .ok (.iaload, 1) := by decide +kernel
theorem dX10_lowest_8 : decode cX10_lowest 8 = .ok (.iconst 1, 1) := by decide +kernel
theorem dX10_lowest_9 : decode cX10_lowest 9 = .ok (.iadd, 1) := by decide +kernel
theorem dX10_lowest_10 : decode cX10_lowest 10 = .ok (.iastore, 1) := by decide +kernel
theorem dX10_lowest_11 : decode cX10_lowest 11 = .ok (.ldc2_w 70, 3) := by decide +kernel
theorem dX10_lowest_14 : decode cX10_lowest 14 = .ok (.iload_n 1, 1) := by decide +kernel
theorem dX10_lowest_15 : decode cX10_lowest 15 = .ok (.i2l, 1) := by decide +kernel
theorem dX10_lowest_16 : decode cX10_lowest 16 = .ok (.lsub, 1) := by decide +kernel
theorem dX10_lowest_17 : decode cX10_lowest 17 = .ok (.lreturn, 1) := by decide +kernel
theorem dX10_isIn_0 : decode cX10_isIn 0 = .ok (.iload_n 0, 1) := by decide +kernel
theorem dX10_isIn_1 : decode cX10_isIn 1 = .ok (.iload_n 1, 1) := by decide +kernel
theorem dX10_isIn_2 : decode cX10_isIn 2 = .ok (.if_icmp .lt 12, 3) := by decide +kernel
theorem dX10_isIn_5 : decode cX10_isIn 5 = .ok (.iload_n 0, 1) := by decide +kernel
theorem dX10_isIn_6 : decode cX10_isIn 6 = .ok (.iload_n 2, 1) := by decide +kernel
theorem dX10_isIn_7 : decode cX10_isIn 7 = .ok (.if_icmp .gt 7, 3) := by decide +kernel
theorem dX10_isIn_10 : decode cX10_isIn 10 = .ok (.iconst 1, 1) := by decide +kernel
theorem dX10_isIn_11 : decode cX10_isIn 11 = .ok (.goto 4, 3) := by decide +kernel
theorem dX10_isIn_14 : decode cX10_isIn 14 = .ok (.iconst 0, 1) := by decide +kernel
theorem dX10_isIn_15 : decode cX10_isIn 15 = .ok (.ireturn, 1) := by decide +kernel
theorem dX10_bound_0 : decode cX10_bound 0 = .ok (.iload_n 0, 1) := by decide +kernel
theorem dX10_bound_1 : decode cX10_bound 1 = .ok (.iload_n 1, 1) := by decide +kernel
theorem dX10_bound_2 : decode cX10_bound 2 = .ok (.if_icmp .ge 8, 3) := by decide +kernel
theorem dX10_bound_5 : decode cX10_bound 5 = .ok (.bipush (-4), 2) := by decide +kernel
theorem dX10_bound_7 : decode cX10_bound 7 = .ok (.goto 14, 3) := by decide +kernel
theorem dX10_bound_10 : decode cX10_bound 10 = .ok (.iload_n 0, 1) := by decide +kernel
theorem dX10_bound_11 : decode cX10_bound 11 = .ok (.iload_n 2, 1) := by decide +kernel
theorem dX10_bound_12 : decode cX10_bound 12 = .ok (.if_icmp .le 8, 3) := by decide +kernel
theorem dX10_bound_15 : decode cX10_bound 15 = .ok (.bipush (-6), 2) := by decide +kernel
theorem dX10_bound_17 : decode cX10_bound 17 = .ok (.goto 4, 3) := by decide +kernel
theorem dX10_bound_20 : decode cX10_bound 20 = .ok (.iconst 0, 1) := by decide +kernel
theorem dX10_bound_21 : decode cX10_bound 21 = .ok (.ireturn, 1) := by decide +kernel
theorem dX10_isLamp_0 : decode cX10_isLamp 0 = .ok (.iload_n 1, 1) := by decide +kernel
theorem dX10_isLamp_1 : decode cX10_isLamp 1 = .ok (.ifCond .lt 15, 3) := by decide +kernel
theorem dX10_isLamp_4 : decode cX10_isLamp 4 = .ok (.iload_n 1, 1) := by decide +kernel
theorem dX10_isLamp_5 : decode cX10_isLamp 5 = .ok (.aload_n 0, 1) := by decide +kernel
theorem dX10_isLamp_6 : decode cX10_isLamp 6 = .ok (.getfield 72, 3) := by decide +kernel
theorem dX10_isLamp_9 : decode cX10_isLamp 9 = .ok (.if_icmp .ge 7, 3) := by decide +kernel
theorem dX10_isLamp_12 : decode cX10_isLamp 12 = .ok (.iconst 1, 1) := by decide +kernel
theorem dX10_isLamp_13 : decode cX10_isLamp 13 = .ok (.goto 4, 3) := by decide +kernel
theorem dX10_isLamp_16 : decode cX10_isLamp 16 = .ok (.iconst 0, 1) := by decide +kernel
theorem dX10_isLamp_17 : decode cX10_isLamp 17 = .ok (.ireturn, 1) := by decide +kernel
theorem dX10_least_0 : decode cX10_least 0 = .ok (.iload_n 0, 1) := by decide +kernel
theorem dX10_least_1 : decode cX10_least 1 = .ok (.iload_n 1, 1) := by decide +kernel
theorem dX10_least_2 : decode cX10_least 2 = .ok (.if_icmp .ge 7, 3) := by decide +kernel
theorem dX10_least_5 : decode cX10_least 5 = .ok (.iload_n 0, 1) := by decide +kernel
theorem dX10_least_6 : decode cX10_least 6 = .ok (.goto 4, 3) := by decide +kernel
theorem dX10_least_9 : decode cX10_least 9 = .ok (.iload_n 1, 1) := by decide +kernel
theorem dX10_least_10 : decode cX10_least 10 = .ok (.ireturn, 1) := by decide +kernel
theorem dX10_feed_0 : decode cX10_feed 0 = .ok (.iload_n 1, 1) := by decide +kernel
theorem dX10_feed_1 : decode cX10_feed 1 = .ok (.iconst 0, 1) := by decide +kernel
theorem dX10_feed_2 : decode cX10_feed 2 = .ok (.sipush 255, 3) := by decide +kernel
theorem dX10_feed_5 : decode cX10_feed 5 = .ok (.invokestatic 76, 3) := by decide +kernel
theorem dX10_feed_8 : decode cX10_feed 8 = .ok (.istore_n 2, 1) := by decide +kernel
theorem dX10_feed_9 : decode cX10_feed 9 = .ok (.iload_n 2, 1) := by decide +kernel
theorem dX10_feed_10 : decode cX10_feed 10 = .ok (.ifCond .ne 15, 3) := by decide +kernel
theorem dX10_feed_13 : decode cX10_feed 13 = .ok (.aload_n 0, 1) := by decide +kernel
theorem dX10_feed_14 : decode cX10_feed 14 = .ok (.getfield 80, 3) := by decide +kernel
theorem dX10_feed_17 : decode cX10_feed 17 = .ok (.bipush 64, 2) := by decide +kernel
theorem dX10_feed_19 : decode cX10_feed 19 = .ok (.if_icmp .ne 6, 3) := by decide +kernel
theorem dX10_feed_22 : decode cX10_feed 22 = .ok (.bipush (-6), 2) := by decide +kernel
theorem dX10_feed_24 : decode cX10_feed 24 = .ok (.istore_n 2, 1) := by decide +kernel
theorem dX10_feed_25 : decode cX10_feed 25 = .ok (.iload_n 2, 1) := by decide +kernel
theorem dX10_feed_26 : decode cX10_feed 26 = .ok (.ifCond .eq 9, 3) := by decide +kernel
theorem dX10_feed_29 : decode cX10_feed 29 = .ok (.aload_n 0, 1) := by decide +kernel
theorem dX10_feed_30 : decode cX10_feed 30 = .ok (.iload_n 2, 1) := by decide +kernel
theorem dX10_feed_31 : decode cX10_feed 31 = .ok (.invokevirtual 83, 3) := by decide +kernel
theorem dX10_feed_34 : decode cX10_feed 34 = .ok (.ireturn, 1) := by decide +kernel
theorem dX10_feed_35 : decode cX10_feed 35 = .ok (.aload_n 0, 1) := by decide +kernel
theorem dX10_feed_36 : decode cX10_feed 36 = .ok (.getfield 31, 3) := by decide +kernel
theorem dX10_feed_39 : decode cX10_feed 39 = .ok (.aload_n 0, 1) := by decide +kernel
theorem dX10_feed_40 : decode cX10_feed 40 = .ok (.getfield 80, 3) := by decide +kernel
theorem dX10_feed_43 : decode cX10_feed 43 = .ok (.iload_n 1, 1) := by decide +kernel
theorem dX10_feed_44 : decode cX10_feed 44 = .ok (.iastore, 1) := by decide +kernel
theorem dX10_feed_45 : decode cX10_feed 45 = .ok (.aload_n 0, 1) := by decide +kernel
theorem dX10_feed_46 : decode cX10_feed 46 = .ok (.dup, 1) := by decide +kernel
theorem dX10_feed_47 : decode cX10_feed 47 = .ok (.getfield 80, 3) := by decide +kernel
theorem dX10_feed_50 : decode cX10_feed 50 = .ok (.iconst 1, 1) := by decide +kernel
theorem dX10_feed_51 : decode cX10_feed 51 = .ok (.iadd, 1) := by decide +kernel
theorem dX10_feed_52 : decode cX10_feed 52 = .ok (.putfield 80, 3) := by decide +kernel
theorem dX10_feed_55 : decode cX10_feed 55 = .ok (.aload_n 0, 1) := by decide +kernel
theorem dX10_feed_56 : decode cX10_feed 56 = .ok (.getfield 80, 3) := by decide +kernel
theorem dX10_feed_59 : decode cX10_feed 59 = .ok (.ireturn, 1) := by decide +kernel
theorem dX10_nextLetter_0 : decode cX10_nextLetter 0 = .ok (.aload_n 0, 1) := by decide +kernel
theorem dX10_nextLetter_1 : decode cX10_nextLetter 1 = .ok (.getfield 87, 3) := by decide +kernel
theorem dX10_nextLetter_4 : decode cX10_nextLetter 4 = .ok (.aload_n 0, 1) := by decide +kernel
theorem dX10_nextLetter_5 : decode cX10_nextLetter 5 = .ok (.getfield 80, 3) := by decide +kernel
theorem dX10_nextLetter_8 : decode cX10_nextLetter 8 = .ok (.if_icmp .ge 15, 3) := by decide +kernel
theorem dX10_nextLetter_11 : decode cX10_nextLetter 11 = .ok (.aload_n 0, 1) := by decide +kernel
theorem dX10_nextLetter_12 : decode cX10_nextLetter 12 = .ok (.getfield 31, 3) := by decide +kernel
theorem dX10_nextLetter_15 : decode cX10_nextLetter 15 = .ok (.aload_n 0, 1) := by decide +kernel
theorem dX10_nextLetter_16 : decode cX10_nextLetter 16 = .ok (.getfield 87, 3) := by decide +kernel
theorem dX10_nextLetter_19 : decode cX10_nextLetter 19 = .ok (.iaload, 1) := by decide +kernel
theorem dX10_nextLetter_20 : decode cX10_nextLetter 20 = .ok (.goto 4, 3) := by decide +kernel
theorem dX10_nextLetter_23 : decode cX10_nextLetter 23 = .ok (.iconst (-1), 1) := by decide +kernel
theorem dX10_nextLetter_24 : decode cX10_nextLetter 24 = .ok (.ireturn, 1) := by decide +kernel
theorem dX10_isNext_0 : decode cX10_isNext 0 = .ok (.aload_n 0, 1) := by decide +kernel
theorem dX10_isNext_1 : decode cX10_isNext 1 = .ok (.invokevirtual 90, 3) := by decide +kernel
theorem dX10_isNext_4 : decode cX10_isNext 4 = .ok (.iload_n 1, 1) := by decide +kernel
theorem dX10_isNext_5 : decode cX10_isNext 5 = .ok (.if_icmp .eq 5, 3) := by decide +kernel
theorem dX10_isNext_8 : decode cX10_isNext 8 = .ok (.iconst 0, 1) := by decide +kernel
theorem dX10_isNext_9 : decode cX10_isNext 9 = .ok (.ireturn, 1) := by decide +kernel
theorem dX10_isNext_10 : decode cX10_isNext 10 = .ok (.aload_n 0, 1) := by decide +kernel
theorem dX10_isNext_11 : decode cX10_isNext 11 = .ok (.dup, 1) := by decide +kernel
theorem dX10_isNext_12 : decode cX10_isNext 12 = .ok (.getfield 87, 3) := by decide +kernel
theorem dX10_isNext_15 : decode cX10_isNext 15 = .ok (.iconst 1, 1) := by decide +kernel
theorem dX10_isNext_16 : decode cX10_isNext 16 = .ok (.iadd, 1) := by decide +kernel
theorem dX10_isNext_17 : decode cX10_isNext 17 = .ok (.putfield 87, 3) := by decide +kernel
theorem dX10_isNext_20 : decode cX10_isNext 20 = .ok (.iconst 1, 1) := by decide +kernel
theorem dX10_isNext_21 : decode cX10_isNext 21 = .ok (.ireturn, 1) := by decide +kernel
theorem dX10_reads_0 : decode cX10_reads 0 = .ok (.aload_n 0, 1) := by decide +kernel
theorem dX10_reads_1 : decode cX10_reads 1 = .ok (.invokevirtual 90, 3) := by decide +kernel
theorem dX10_reads_4 : decode cX10_reads 4 = .ok (.bipush 48, 2) := by decide +kernel
theorem dX10_reads_6 : decode cX10_reads 6 = .ok (.bipush 57, 2) := by decide +kernel
theorem dX10_reads_8 : decode cX10_reads 8 = .ok (.invokestatic 94, 3) := by decide +kernel
theorem dX10_reads_11 : decode cX10_reads 11 = .ok (.ifCond .ne 5, 3) := by decide +kernel
theorem dX10_reads_14 : decode cX10_reads 14 = .ok (.iconst 0, 1) := by decide +kernel
theorem dX10_reads_15 : decode cX10_reads 15 = .ok (.ireturn, 1) := by decide +kernel
theorem dX10_reads_16 : decode cX10_reads 16 = .ok (.iconst 0, 1) := by decide +kernel
theorem dX10_reads_17 : decode cX10_reads 17 = .ok (.istore_n 3, 1) := by decide +kernel
theorem dX10_reads_18 : decode cX10_reads 18 = .ok (.iconst 0, 1) := by decide +kernel
theorem dX10_reads_19 : decode cX10_reads 19 = .ok (.istore 4, 2) := by decide +kernel
theorem dX10_reads_21 : decode cX10_reads 21 = .ok (.iload 4, 2) := by decide +kernel
theorem dX10_reads_23 : decode cX10_reads 23 = .ok (.iload_n 2, 1) := by decide +kernel
theorem dX10_reads_24 : decode cX10_reads 24 = .ok (.if_icmp .ge 46, 3) := by decide +kernel
theorem dX10_reads_27 : decode cX10_reads 27 = .ok (.aload_n 0, 1) := by decide +kernel
theorem dX10_reads_28 : decode cX10_reads 28 = .ok (.invokevirtual 90, 3) := by decide +kernel
theorem dX10_reads_31 : decode cX10_reads 31 = .ok (.bipush 48, 2) := by decide +kernel
theorem dX10_reads_33 : decode cX10_reads 33 = .ok (.bipush 57, 2) := by decide +kernel
theorem dX10_reads_35 : decode cX10_reads 35 = .ok (.invokestatic 94, 3) := by decide +kernel
theorem dX10_reads_38 : decode cX10_reads 38 = .ok (.ifCond .eq 32, 3) := by decide +kernel
theorem dX10_reads_41 : decode cX10_reads 41 = .ok (.bipush 10, 2) := by decide +kernel
theorem dX10_reads_43 : decode cX10_reads 43 = .ok (.iload_n 3, 1) := by decide +kernel
theorem dX10_reads_44 : decode cX10_reads 44 = .ok (.imul, 1) := by decide +kernel
theorem dX10_reads_45 : decode cX10_reads 45 = .ok (.aload_n 0, 1) := by decide +kernel
theorem dX10_reads_46 : decode cX10_reads 46 = .ok (.invokevirtual 90, 3) := by decide +kernel
theorem dX10_reads_49 : decode cX10_reads 49 = .ok (.iadd, 1) := by decide +kernel
theorem dX10_reads_50 : decode cX10_reads 50 = .ok (.bipush 48, 2) := by decide +kernel
theorem dX10_reads_52 : decode cX10_reads 52 = .ok (.isub, 1) := by decide +kernel
theorem dX10_reads_53 : decode cX10_reads 53 = .ok (.istore_n 3, 1) := by decide +kernel
theorem dX10_reads_54 : decode cX10_reads 54 = .ok (.aload_n 0, 1) := by decide +kernel
theorem dX10_reads_55 : decode cX10_reads 55 = .ok (.dup, 1) := by decide +kernel
theorem dX10_reads_56 : decode cX10_reads 56 = .ok (.getfield 87, 3) := by decide +kernel
theorem dX10_reads_59 : decode cX10_reads 59 = .ok (.iconst 1, 1) := by decide +kernel
theorem dX10_reads_60 : decode cX10_reads 60 = .ok (.iadd, 1) := by decide +kernel
theorem dX10_reads_61 : decode cX10_reads 61 = .ok (.putfield 87, 3) := by decide +kernel
theorem dX10_reads_64 : decode cX10_reads 64 = .ok (.iinc 4 1, 3) := by decide +kernel
theorem dX10_reads_67 : decode cX10_reads 67 = .ok (.goto (-46), 3) := by decide +kernel
theorem dX10_reads_70 : decode cX10_reads 70 = .ok (.aload_n 0, 1) := by decide +kernel
theorem dX10_reads_71 : decode cX10_reads 71 = .ok (.getfield 40, 3) := by decide +kernel
theorem dX10_reads_74 : decode cX10_reads 74 = .ok (.iload_n 1, 1) := by decide +kernel
theorem dX10_reads_75 : decode cX10_reads 75 = .ok (.iload_n 3, 1) := by decide +kernel
theorem dX10_reads_76 : decode cX10_reads 76 = .ok (.iastore, 1) := by decide +kernel
theorem dX10_reads_77 : decode cX10_reads 77 = .ok (.iconst 1, 1) := by decide +kernel
theorem dX10_reads_78 : decode cX10_reads 78 = .ok (.ireturn, 1) := by decide +kernel
theorem dX10_statement_0 : decode cX10_statement 0 = .ok (.aload_n 0, 1) := by decide +kernel
theorem dX10_statement_1 : decode cX10_statement 1 = .ok (.invokevirtual 90, 3) := by decide +kernel
theorem dX10_statement_4 : decode cX10_statement 4 = .ok (.istore_n 1, 1) := by decide +kernel
theorem dX10_statement_5 : decode cX10_statement 5 = .ok (.iload_n 1, 1) := by decide +kernel
theorem dX10_statement_6 : decode cX10_statement 6 = .ok (.bipush 112, 2) := by decide +kernel
theorem dX10_statement_8 : decode cX10_statement 8 = .ok (.if_icmp .eq 23, 3) := by decide +kernel
theorem dX10_statement_11 : decode cX10_statement 11 = .ok (.iload_n 1, 1) := by decide +kernel
theorem dX10_statement_12 : decode cX10_statement 12 = .ok (.bipush 117, 2) := by decide +kernel
theorem dX10_statement_14 : decode cX10_statement 14 = .ok (.if_icmp .eq 17, 3) := by decide +kernel
theorem dX10_statement_17 : decode cX10_statement 17 = .ok (.iload_n 1, 1) := by decide +kernel
theorem dX10_statement_18 : decode cX10_statement 18 = .ok (.bipush 100, 2) := by decide +kernel
theorem dX10_statement_20 : decode cX10_statement 20 = .ok (.if_icmp .eq 11, 3) := by decide +kernel
theorem dX10_statement_23 : decode cX10_statement 23 = .ok (.iload_n 1, 1) := by decide +kernel
theorem dX10_statement_24 : decode cX10_statement 24 = .ok (.bipush 103, 2) := by decide +kernel
theorem dX10_statement_26 : decode cX10_statement 26 = .ok (.if_icmp .eq 5, 3) := by decide +kernel
theorem dX10_statement_29 : decode cX10_statement 29 = .ok (.iconst 0, 1) := by decide +kernel
theorem dX10_statement_30 : decode cX10_statement 30 = .ok (.ireturn, 1) := by decide +kernel
theorem dX10_statement_31 : decode cX10_statement 31 = .ok (.aload_n 0, 1) := by decide +kernel
theorem dX10_statement_32 : decode cX10_statement 32 = .ok (.getfield 34, 3) := by decide +kernel
theorem dX10_statement_35 : decode cX10_statement 35 = .ok (.aload_n 0, 1) := by decide +kernel
theorem dX10_statement_36 : decode cX10_statement 36 = .ok (.getfield 98, 3) := by decide +kernel
theorem dX10_statement_39 : decode cX10_statement 39 = .ok (.iload_n 1, 1) := by decide +kernel
theorem dX10_statement_40 : decode cX10_statement 40 = .ok (.iastore, 1) := by decide +kernel
theorem dX10_statement_41 : decode cX10_statement 41 = .ok (.aload_n 0, 1) := by decide +kernel
theorem dX10_statement_42 : decode cX10_statement 42 = .ok (.getfield 37, 3) := by decide +kernel
theorem dX10_statement_45 : decode cX10_statement 45 = .ok (.aload_n 0, 1) := by decide +kernel
theorem dX10_statement_46 : decode cX10_statement 46 = .ok (.getfield 98, 3) := by decide +kernel
theorem dX10_statement_49 : decode cX10_statement 49 = .ok (.aload_n 0, 1) := by decide +kernel
theorem dX10_statement_50 : decode cX10_statement 50 = .ok (.getfield 87, 3) := by decide +kernel
theorem dX10_statement_53 : decode cX10_statement 53 = .ok (.iastore, 1) := by decide +kernel
theorem dX10_statement_54 : decode cX10_statement 54 = .ok (.aload_n 0, 1) := by decide +kernel
theorem dX10_statement_55 : decode cX10_statement 55 = .ok (.dup, 1) := by decide +kernel
theorem dX10_statement_56 : decode cX10_statement 56 = .ok (.getfield 87, 3) := by decide +kernel
theorem dX10_statement_59 : decode cX10_statement 59 = .ok (.iconst 1, 1) := by decide +kernel
theorem dX10_statement_60 : decode cX10_statement 60 = .ok (.iadd, 1) := by decide +kernel
theorem dX10_statement_61 : decode cX10_statement 61 = .ok (.putfield 87, 3) := by decide +kernel
theorem dX10_statement_64 : decode cX10_statement 64 = .ok (.iconst 3, 1) := by decide +kernel
theorem dX10_statement_65 : decode cX10_statement 65 = .ok (.aload_n 0, 1) := by decide +kernel
theorem dX10_statement_66 : decode cX10_statement 66 = .ok (.getfield 98, 3) := by decide +kernel
theorem dX10_statement_69 : decode cX10_statement 69 = .ok (.imul, 1) := by decide +kernel
theorem dX10_statement_70 : decode cX10_statement 70 = .ok (.istore_n 2, 1) := by decide +kernel
theorem dX10_statement_71 : decode cX10_statement 71 = .ok (.iload_n 1, 1) := by decide +kernel
theorem dX10_statement_72 : decode cX10_statement 72 = .ok (.bipush 117, 2) := by decide +kernel
theorem dX10_statement_74 : decode cX10_statement 74 = .ok (.if_icmp .ne 27, 3) := by decide +kernel
theorem dX10_statement_77 : decode cX10_statement 77 = .ok (.aload_n 0, 1) := by decide +kernel
theorem dX10_statement_78 : decode cX10_statement 78 = .ok (.iload_n 2, 1) := by decide +kernel
theorem dX10_statement_79 : decode cX10_statement 79 = .ok (.iconst 3, 1) := by decide +kernel
theorem dX10_statement_80 : decode cX10_statement 80 = .ok (.invokevirtual 101, 3) := by decide +kernel
theorem dX10_statement_83 : decode cX10_statement 83 = .ok (.ifCond .eq 16, 3) := by decide +kernel
theorem dX10_statement_86 : decode cX10_statement 86 = .ok (.aload_n 0, 1) := by decide +kernel
theorem dX10_statement_87 : decode cX10_statement 87 = .ok (.bipush 59, 2) := by decide +kernel
theorem dX10_statement_89 : decode cX10_statement 89 = .ok (.invokevirtual 105, 3) := by decide +kernel
theorem dX10_statement_92 : decode cX10_statement 92 = .ok (.ifCond .eq 7, 3) := by decide +kernel
theorem dX10_statement_95 : decode cX10_statement 95 = .ok (.iconst 1, 1) := by decide +kernel
theorem dX10_statement_96 : decode cX10_statement 96 = .ok (.goto 4, 3) := by decide +kernel
theorem dX10_statement_99 : decode cX10_statement 99 = .ok (.iconst 0, 1) := by decide +kernel
theorem dX10_statement_100 : decode cX10_statement 100 = .ok (.ireturn, 1) := by decide +kernel
theorem dX10_statement_101 : decode cX10_statement 101 = .ok (.iload_n 1, 1) := by decide +kernel
theorem dX10_statement_102 : decode cX10_statement 102 = .ok (.bipush 103, 2) := by decide +kernel
theorem dX10_statement_104 : decode cX10_statement 104 = .ok (.if_icmp .ne 27, 3) := by decide +kernel
theorem dX10_statement_107 : decode cX10_statement 107 = .ok (.aload_n 0, 1) := by decide +kernel
theorem dX10_statement_108 : decode cX10_statement 108 = .ok (.iload_n 2, 1) := by decide +kernel
theorem dX10_statement_109 : decode cX10_statement 109 = .ok (.iconst 1, 1) := by decide +kernel
theorem dX10_statement_110 : decode cX10_statement 110 = .ok (.invokevirtual 101, 3) := by decide +kernel
theorem dX10_statement_113 : decode cX10_statement 113 = .ok (.ifCond .eq 16, 3) := by decide +kernel
theorem dX10_statement_116 : decode cX10_statement 116 = .ok (.aload_n 0, 1) := by decide +kernel
theorem dX10_statement_117 : decode cX10_statement 117 = .ok (.bipush 59, 2) := by decide +kernel
theorem dX10_statement_119 : decode cX10_statement 119 = .ok (.invokevirtual 105, 3) := by decide +kernel
theorem dX10_statement_122 : decode cX10_statement 122 = .ok (.ifCond .eq 7, 3) := by decide +kernel
theorem dX10_statement_125 : decode cX10_statement 125 = .ok (.iconst 1, 1) := by decide +kernel
theorem dX10_statement_126 : decode cX10_statement 126 = .ok (.goto 4, 3) := by decide +kernel
theorem dX10_statement_129 : decode cX10_statement 129 = .ok (.iconst 0, 1) := by decide +kernel
theorem dX10_statement_130 : decode cX10_statement 130 = .ok (.ireturn, 1) := by decide +kernel
theorem dX10_statement_131 : decode cX10_statement 131 = .ok (.iload_n 1, 1) := by decide +kernel
theorem dX10_statement_132 : decode cX10_statement 132 = .ok (.bipush 100, 2) := by decide +kernel
theorem dX10_statement_134 : decode cX10_statement 134 = .ok (.if_icmp .ne 47, 3) := by decide +kernel
theorem dX10_statement_137 : decode cX10_statement 137 = .ok (.aload_n 0, 1) := by decide +kernel
theorem dX10_statement_138 : decode cX10_statement 138 = .ok (.iload_n 2, 1) := by decide +kernel
theorem dX10_statement_139 : decode cX10_statement 139 = .ok (.iconst 2, 1) := by decide +kernel
theorem dX10_statement_140 : decode cX10_statement 140 = .ok (.invokevirtual 101, 3) := by decide +kernel
theorem dX10_statement_143 : decode cX10_statement 143 = .ok (.ifCond .eq 36, 3) := by decide +kernel
theorem dX10_statement_146 : decode cX10_statement 146 = .ok (.aload_n 0, 1) := by decide +kernel
theorem dX10_statement_147 : decode cX10_statement 147 = .ok (.bipush 44, 2) := by decide +kernel
theorem dX10_statement_149 : decode cX10_statement 149 = .ok (.invokevirtual 105, 3) := by decide +kernel
theorem dX10_statement_152 : decode cX10_statement 152 = .ok (.ifCond .eq 27, 3) := by decide +kernel
theorem dX10_statement_155 : decode cX10_statement 155 = .ok (.aload_n 0, 1) := by decide +kernel
theorem dX10_statement_156 : decode cX10_statement 156 = .ok (.iload_n 2, 1) := by decide +kernel
theorem dX10_statement_157 : decode cX10_statement 157 = .ok (.iconst 1, 1) := by decide +kernel
theorem dX10_statement_158 : decode cX10_statement 158 = .ok (.iadd, 1) := by decide +kernel
theorem dX10_statement_159 : decode cX10_statement 159 = .ok (.iconst 1, 1) := by decide +kernel
theorem dX10_statement_160 : decode cX10_statement 160 = .ok (.invokevirtual 101, 3) := by decide +kernel
theorem dX10_statement_163 : decode cX10_statement 163 = .ok (.ifCond .eq 16, 3) := by decide +kernel
theorem dX10_statement_166 : decode cX10_statement 166 = .ok (.aload_n 0, 1) := by decide +kernel
theorem dX10_statement_167 : decode cX10_statement 167 = .ok (.bipush 59, 2) := by decide +kernel
theorem dX10_statement_169 : decode cX10_statement 169 = .ok (.invokevirtual 105, 3) := by decide +kernel
theorem dX10_statement_172 : decode cX10_statement 172 = .ok (.ifCond .eq 7, 3) := by decide +kernel
theorem dX10_statement_175 : decode cX10_statement 175 = .ok (.iconst 1, 1) := by decide +kernel
theorem dX10_statement_176 : decode cX10_statement 176 = .ok (.goto 4, 3) := by decide +kernel
theorem dX10_statement_179 : decode cX10_statement 179 = .ok (.iconst 0, 1) := by decide +kernel
theorem dX10_statement_180 : decode cX10_statement 180 = .ok (.ireturn, 1) := by decide +kernel
theorem dX10_statement_181 : decode cX10_statement 181 = .ok (.aload_n 0, 1) := by decide +kernel
theorem dX10_statement_182 : decode cX10_statement 182 = .ok (.iload_n 2, 1) := by decide +kernel
theorem dX10_statement_183 : decode cX10_statement 183 = .ok (.iconst 1, 1) := by decide +kernel
theorem dX10_statement_184 : decode cX10_statement 184 = .ok (.invokevirtual 101, 3) := by decide +kernel
theorem dX10_statement_187 : decode cX10_statement 187 = .ok (.ifCond .eq 47, 3) := by decide +kernel
theorem dX10_statement_190 : decode cX10_statement 190 = .ok (.aload_n 0, 1) := by decide +kernel
theorem dX10_statement_191 : decode cX10_statement 191 = .ok (.iload_n 2, 1) := by decide +kernel
theorem dX10_statement_192 : decode cX10_statement 192 = .ok (.iconst 1, 1) := by decide +kernel
theorem dX10_statement_193 : decode cX10_statement 193 = .ok (.iadd, 1) := by decide +kernel
theorem dX10_statement_194 : decode cX10_statement 194 = .ok (.iconst 2, 1) := by decide +kernel
theorem dX10_statement_195 : decode cX10_statement 195 = .ok (.invokevirtual 101, 3) := by decide +kernel
theorem dX10_statement_198 : decode cX10_statement 198 = .ok (.ifCond .eq 36, 3) := by decide +kernel
theorem dX10_statement_201 : decode cX10_statement 201 = .ok (.aload_n 0, 1) := by decide +kernel
theorem dX10_statement_202 : decode cX10_statement 202 = .ok (.bipush 44, 2) := by decide +kernel
theorem dX10_statement_204 : decode cX10_statement 204 = .ok (.invokevirtual 105, 3) := by decide +kernel
theorem dX10_statement_207 : decode cX10_statement 207 = .ok (.ifCond .eq 27, 3) := by decide +kernel
theorem dX10_statement_210 : decode cX10_statement 210 = .ok (.aload_n 0, 1) := by decide +kernel
theorem dX10_statement_211 : decode cX10_statement 211 = .ok (.iload_n 2, 1) := by decide +kernel
theorem dX10_statement_212 : decode cX10_statement 212 = .ok (.iconst 2, 1) := by decide +kernel
theorem dX10_statement_213 : decode cX10_statement 213 = .ok (.iadd, 1) := by decide +kernel
theorem dX10_statement_214 : decode cX10_statement 214 = .ok (.iconst 1, 1) := by decide +kernel
theorem dX10_statement_215 : decode cX10_statement 215 = .ok (.invokevirtual 101, 3) := by decide +kernel
theorem dX10_statement_218 : decode cX10_statement 218 = .ok (.ifCond .eq 16, 3) := by decide +kernel
theorem dX10_statement_221 : decode cX10_statement 221 = .ok (.aload_n 0, 1) := by decide +kernel
theorem dX10_statement_222 : decode cX10_statement 222 = .ok (.bipush 59, 2) := by decide +kernel
theorem dX10_statement_224 : decode cX10_statement 224 = .ok (.invokevirtual 105, 3) := by decide +kernel
theorem dX10_statement_227 : decode cX10_statement 227 = .ok (.ifCond .eq 7, 3) := by decide +kernel
theorem dX10_statement_230 : decode cX10_statement 230 = .ok (.iconst 1, 1) := by decide +kernel
theorem dX10_statement_231 : decode cX10_statement 231 = .ok (.goto 4, 3) := by decide +kernel
theorem dX10_statement_234 : decode cX10_statement 234 = .ok (.iconst 0, 1) := by decide +kernel
theorem dX10_statement_235 : decode cX10_statement 235 = .ok (.ireturn, 1) := by decide +kernel
theorem dX10_comesLamp_0 : decode cX10_comesLamp 0 = .ok (.aload_n 0, 1) := by decide +kernel
theorem dX10_comesLamp_1 : decode cX10_comesLamp 1 = .ok (.getfield 40, 3) := by decide +kernel
theorem dX10_comesLamp_4 : decode cX10_comesLamp 4 = .ok (.iload_n 1, 1) := by decide +kernel
theorem dX10_comesLamp_5 : decode cX10_comesLamp 5 = .ok (.iaload, 1) := by decide +kernel
theorem dX10_comesLamp_6 : decode cX10_comesLamp 6 = .ok (.iconst 5, 1) := by decide +kernel
theorem dX10_comesLamp_7 : decode cX10_comesLamp 7 = .ok (.if_icmp .gt 34, 3) := by decide +kernel
theorem dX10_comesLamp_10 : decode cX10_comesLamp 10 = .ok (.aload_n 0, 1) := by decide +kernel
theorem dX10_comesLamp_11 : decode cX10_comesLamp 11 = .ok (.getfield 40, 3) := by decide +kernel
theorem dX10_comesLamp_14 : decode cX10_comesLamp 14 = .ok (.iload_n 1, 1) := by decide +kernel
theorem dX10_comesLamp_15 : decode cX10_comesLamp 15 = .ok (.iconst 1, 1) := by decide +kernel
theorem dX10_comesLamp_16 : decode cX10_comesLamp 16 = .ok (.iadd, 1) := by decide +kernel
theorem dX10_comesLamp_17 : decode cX10_comesLamp 17 = .ok (.iaload, 1) := by decide +kernel
theorem dX10_comesLamp_18 : decode cX10_comesLamp 18 = .ok (.ifCond .eq 23, 3) := by decide +kernel
theorem dX10_comesLamp_21 : decode cX10_comesLamp 21 = .ok (.aload_n 0, 1) := by decide +kernel
theorem dX10_comesLamp_22 : decode cX10_comesLamp 22 = .ok (.getfield 40, 3) := by decide +kernel
theorem dX10_comesLamp_25 : decode cX10_comesLamp 25 = .ok (.iload_n 1, 1) := by decide +kernel
theorem dX10_comesLamp_26 : decode cX10_comesLamp 26 = .ok (.iconst 2, 1) := by decide +kernel
theorem dX10_comesLamp_27 : decode cX10_comesLamp 27 = .ok (.iadd, 1) := by decide +kernel
theorem dX10_comesLamp_28 : decode cX10_comesLamp 28 = .ok (.iaload, 1) := by decide +kernel
theorem dX10_comesLamp_29 : decode cX10_comesLamp 29 = .ok (.ifCond .eq 12, 3) := by decide +kernel
theorem dX10_comesLamp_32 : decode cX10_comesLamp 32 = .ok (.aload_n 0, 1) := by decide +kernel
theorem dX10_comesLamp_33 : decode cX10_comesLamp 33 = .ok (.getfield 72, 3) := by decide +kernel
theorem dX10_comesLamp_36 : decode cX10_comesLamp 36 = .ok (.bipush 12, 2) := by decide +kernel
theorem dX10_comesLamp_38 : decode cX10_comesLamp 38 = .ok (.if_icmp .ne 5, 3) := by decide +kernel
theorem dX10_comesLamp_41 : decode cX10_comesLamp 41 = .ok (.iconst 0, 1) := by decide +kernel
theorem dX10_comesLamp_42 : decode cX10_comesLamp 42 = .ok (.ireturn, 1) := by decide +kernel
theorem dX10_comesLamp_43 : decode cX10_comesLamp 43 = .ok (.aload_n 0, 1) := by decide +kernel
theorem dX10_comesLamp_44 : decode cX10_comesLamp 44 = .ok (.getfield 13, 3) := by decide +kernel
theorem dX10_comesLamp_47 : decode cX10_comesLamp 47 = .ok (.aload_n 0, 1) := by decide +kernel
theorem dX10_comesLamp_48 : decode cX10_comesLamp 48 = .ok (.getfield 72, 3) := by decide +kernel
theorem dX10_comesLamp_51 : decode cX10_comesLamp 51 = .ok (.aload_n 0, 1) := by decide +kernel
theorem dX10_comesLamp_52 : decode cX10_comesLamp 52 = .ok (.getfield 40, 3) := by decide +kernel
theorem dX10_comesLamp_55 : decode cX10_comesLamp 55 = .ok (.iload_n 1, 1) := by decide +kernel
theorem dX10_comesLamp_56 : decode cX10_comesLamp 56 = .ok (.iaload, 1) := by decide +kernel
theorem dX10_comesLamp_57 : decode cX10_comesLamp 57 = .ok (.iastore, 1) := by decide +kernel
theorem dX10_comesLamp_58 : decode cX10_comesLamp 58 = .ok (.aload_n 0, 1) := by decide +kernel
theorem dX10_comesLamp_59 : decode cX10_comesLamp 59 = .ok (.getfield 16, 3) := by decide +kernel
theorem dX10_comesLamp_62 : decode cX10_comesLamp 62 = .ok (.aload_n 0, 1) := by decide +kernel
theorem dX10_comesLamp_63 : decode cX10_comesLamp 63 = .ok (.getfield 72, 3) := by decide +kernel
theorem dX10_comesLamp_66 : decode cX10_comesLamp 66 = .ok (.aload_n 0, 1) := by decide +kernel
theorem dX10_comesLamp_67 : decode cX10_comesLamp 67 = .ok (.getfield 40, 3) := by decide +kernel
theorem dX10_comesLamp_70 : decode cX10_comesLamp 70 = .ok (.iload_n 1, 1) := by decide +kernel
theorem dX10_comesLamp_71 : decode cX10_comesLamp 71 = .ok (.iconst 1, 1) := by decide +kernel
theorem dX10_comesLamp_72 : decode cX10_comesLamp 72 = .ok (.iadd, 1) := by decide +kernel
theorem dX10_comesLamp_73 : decode cX10_comesLamp 73 = .ok (.iaload, 1) := by decide +kernel
theorem dX10_comesLamp_74 : decode cX10_comesLamp 74 = .ok (.iastore, 1) := by decide +kernel
theorem dX10_comesLamp_75 : decode cX10_comesLamp 75 = .ok (.aload_n 0, 1) := by decide +kernel
theorem dX10_comesLamp_76 : decode cX10_comesLamp 76 = .ok (.getfield 19, 3) := by decide +kernel
theorem dX10_comesLamp_79 : decode cX10_comesLamp 79 = .ok (.aload_n 0, 1) := by decide +kernel
theorem dX10_comesLamp_80 : decode cX10_comesLamp 80 = .ok (.getfield 72, 3) := by decide +kernel
theorem dX10_comesLamp_83 : decode cX10_comesLamp 83 = .ok (.aload_n 0, 1) := by decide +kernel
theorem dX10_comesLamp_84 : decode cX10_comesLamp 84 = .ok (.getfield 40, 3) := by decide +kernel
theorem dX10_comesLamp_87 : decode cX10_comesLamp 87 = .ok (.iload_n 1, 1) := by decide +kernel
theorem dX10_comesLamp_88 : decode cX10_comesLamp 88 = .ok (.iconst 2, 1) := by decide +kernel
theorem dX10_comesLamp_89 : decode cX10_comesLamp 89 = .ok (.iadd, 1) := by decide +kernel
theorem dX10_comesLamp_90 : decode cX10_comesLamp 90 = .ok (.iaload, 1) := by decide +kernel
theorem dX10_comesLamp_91 : decode cX10_comesLamp 91 = .ok (.iastore, 1) := by decide +kernel
theorem dX10_comesLamp_92 : decode cX10_comesLamp 92 = .ok (.aload_n 0, 1) := by decide +kernel
theorem dX10_comesLamp_93 : decode cX10_comesLamp 93 = .ok (.getfield 22, 3) := by decide +kernel
theorem dX10_comesLamp_96 : decode cX10_comesLamp 96 = .ok (.aload_n 0, 1) := by decide +kernel
theorem dX10_comesLamp_97 : decode cX10_comesLamp 97 = .ok (.getfield 72, 3) := by decide +kernel
theorem dX10_comesLamp_100 : decode cX10_comesLamp 100 = .ok (.iconst 0, 1) := by decide +kernel
theorem dX10_comesLamp_101 : decode cX10_comesLamp 101 = .ok (.iastore, 1) := by decide +kernel
theorem dX10_comesLamp_102 : decode cX10_comesLamp 102 = .ok (.aload_n 0, 1) := by decide +kernel
theorem dX10_comesLamp_103 : decode cX10_comesLamp 103 = .ok (.getfield 25, 3) := by decide +kernel
theorem dX10_comesLamp_106 : decode cX10_comesLamp 106 = .ok (.aload_n 0, 1) := by decide +kernel
theorem dX10_comesLamp_107 : decode cX10_comesLamp 107 = .ok (.getfield 72, 3) := by decide +kernel
theorem dX10_comesLamp_110 : decode cX10_comesLamp 110 = .ok (.iconst 0, 1) := by decide +kernel
theorem dX10_comesLamp_111 : decode cX10_comesLamp 111 = .ok (.iastore, 1) := by decide +kernel
theorem dX10_comesLamp_112 : decode cX10_comesLamp 112 = .ok (.aload_n 0, 1) := by decide +kernel
theorem dX10_comesLamp_113 : decode cX10_comesLamp 113 = .ok (.dup, 1) := by decide +kernel
theorem dX10_comesLamp_114 : decode cX10_comesLamp 114 = .ok (.getfield 72, 3) := by decide +kernel
theorem dX10_comesLamp_117 : decode cX10_comesLamp 117 = .ok (.iconst 1, 1) := by decide +kernel
theorem dX10_comesLamp_118 : decode cX10_comesLamp 118 = .ok (.iadd, 1) := by decide +kernel
theorem dX10_comesLamp_119 : decode cX10_comesLamp 119 = .ok (.putfield 72, 3) := by decide +kernel
theorem dX10_comesLamp_122 : decode cX10_comesLamp 122 = .ok (.iconst 1, 1) := by decide +kernel
theorem dX10_comesLamp_123 : decode cX10_comesLamp 123 = .ok (.ireturn, 1) := by decide +kernel
theorem dX10_comes_0 : decode cX10_comes 0 = .ok (.iconst 3, 1) := by decide +kernel
theorem dX10_comes_1 : decode cX10_comes 1 = .ok (.iload_n 1, 1) := by decide +kernel
theorem dX10_comes_2 : decode cX10_comes 2 = .ok (.imul, 1) := by decide +kernel
theorem dX10_comes_3 : decode cX10_comes 3 = .ok (.istore_n 2, 1) := by decide +kernel
theorem dX10_comes_4 : decode cX10_comes 4 = .ok (.aload_n 0, 1) := by decide +kernel
theorem dX10_comes_5 : decode cX10_comes 5 = .ok (.getfield 34, 3) := by decide +kernel
theorem dX10_comes_8 : decode cX10_comes 8 = .ok (.iload_n 1, 1) := by decide +kernel
theorem dX10_comes_9 : decode cX10_comes 9 = .ok (.iaload, 1) := by decide +kernel
theorem dX10_comes_10 : decode cX10_comes 10 = .ok (.lookupswitch 94 #[(103, 67), (112, 34), (117, 40)], 34) := by decide +kernel
theorem dX10_comes_44 : decode cX10_comes 44 = .ok (.aload_n 0, 1) := by decide +kernel
theorem dX10_comes_45 : decode cX10_comes 45 = .ok (.iload_n 2, 1) := by decide +kernel
theorem dX10_comes_46 : decode cX10_comes 46 = .ok (.invokevirtual 109, 3) := by decide +kernel
theorem dX10_comes_49 : decode cX10_comes 49 = .ok (.ireturn, 1) := by decide +kernel
theorem dX10_comes_50 : decode cX10_comes 50 = .ok (.aload_n 0, 1) := by decide +kernel
theorem dX10_comes_51 : decode cX10_comes 51 = .ok (.getfield 28, 3) := by decide +kernel
theorem dX10_comes_54 : decode cX10_comes 54 = .ok (.iconst 0, 1) := by decide +kernel
theorem dX10_comes_55 : decode cX10_comes 55 = .ok (.aload_n 0, 1) := by decide +kernel
theorem dX10_comes_56 : decode cX10_comes 56 = .ok (.getfield 40, 3) := by decide +kernel
theorem dX10_comes_59 : decode cX10_comes 59 = .ok (.iload_n 2, 1) := by decide +kernel
theorem dX10_comes_60 : decode cX10_comes 60 = .ok (.iaload, 1) := by decide +kernel
theorem dX10_comes_61 : decode cX10_comes 61 = .ok (.iastore, 1) := by decide +kernel
theorem dX10_comes_62 : decode cX10_comes 62 = .ok (.aload_n 0, 1) := by decide +kernel
theorem dX10_comes_63 : decode cX10_comes 63 = .ok (.getfield 40, 3) := by decide +kernel
theorem dX10_comes_66 : decode cX10_comes 66 = .ok (.iload_n 2, 1) := by decide +kernel
theorem dX10_comes_67 : decode cX10_comes 67 = .ok (.iaload, 1) := by decide +kernel
theorem dX10_comes_68 : decode cX10_comes 68 = .ok (.ifCond .le 7, 3) := by decide +kernel
theorem dX10_comes_71 : decode cX10_comes 71 = .ok (.iconst 1, 1) := by decide +kernel
theorem dX10_comes_72 : decode cX10_comes 72 = .ok (.goto 4, 3) := by decide +kernel
theorem dX10_comes_75 : decode cX10_comes 75 = .ok (.iconst 0, 1) := by decide +kernel
theorem dX10_comes_76 : decode cX10_comes 76 = .ok (.ireturn, 1) := by decide +kernel
theorem dX10_comes_77 : decode cX10_comes 77 = .ok (.aload_n 0, 1) := by decide +kernel
theorem dX10_comes_78 : decode cX10_comes 78 = .ok (.getfield 28, 3) := by decide +kernel
theorem dX10_comes_81 : decode cX10_comes 81 = .ok (.iconst 3, 1) := by decide +kernel
theorem dX10_comes_82 : decode cX10_comes 82 = .ok (.aload_n 0, 1) := by decide +kernel
theorem dX10_comes_83 : decode cX10_comes 83 = .ok (.getfield 40, 3) := by decide +kernel
theorem dX10_comes_86 : decode cX10_comes 86 = .ok (.iload_n 2, 1) := by decide +kernel
theorem dX10_comes_87 : decode cX10_comes 87 = .ok (.iaload, 1) := by decide +kernel
theorem dX10_comes_88 : decode cX10_comes 88 = .ok (.iastore, 1) := by decide +kernel
theorem dX10_comes_89 : decode cX10_comes 89 = .ok (.aload_n 0, 1) := by decide +kernel
theorem dX10_comes_90 : decode cX10_comes 90 = .ok (.getfield 40, 3) := by decide +kernel
theorem dX10_comes_93 : decode cX10_comes 93 = .ok (.iload_n 2, 1) := by decide +kernel
theorem dX10_comes_94 : decode cX10_comes 94 = .ok (.iaload, 1) := by decide +kernel
theorem dX10_comes_95 : decode cX10_comes 95 = .ok (.ifCond .le 7, 3) := by decide +kernel
theorem dX10_comes_98 : decode cX10_comes 98 = .ok (.iconst 1, 1) := by decide +kernel
theorem dX10_comes_99 : decode cX10_comes 99 = .ok (.goto 4, 3) := by decide +kernel
theorem dX10_comes_102 : decode cX10_comes 102 = .ok (.iconst 0, 1) := by decide +kernel
theorem dX10_comes_103 : decode cX10_comes 103 = .ok (.ireturn, 1) := by decide +kernel
theorem dX10_comes_104 : decode cX10_comes 104 = .ok (.aload_n 0, 1) := by decide +kernel
theorem dX10_comes_105 : decode cX10_comes 105 = .ok (.aload_n 0, 1) := by decide +kernel
theorem dX10_comes_106 : decode cX10_comes 106 = .ok (.getfield 40, 3) := by decide +kernel
theorem dX10_comes_109 : decode cX10_comes 109 = .ok (.iload_n 2, 1) := by decide +kernel
theorem dX10_comes_110 : decode cX10_comes 110 = .ok (.iaload, 1) := by decide +kernel
theorem dX10_comes_111 : decode cX10_comes 111 = .ok (.invokevirtual 112, 3) := by decide +kernel
theorem dX10_comes_114 : decode cX10_comes 114 = .ok (.ifCond .eq 15, 3) := by decide +kernel
theorem dX10_comes_117 : decode cX10_comes 117 = .ok (.aload_n 0, 1) := by decide +kernel
theorem dX10_comes_118 : decode cX10_comes 118 = .ok (.getfield 40, 3) := by decide +kernel
theorem dX10_comes_121 : decode cX10_comes 121 = .ok (.iload_n 2, 1) := by decide +kernel
theorem dX10_comes_122 : decode cX10_comes 122 = .ok (.iconst 1, 1) := by decide +kernel
theorem dX10_comes_123 : decode cX10_comes 123 = .ok (.iadd, 1) := by decide +kernel
theorem dX10_comes_124 : decode cX10_comes 124 = .ok (.iaload, 1) := by decide +kernel
theorem dX10_comes_125 : decode cX10_comes 125 = .ok (.iconst 3, 1) := by decide +kernel
theorem dX10_comes_126 : decode cX10_comes 126 = .ok (.if_icmp .le 5, 3) := by decide +kernel
theorem dX10_comes_129 : decode cX10_comes 129 = .ok (.iconst 0, 1) := by decide +kernel
theorem dX10_comes_130 : decode cX10_comes 130 = .ok (.ireturn, 1) := by decide +kernel
theorem dX10_comes_131 : decode cX10_comes 131 = .ok (.aload_n 0, 1) := by decide +kernel
theorem dX10_comes_132 : decode cX10_comes 132 = .ok (.getfield 25, 3) := by decide +kernel
theorem dX10_comes_135 : decode cX10_comes 135 = .ok (.aload_n 0, 1) := by decide +kernel
theorem dX10_comes_136 : decode cX10_comes 136 = .ok (.getfield 40, 3) := by decide +kernel
theorem dX10_comes_139 : decode cX10_comes 139 = .ok (.iload_n 2, 1) := by decide +kernel
theorem dX10_comes_140 : decode cX10_comes 140 = .ok (.iaload, 1) := by decide +kernel
theorem dX10_comes_141 : decode cX10_comes 141 = .ok (.aload_n 0, 1) := by decide +kernel
theorem dX10_comes_142 : decode cX10_comes 142 = .ok (.getfield 40, 3) := by decide +kernel
theorem dX10_comes_145 : decode cX10_comes 145 = .ok (.iload_n 2, 1) := by decide +kernel
theorem dX10_comes_146 : decode cX10_comes 146 = .ok (.iconst 1, 1) := by decide +kernel
theorem dX10_comes_147 : decode cX10_comes 147 = .ok (.iadd, 1) := by decide +kernel
theorem dX10_comes_148 : decode cX10_comes 148 = .ok (.iaload, 1) := by decide +kernel
theorem dX10_comes_149 : decode cX10_comes 149 = .ok (.iastore, 1) := by decide +kernel
theorem dX10_comes_150 : decode cX10_comes 150 = .ok (.iconst 1, 1) := by decide +kernel
theorem dX10_comes_151 : decode cX10_comes 151 = .ok (.ireturn, 1) := by decide +kernel
theorem dX10_string_0 : decode cX10_string 0 = .ok (.aload_n 0, 1) := by decide +kernel
theorem dX10_string_1 : decode cX10_string 1 = .ok (.iconst 0, 1) := by decide +kernel
theorem dX10_string_2 : decode cX10_string 2 = .ok (.putfield 87, 3) := by decide +kernel
theorem dX10_string_5 : decode cX10_string 5 = .ok (.aload_n 0, 1) := by decide +kernel
theorem dX10_string_6 : decode cX10_string 6 = .ok (.iconst 0, 1) := by decide +kernel
theorem dX10_string_7 : decode cX10_string 7 = .ok (.putfield 98, 3) := by decide +kernel
theorem dX10_string_10 : decode cX10_string 10 = .ok (.iconst 1, 1) := by decide +kernel
theorem dX10_string_11 : decode cX10_string 11 = .ok (.istore_n 1, 1) := by decide +kernel
theorem dX10_string_12 : decode cX10_string 12 = .ok (.iload_n 1, 1) := by decide +kernel
theorem dX10_string_13 : decode cX10_string 13 = .ok (.ifCond .eq 47, 3) := by decide +kernel
theorem dX10_string_16 : decode cX10_string 16 = .ok (.aload_n 0, 1) := by decide +kernel
theorem dX10_string_17 : decode cX10_string 17 = .ok (.getfield 87, 3) := by decide +kernel
theorem dX10_string_20 : decode cX10_string 20 = .ok (.aload_n 0, 1) := by decide +kernel
theorem dX10_string_21 : decode cX10_string 21 = .ok (.getfield 80, 3) := by decide +kernel
theorem dX10_string_24 : decode cX10_string 24 = .ok (.if_icmp .lt 10, 3) := by decide +kernel
theorem dX10_string_27 : decode cX10_string 27 = .ok (.aload_n 0, 1) := by decide +kernel
theorem dX10_string_28 : decode cX10_string 28 = .ok (.getfield 98, 3) := by decide +kernel
theorem dX10_string_31 : decode cX10_string 31 = .ok (.ifCond .ne 29, 3) := by decide +kernel
theorem dX10_string_34 : decode cX10_string 34 = .ok (.aload_n 0, 1) := by decide +kernel
theorem dX10_string_35 : decode cX10_string 35 = .ok (.invokevirtual 115, 3) := by decide +kernel
theorem dX10_string_38 : decode cX10_string 38 = .ok (.istore_n 1, 1) := by decide +kernel
theorem dX10_string_39 : decode cX10_string 39 = .ok (.aload_n 0, 1) := by decide +kernel
theorem dX10_string_40 : decode cX10_string 40 = .ok (.dup, 1) := by decide +kernel
theorem dX10_string_41 : decode cX10_string 41 = .ok (.getfield 98, 3) := by decide +kernel
theorem dX10_string_44 : decode cX10_string 44 = .ok (.iload_n 1, 1) := by decide +kernel
theorem dX10_string_45 : decode cX10_string 45 = .ok (.ifCond .eq 7, 3) := by decide +kernel
theorem dX10_string_48 : decode cX10_string 48 = .ok (.iconst 1, 1) := by decide +kernel
theorem dX10_string_49 : decode cX10_string 49 = .ok (.goto 4, 3) := by decide +kernel
theorem dX10_string_52 : decode cX10_string 52 = .ok (.iconst 0, 1) := by decide +kernel
theorem dX10_string_53 : decode cX10_string 53 = .ok (.iadd, 1) := by decide +kernel
theorem dX10_string_54 : decode cX10_string 54 = .ok (.putfield 98, 3) := by decide +kernel
theorem dX10_string_57 : decode cX10_string 57 = .ok (.goto (-45), 3) := by decide +kernel
theorem dX10_string_60 : decode cX10_string 60 = .ok (.aload_n 0, 1) := by decide +kernel
theorem dX10_string_61 : decode cX10_string 61 = .ok (.iconst 0, 1) := by decide +kernel
theorem dX10_string_62 : decode cX10_string 62 = .ok (.putfield 80, 3) := by decide +kernel
theorem dX10_string_65 : decode cX10_string 65 = .ok (.iload_n 1, 1) := by decide +kernel
theorem dX10_string_66 : decode cX10_string 66 = .ok (.ifCond .ne 12, 3) := by decide +kernel
theorem dX10_string_69 : decode cX10_string 69 = .ok (.sipush (-1000), 3) := by decide +kernel
theorem dX10_string_72 : decode cX10_string 72 = .ok (.aload_n 0, 1) := by decide +kernel
theorem dX10_string_73 : decode cX10_string 73 = .ok (.getfield 87, 3) := by decide +kernel
theorem dX10_string_76 : decode cX10_string 76 = .ok (.isub, 1) := by decide +kernel
theorem dX10_string_77 : decode cX10_string 77 = .ok (.ireturn, 1) := by decide +kernel
theorem dX10_string_78 : decode cX10_string 78 = .ok (.aload_n 0, 1) := by decide +kernel
theorem dX10_string_79 : decode cX10_string 79 = .ok (.iconst 1, 1) := by decide +kernel
theorem dX10_string_80 : decode cX10_string 80 = .ok (.iconst 1, 1) := by decide +kernel
theorem dX10_string_81 : decode cX10_string 81 = .ok (.invokevirtual 119, 3) := by decide +kernel
theorem dX10_string_84 : decode cX10_string 84 = .ok (.iconst 0, 1) := by decide +kernel
theorem dX10_string_85 : decode cX10_string 85 = .ok (.istore_n 2, 1) := by decide +kernel
theorem dX10_string_86 : decode cX10_string 86 = .ok (.iload_n 2, 1) := by decide +kernel
theorem dX10_string_87 : decode cX10_string 87 = .ok (.aload_n 0, 1) := by decide +kernel
theorem dX10_string_88 : decode cX10_string 88 = .ok (.getfield 98, 3) := by decide +kernel
theorem dX10_string_91 : decode cX10_string 91 = .ok (.if_icmp .ge 37, 3) := by decide +kernel
theorem dX10_string_94 : decode cX10_string 94 = .ok (.aload_n 0, 1) := by decide +kernel
theorem dX10_string_95 : decode cX10_string 95 = .ok (.iload_n 2, 1) := by decide +kernel
theorem dX10_string_96 : decode cX10_string 96 = .ok (.invokevirtual 123, 3) := by decide +kernel
theorem dX10_string_99 : decode cX10_string 99 = .ok (.ifCond .eq 6, 3) := by decide +kernel
theorem dX10_string_102 : decode cX10_string 102 = .ok (.goto 20, 3) := by decide +kernel
theorem dX10_string_105 : decode cX10_string 105 = .ok (.aload_n 0, 1) := by decide +kernel
theorem dX10_string_106 : decode cX10_string 106 = .ok (.iconst 1, 1) := by decide +kernel
theorem dX10_string_107 : decode cX10_string 107 = .ok (.iconst 0, 1) := by decide +kernel
theorem dX10_string_108 : decode cX10_string 108 = .ok (.invokevirtual 119, 3) := by decide +kernel
theorem dX10_string_111 : decode cX10_string 111 = .ok (.sipush (-2000), 3) := by decide +kernel
theorem dX10_string_114 : decode cX10_string 114 = .ok (.aload_n 0, 1) := by decide +kernel
theorem dX10_string_115 : decode cX10_string 115 = .ok (.getfield 37, 3) := by decide +kernel
theorem dX10_string_118 : decode cX10_string 118 = .ok (.iload_n 2, 1) := by decide +kernel
theorem dX10_string_119 : decode cX10_string 119 = .ok (.iaload, 1) := by decide +kernel
theorem dX10_string_120 : decode cX10_string 120 = .ok (.isub, 1) := by decide +kernel
theorem dX10_string_121 : decode cX10_string 121 = .ok (.ireturn, 1) := by decide +kernel
theorem dX10_string_122 : decode cX10_string 122 = .ok (.iinc 2 1, 3) := by decide +kernel
theorem dX10_string_125 : decode cX10_string 125 = .ok (.goto (-39), 3) := by decide +kernel
theorem dX10_string_128 : decode cX10_string 128 = .ok (.aload_n 0, 1) := by decide +kernel
theorem dX10_string_129 : decode cX10_string 129 = .ok (.getfield 98, 3) := by decide +kernel
theorem dX10_string_132 : decode cX10_string 132 = .ok (.ireturn, 1) := by decide +kernel
theorem dX10_passes_0 : decode cX10_passes 0 = .ok (.iconst 0, 1) := by decide +kernel
theorem dX10_passes_1 : decode cX10_passes 1 = .ok (.istore_n 2, 1) := by decide +kernel
theorem dX10_passes_2 : decode cX10_passes 2 = .ok (.iload_n 2, 1) := by decide +kernel
theorem dX10_passes_3 : decode cX10_passes 3 = .ok (.aload_n 1, 1) := by decide +kernel
theorem dX10_passes_4 : decode cX10_passes 4 = .ok (.arraylength, 1) := by decide +kernel
theorem dX10_passes_5 : decode cX10_passes 5 = .ok (.if_icmp .ge 53, 3) := by decide +kernel
theorem dX10_passes_8 : decode cX10_passes 8 = .ok (.aload_n 0, 1) := by decide +kernel
theorem dX10_passes_9 : decode cX10_passes 9 = .ok (.getfield 126, 3) := by decide +kernel
theorem dX10_passes_12 : decode cX10_passes 12 = .ok (.ifCond .eq 18, 3) := by decide +kernel
theorem dX10_passes_15 : decode cX10_passes 15 = .ok (.aload_n 0, 1) := by decide +kernel
theorem dX10_passes_16 : decode cX10_passes 16 = .ok (.getfield 43, 3) := by decide +kernel
theorem dX10_passes_19 : decode cX10_passes 19 = .ok (.aload_n 0, 1) := by decide +kernel
theorem dX10_passes_20 : decode cX10_passes 20 = .ok (.getfield 130, 3) := by decide +kernel
theorem dX10_passes_23 : decode cX10_passes 23 = .ok (.aload_n 1, 1) := by decide +kernel
theorem dX10_passes_24 : decode cX10_passes 24 = .ok (.iload_n 2, 1) := by decide +kernel
theorem dX10_passes_25 : decode cX10_passes 25 = .ok (.iaload, 1) := by decide +kernel
theorem dX10_passes_26 : decode cX10_passes 26 = .ok (.iastore, 1) := by decide +kernel
theorem dX10_passes_27 : decode cX10_passes 27 = .ok (.goto 15, 3) := by decide +kernel
theorem dX10_passes_30 : decode cX10_passes 30 = .ok (.aload_n 1, 1) := by decide +kernel
theorem dX10_passes_31 : decode cX10_passes 31 = .ok (.iload_n 2, 1) := by decide +kernel
theorem dX10_passes_32 : decode cX10_passes 32 = .ok (.aload_n 0, 1) := by decide +kernel
theorem dX10_passes_33 : decode cX10_passes 33 = .ok (.getfield 43, 3) := by decide +kernel
theorem dX10_passes_36 : decode cX10_passes 36 = .ok (.aload_n 0, 1) := by decide +kernel
theorem dX10_passes_37 : decode cX10_passes 37 = .ok (.getfield 130, 3) := by decide +kernel
theorem dX10_passes_40 : decode cX10_passes 40 = .ok (.iaload, 1) := by decide +kernel
theorem dX10_passes_41 : decode cX10_passes 41 = .ok (.iastore, 1) := by decide +kernel
theorem dX10_passes_42 : decode cX10_passes 42 = .ok (.aload_n 0, 1) := by decide +kernel
theorem dX10_passes_43 : decode cX10_passes 43 = .ok (.dup, 1) := by decide +kernel
theorem dX10_passes_44 : decode cX10_passes 44 = .ok (.getfield 130, 3) := by decide +kernel
theorem dX10_passes_47 : decode cX10_passes 47 = .ok (.iconst 1, 1) := by decide +kernel
theorem dX10_passes_48 : decode cX10_passes 48 = .ok (.iadd, 1) := by decide +kernel
theorem dX10_passes_49 : decode cX10_passes 49 = .ok (.putfield 130, 3) := by decide +kernel
theorem dX10_passes_52 : decode cX10_passes 52 = .ok (.iinc 2 1, 3) := by decide +kernel
theorem dX10_passes_55 : decode cX10_passes 55 = .ok (.goto (-53), 3) := by decide +kernel
theorem dX10_passes_58 : decode cX10_passes 58 = .ok (.return_, 1) := by decide +kernel
theorem dX10_passOne_0 : decode cX10_passOne 0 = .ok (.aload_n 0, 1) := by decide +kernel
theorem dX10_passOne_1 : decode cX10_passOne 1 = .ok (.getfield 126, 3) := by decide +kernel
theorem dX10_passOne_4 : decode cX10_passOne 4 = .ok (.ifCond .eq 7, 3) := by decide +kernel
theorem dX10_passOne_7 : decode cX10_passOne 7 = .ok (.iload_n 1, 1) := by decide +kernel
theorem dX10_passOne_8 : decode cX10_passOne 8 = .ok (.goto 12, 3) := by decide +kernel
theorem dX10_passOne_11 : decode cX10_passOne 11 = .ok (.aload_n 0, 1) := by decide +kernel
theorem dX10_passOne_12 : decode cX10_passOne 12 = .ok (.getfield 43, 3) := by decide +kernel
theorem dX10_passOne_15 : decode cX10_passOne 15 = .ok (.aload_n 0, 1) := by decide +kernel
theorem dX10_passOne_16 : decode cX10_passOne 16 = .ok (.getfield 130, 3) := by decide +kernel
theorem dX10_passOne_19 : decode cX10_passOne 19 = .ok (.iaload, 1) := by decide +kernel
theorem dX10_passOne_20 : decode cX10_passOne 20 = .ok (.istore_n 2, 1) := by decide +kernel
theorem dX10_passOne_21 : decode cX10_passOne 21 = .ok (.aload_n 0, 1) := by decide +kernel
theorem dX10_passOne_22 : decode cX10_passOne 22 = .ok (.getfield 126, 3) := by decide +kernel
theorem dX10_passOne_25 : decode cX10_passOne 25 = .ok (.ifCond .eq 13, 3) := by decide +kernel
theorem dX10_passOne_28 : decode cX10_passOne 28 = .ok (.aload_n 0, 1) := by decide +kernel
theorem dX10_passOne_29 : decode cX10_passOne 29 = .ok (.getfield 43, 3) := by decide +kernel
theorem dX10_passOne_32 : decode cX10_passOne 32 = .ok (.aload_n 0, 1) := by decide +kernel
theorem dX10_passOne_33 : decode cX10_passOne 33 = .ok (.getfield 130, 3) := by decide +kernel
theorem dX10_passOne_36 : decode cX10_passOne 36 = .ok (.iload_n 1, 1) := by decide +kernel
theorem dX10_passOne_37 : decode cX10_passOne 37 = .ok (.iastore, 1) := by decide +kernel
theorem dX10_passOne_38 : decode cX10_passOne 38 = .ok (.aload_n 0, 1) := by decide +kernel
theorem dX10_passOne_39 : decode cX10_passOne 39 = .ok (.dup, 1) := by decide +kernel
theorem dX10_passOne_40 : decode cX10_passOne 40 = .ok (.getfield 130, 3) := by decide +kernel
theorem dX10_passOne_43 : decode cX10_passOne 43 = .ok (.iconst 1, 1) := by decide +kernel
theorem dX10_passOne_44 : decode cX10_passOne 44 = .ok (.iadd, 1) := by decide +kernel
theorem dX10_passOne_45 : decode cX10_passOne 45 = .ok (.putfield 130, 3) := by decide +kernel
theorem dX10_passOne_48 : decode cX10_passOne 48 = .ok (.iload_n 2, 1) := by decide +kernel
theorem dX10_passOne_49 : decode cX10_passOne 49 = .ok (.ireturn, 1) := by decide +kernel
theorem dX10_passesAll_0 : decode cX10_passesAll 0 = .ok (.aload_n 0, 1) := by decide +kernel
theorem dX10_passesAll_1 : decode cX10_passesAll 1 = .ok (.bipush 80, 2) := by decide +kernel
theorem dX10_passesAll_3 : decode cX10_passesAll 3 = .ok (.iload_n 1, 1) := by decide +kernel
theorem dX10_passesAll_4 : decode cX10_passesAll 4 = .ok (.imul, 1) := by decide +kernel
theorem dX10_passesAll_5 : decode cX10_passesAll 5 = .ok (.putfield 130, 3) := by decide +kernel
theorem dX10_passesAll_8 : decode cX10_passesAll 8 = .ok (.aload_n 0, 1) := by decide +kernel
theorem dX10_passesAll_9 : decode cX10_passesAll 9 = .ok (.iload_n 2, 1) := by decide +kernel
theorem dX10_passesAll_10 : decode cX10_passesAll 10 = .ok (.putfield 126, 3) := by decide +kernel
theorem dX10_passesAll_13 : decode cX10_passesAll 13 = .ok (.aload_n 0, 1) := by decide +kernel
theorem dX10_passesAll_14 : decode cX10_passesAll 14 = .ok (.aload_n 0, 1) := by decide +kernel
theorem dX10_passesAll_15 : decode cX10_passesAll 15 = .ok (.getfield 13, 3) := by decide +kernel
theorem dX10_passesAll_18 : decode cX10_passesAll 18 = .ok (.invokevirtual 133, 3) := by decide +kernel
theorem dX10_passesAll_21 : decode cX10_passesAll 21 = .ok (.aload_n 0, 1) := by decide +kernel
theorem dX10_passesAll_22 : decode cX10_passesAll 22 = .ok (.aload_n 0, 1) := by decide +kernel
theorem dX10_passesAll_23 : decode cX10_passesAll 23 = .ok (.getfield 16, 3) := by decide +kernel
theorem dX10_passesAll_26 : decode cX10_passesAll 26 = .ok (.invokevirtual 133, 3) := by decide +kernel
theorem dX10_passesAll_29 : decode cX10_passesAll 29 = .ok (.aload_n 0, 1) := by decide +kernel
theorem dX10_passesAll_30 : decode cX10_passesAll 30 = .ok (.aload_n 0, 1) := by decide +kernel
theorem dX10_passesAll_31 : decode cX10_passesAll 31 = .ok (.getfield 19, 3) := by decide +kernel
theorem dX10_passesAll_34 : decode cX10_passesAll 34 = .ok (.invokevirtual 133, 3) := by decide +kernel
theorem dX10_passesAll_37 : decode cX10_passesAll 37 = .ok (.aload_n 0, 1) := by decide +kernel
theorem dX10_passesAll_38 : decode cX10_passesAll 38 = .ok (.aload_n 0, 1) := by decide +kernel
theorem dX10_passesAll_39 : decode cX10_passesAll 39 = .ok (.getfield 22, 3) := by decide +kernel
theorem dX10_passesAll_42 : decode cX10_passesAll 42 = .ok (.invokevirtual 133, 3) := by decide +kernel
theorem dX10_passesAll_45 : decode cX10_passesAll 45 = .ok (.aload_n 0, 1) := by decide +kernel
theorem dX10_passesAll_46 : decode cX10_passesAll 46 = .ok (.aload_n 0, 1) := by decide +kernel
theorem dX10_passesAll_47 : decode cX10_passesAll 47 = .ok (.getfield 25, 3) := by decide +kernel
theorem dX10_passesAll_50 : decode cX10_passesAll 50 = .ok (.invokevirtual 133, 3) := by decide +kernel
theorem dX10_passesAll_53 : decode cX10_passesAll 53 = .ok (.aload_n 0, 1) := by decide +kernel
theorem dX10_passesAll_54 : decode cX10_passesAll 54 = .ok (.aload_n 0, 1) := by decide +kernel
theorem dX10_passesAll_55 : decode cX10_passesAll 55 = .ok (.getfield 28, 3) := by decide +kernel
theorem dX10_passesAll_58 : decode cX10_passesAll 58 = .ok (.invokevirtual 133, 3) := by decide +kernel
theorem dX10_passesAll_61 : decode cX10_passesAll 61 = .ok (.aload_n 0, 1) := by decide +kernel
theorem dX10_passesAll_62 : decode cX10_passesAll 62 = .ok (.aload_n 0, 1) := by decide +kernel
theorem dX10_passesAll_63 : decode cX10_passesAll 63 = .ok (.aload_n 0, 1) := by decide +kernel
theorem dX10_passesAll_64 : decode cX10_passesAll 64 = .ok (.getfield 72, 3) := by decide +kernel
theorem dX10_passesAll_67 : decode cX10_passesAll 67 = .ok (.invokevirtual 137, 3) := by decide +kernel
theorem dX10_passesAll_70 : decode cX10_passesAll 70 = .ok (.putfield 72, 3) := by decide +kernel
theorem dX10_passesAll_73 : decode cX10_passesAll 73 = .ok (.aload_n 0, 1) := by decide +kernel
theorem dX10_passesAll_74 : decode cX10_passesAll 74 = .ok (.aload_n 0, 1) := by decide +kernel
theorem dX10_passesAll_75 : decode cX10_passesAll 75 = .ok (.aload_n 0, 1) := by decide +kernel
theorem dX10_passesAll_76 : decode cX10_passesAll 76 = .ok (.getfield 140, 3) := by decide +kernel
theorem dX10_passesAll_79 : decode cX10_passesAll 79 = .ok (.invokevirtual 137, 3) := by decide +kernel
theorem dX10_passesAll_82 : decode cX10_passesAll 82 = .ok (.putfield 140, 3) := by decide +kernel
theorem dX10_passesAll_85 : decode cX10_passesAll 85 = .ok (.return_, 1) := by decide +kernel
theorem dX10_image_0 : decode cX10_image 0 = .ok (.aload_n 0, 1) := by decide +kernel
theorem dX10_image_1 : decode cX10_image 1 = .ok (.iconst 1, 1) := by decide +kernel
theorem dX10_image_2 : decode cX10_image 2 = .ok (.putfield 143, 3) := by decide +kernel
theorem dX10_image_5 : decode cX10_image 5 = .ok (.aload_n 0, 1) := by decide +kernel
theorem dX10_image_6 : decode cX10_image 6 = .ok (.iconst 0, 1) := by decide +kernel
theorem dX10_image_7 : decode cX10_image 7 = .ok (.iconst 1, 1) := by decide +kernel
theorem dX10_image_8 : decode cX10_image 8 = .ok (.invokevirtual 119, 3) := by decide +kernel
theorem dX10_image_11 : decode cX10_image 11 = .ok (.aload_n 0, 1) := by decide +kernel
theorem dX10_image_12 : decode cX10_image 12 = .ok (.getfield 140, 3) := by decide +kernel
theorem dX10_image_15 : decode cX10_image 15 = .ok (.ireturn, 1) := by decide +kernel
theorem dX10_restore_0 : decode cX10_restore 0 = .ok (.aload_n 0, 1) := by decide +kernel
theorem dX10_restore_1 : decode cX10_restore 1 = .ok (.getfield 143, 3) := by decide +kernel
theorem dX10_restore_4 : decode cX10_restore 4 = .ok (.ifCond .ne 10, 3) := by decide +kernel
theorem dX10_restore_7 : decode cX10_restore 7 = .ok (.aload_n 0, 1) := by decide +kernel
theorem dX10_restore_8 : decode cX10_restore 8 = .ok (.bipush (-3), 2) := by decide +kernel
theorem dX10_restore_10 : decode cX10_restore 10 = .ok (.invokevirtual 83, 3) := by decide +kernel
theorem dX10_restore_13 : decode cX10_restore 13 = .ok (.ireturn, 1) := by decide +kernel
theorem dX10_restore_14 : decode cX10_restore 14 = .ok (.aload_n 0, 1) := by decide +kernel
theorem dX10_restore_15 : decode cX10_restore 15 = .ok (.iconst 0, 1) := by decide +kernel
theorem dX10_restore_16 : decode cX10_restore 16 = .ok (.iconst 0, 1) := by decide +kernel
theorem dX10_restore_17 : decode cX10_restore 17 = .ok (.invokevirtual 119, 3) := by decide +kernel
theorem dX10_restore_20 : decode cX10_restore 20 = .ok (.aload_n 0, 1) := by decide +kernel
theorem dX10_restore_21 : decode cX10_restore 21 = .ok (.getfield 140, 3) := by decide +kernel
theorem dX10_restore_24 : decode cX10_restore 24 = .ok (.ireturn, 1) := by decide +kernel
theorem dX10_dragOf_0 : decode cX10_dragOf 0 = .ok (.aload_n 0, 1) := by decide +kernel
theorem dX10_dragOf_1 : decode cX10_dragOf 1 = .ok (.getfield 25, 3) := by decide +kernel
theorem dX10_dragOf_4 : decode cX10_dragOf 4 = .ok (.iload_n 1, 1) := by decide +kernel
theorem dX10_dragOf_5 : decode cX10_dragOf 5 = .ok (.iaload, 1) := by decide +kernel
theorem dX10_dragOf_6 : decode cX10_dragOf 6 = .ok (.iconst 2, 1) := by decide +kernel
theorem dX10_dragOf_7 : decode cX10_dragOf 7 = .ok (.if_icmp .ne 5, 3) := by decide +kernel
theorem dX10_dragOf_10 : decode cX10_dragOf 10 = .ok (.iconst 0, 1) := by decide +kernel
theorem dX10_dragOf_11 : decode cX10_dragOf 11 = .ok (.ireturn, 1) := by decide +kernel
theorem dX10_dragOf_12 : decode cX10_dragOf 12 = .ok (.aload_n 0, 1) := by decide +kernel
theorem dX10_dragOf_13 : decode cX10_dragOf 13 = .ok (.getfield 13, 3) := by decide +kernel
theorem dX10_dragOf_16 : decode cX10_dragOf 16 = .ok (.iload_n 1, 1) := by decide +kernel
theorem dX10_dragOf_17 : decode cX10_dragOf 17 = .ok (.iaload, 1) := by decide +kernel
theorem dX10_dragOf_18 : decode cX10_dragOf 18 = .ok (.iconst 3, 1) := by decide +kernel
theorem dX10_dragOf_19 : decode cX10_dragOf 19 = .ok (.if_icmp .ne 8, 3) := by decide +kernel
theorem dX10_dragOf_22 : decode cX10_dragOf 22 = .ok (.bipush 15, 2) := by decide +kernel
theorem dX10_dragOf_24 : decode cX10_dragOf 24 = .ok (.goto 35, 3) := by decide +kernel
theorem dX10_dragOf_27 : decode cX10_dragOf 27 = .ok (.aload_n 0, 1) := by decide +kernel
theorem dX10_dragOf_28 : decode cX10_dragOf 28 = .ok (.getfield 13, 3) := by decide +kernel
theorem dX10_dragOf_31 : decode cX10_dragOf 31 = .ok (.iload_n 1, 1) := by decide +kernel
theorem dX10_dragOf_32 : decode cX10_dragOf 32 = .ok (.iaload, 1) := by decide +kernel
theorem dX10_dragOf_33 : decode cX10_dragOf 33 = .ok (.iconst 4, 1) := by decide +kernel
theorem dX10_dragOf_34 : decode cX10_dragOf 34 = .ok (.if_icmp .ne 8, 3) := by decide +kernel
theorem dX10_dragOf_37 : decode cX10_dragOf 37 = .ok (.bipush 6, 2) := by decide +kernel
theorem dX10_dragOf_39 : decode cX10_dragOf 39 = .ok (.goto 20, 3) := by decide +kernel
theorem dX10_dragOf_42 : decode cX10_dragOf 42 = .ok (.aload_n 0, 1) := by decide +kernel
theorem dX10_dragOf_43 : decode cX10_dragOf 43 = .ok (.getfield 13, 3) := by decide +kernel
theorem dX10_dragOf_46 : decode cX10_dragOf 46 = .ok (.iload_n 1, 1) := by decide +kernel
theorem dX10_dragOf_47 : decode cX10_dragOf 47 = .ok (.iaload, 1) := by decide +kernel
theorem dX10_dragOf_48 : decode cX10_dragOf 48 = .ok (.iconst 5, 1) := by decide +kernel
theorem dX10_dragOf_49 : decode cX10_dragOf 49 = .ok (.if_icmp .ne 8, 3) := by decide +kernel
theorem dX10_dragOf_52 : decode cX10_dragOf 52 = .ok (.bipush 20, 2) := by decide +kernel
theorem dX10_dragOf_54 : decode cX10_dragOf 54 = .ok (.goto 5, 3) := by decide +kernel
theorem dX10_dragOf_57 : decode cX10_dragOf 57 = .ok (.bipush 10, 2) := by decide +kernel
theorem dX10_dragOf_59 : decode cX10_dragOf 59 = .ok (.ireturn, 1) := by decide +kernel
theorem dX10_isWhole_0 : decode cX10_isWhole 0 = .ok (.iload_n 1, 1) := by decide +kernel
theorem dX10_isWhole_1 : decode cX10_isWhole 1 = .ok (.istore_n 3, 1) := by decide +kernel
theorem dX10_isWhole_2 : decode cX10_isWhole 2 = .ok (.iload_n 3, 1) := by decide +kernel
theorem dX10_isWhole_3 : decode cX10_isWhole 3 = .ok (.iload_n 2, 1) := by decide +kernel
theorem dX10_isWhole_4 : decode cX10_isWhole 4 = .ok (.if_icmp .gt 31, 3) := by decide +kernel
theorem dX10_isWhole_7 : decode cX10_isWhole 7 = .ok (.aload_n 0, 1) := by decide +kernel
theorem dX10_isWhole_8 : decode cX10_isWhole 8 = .ok (.getfield 25, 3) := by decide +kernel
theorem dX10_isWhole_11 : decode cX10_isWhole 11 = .ok (.iload_n 3, 1) := by decide +kernel
theorem dX10_isWhole_12 : decode cX10_isWhole 12 = .ok (.iaload, 1) := by decide +kernel
theorem dX10_isWhole_13 : decode cX10_isWhole 13 = .ok (.iconst 1, 1) := by decide +kernel
theorem dX10_isWhole_14 : decode cX10_isWhole 14 = .ok (.if_icmp .eq 13, 3) := by decide +kernel
theorem dX10_isWhole_17 : decode cX10_isWhole 17 = .ok (.aload_n 0, 1) := by decide +kernel
theorem dX10_isWhole_18 : decode cX10_isWhole 18 = .ok (.getfield 25, 3) := by decide +kernel
theorem dX10_isWhole_21 : decode cX10_isWhole 21 = .ok (.iload_n 3, 1) := by decide +kernel
theorem dX10_isWhole_22 : decode cX10_isWhole 22 = .ok (.iaload, 1) := by decide +kernel
theorem dX10_isWhole_23 : decode cX10_isWhole 23 = .ok (.iconst 3, 1) := by decide +kernel
theorem dX10_isWhole_24 : decode cX10_isWhole 24 = .ok (.if_icmp .ne 5, 3) := by decide +kernel
theorem dX10_isWhole_27 : decode cX10_isWhole 27 = .ok (.iconst 0, 1) := by decide +kernel
theorem dX10_isWhole_28 : decode cX10_isWhole 28 = .ok (.ireturn, 1) := by decide +kernel
theorem dX10_isWhole_29 : decode cX10_isWhole 29 = .ok (.iinc 3 1, 3) := by decide +kernel
theorem dX10_isWhole_32 : decode cX10_isWhole 32 = .ok (.goto (-30), 3) := by decide +kernel
theorem dX10_isWhole_35 : decode cX10_isWhole 35 = .ok (.iconst 1, 1) := by decide +kernel
theorem dX10_isWhole_36 : decode cX10_isWhole 36 = .ok (.ireturn, 1) := by decide +kernel
theorem dX10_drags_0 : decode cX10_drags 0 = .ok (.iconst 0, 1) := by decide +kernel
theorem dX10_drags_1 : decode cX10_drags 1 = .ok (.istore_n 1, 1) := by decide +kernel
theorem dX10_drags_2 : decode cX10_drags 2 = .ok (.iconst 0, 1) := by decide +kernel
theorem dX10_drags_3 : decode cX10_drags 3 = .ok (.istore_n 2, 1) := by decide +kernel
theorem dX10_drags_4 : decode cX10_drags 4 = .ok (.iload_n 2, 1) := by decide +kernel
theorem dX10_drags_5 : decode cX10_drags 5 = .ok (.aload_n 0, 1) := by decide +kernel
theorem dX10_drags_6 : decode cX10_drags 6 = .ok (.getfield 72, 3) := by decide +kernel
theorem dX10_drags_9 : decode cX10_drags 9 = .ok (.if_icmp .ge 17, 3) := by decide +kernel
theorem dX10_drags_12 : decode cX10_drags 12 = .ok (.iload_n 1, 1) := by decide +kernel
theorem dX10_drags_13 : decode cX10_drags 13 = .ok (.aload_n 0, 1) := by decide +kernel
theorem dX10_drags_14 : decode cX10_drags 14 = .ok (.iload_n 2, 1) := by decide +kernel
theorem dX10_drags_15 : decode cX10_drags 15 = .ok (.invokevirtual 146, 3) := by decide +kernel
theorem dX10_drags_18 : decode cX10_drags 18 = .ok (.iadd, 1) := by decide +kernel
theorem dX10_drags_19 : decode cX10_drags 19 = .ok (.istore_n 1, 1) := by decide +kernel
theorem dX10_drags_20 : decode cX10_drags 20 = .ok (.iinc 2 1, 3) := by decide +kernel
theorem dX10_drags_23 : decode cX10_drags 23 = .ok (.goto (-19), 3) := by decide +kernel
theorem dX10_drags_26 : decode cX10_drags 26 = .ok (.iload_n 1, 1) := by decide +kernel
theorem dX10_drags_27 : decode cX10_drags 27 = .ok (.ireturn, 1) := by decide +kernel
theorem dX10_isLive_0 : decode cX10_isLive 0 = .ok (.aload_n 0, 1) := by decide +kernel
theorem dX10_isLive_1 : decode cX10_isLive 1 = .ok (.getfield 72, 3) := by decide +kernel
theorem dX10_isLive_4 : decode cX10_isLive 4 = .ok (.ifCond .le 28, 3) := by decide +kernel
theorem dX10_isLive_7 : decode cX10_isLive 7 = .ok (.aload_n 0, 1) := by decide +kernel
theorem dX10_isLive_8 : decode cX10_isLive 8 = .ok (.iconst 0, 1) := by decide +kernel
theorem dX10_isLive_9 : decode cX10_isLive 9 = .ok (.aload_n 0, 1) := by decide +kernel
theorem dX10_isLive_10 : decode cX10_isLive 10 = .ok (.getfield 72, 3) := by decide +kernel
theorem dX10_isLive_13 : decode cX10_isLive 13 = .ok (.iconst 1, 1) := by decide +kernel
theorem dX10_isLive_14 : decode cX10_isLive 14 = .ok (.isub, 1) := by decide +kernel
theorem dX10_isLive_15 : decode cX10_isLive 15 = .ok (.invokevirtual 149, 3) := by decide +kernel
theorem dX10_isLive_18 : decode cX10_isLive 18 = .ok (.ifCond .eq 14, 3) := by decide +kernel
theorem dX10_isLive_21 : decode cX10_isLive 21 = .ok (.aload_n 0, 1) := by decide +kernel
theorem dX10_isLive_22 : decode cX10_isLive 22 = .ok (.invokevirtual 152, 3) := by decide +kernel
theorem dX10_isLive_25 : decode cX10_isLive 25 = .ok (.ifCond .le 7, 3) := by decide +kernel
theorem dX10_isLive_28 : decode cX10_isLive 28 = .ok (.iconst 1, 1) := by decide +kernel
theorem dX10_isLive_29 : decode cX10_isLive 29 = .ok (.goto 4, 3) := by decide +kernel
theorem dX10_isLive_32 : decode cX10_isLive 32 = .ok (.iconst 0, 1) := by decide +kernel
theorem dX10_isLive_33 : decode cX10_isLive 33 = .ok (.ireturn, 1) := by decide +kernel
theorem dX10_flowNow_0 : decode cX10_flowNow 0 = .ok (.aload_n 0, 1) := by decide +kernel
theorem dX10_flowNow_1 : decode cX10_flowNow 1 = .ok (.invokevirtual 155, 3) := by decide +kernel
theorem dX10_flowNow_4 : decode cX10_flowNow 4 = .ok (.ifCond .eq 26, 3) := by decide +kernel
theorem dX10_flowNow_7 : decode cX10_flowNow 7 = .ok (.sipush 9999, 3) := by decide +kernel
theorem dX10_flowNow_10 : decode cX10_flowNow 10 = .ok (.bipush 100, 2) := by decide +kernel
theorem dX10_flowNow_12 : decode cX10_flowNow 12 = .ok (.aload_n 0, 1) := by decide +kernel
theorem dX10_flowNow_13 : decode cX10_flowNow 13 = .ok (.getfield 28, 3) := by decide +kernel
theorem dX10_flowNow_16 : decode cX10_flowNow 16 = .ok (.iconst 0, 1) := by decide +kernel
theorem dX10_flowNow_17 : decode cX10_flowNow 17 = .ok (.iaload, 1) := by decide +kernel
theorem dX10_flowNow_18 : decode cX10_flowNow 18 = .ok (.imul, 1) := by decide +kernel
theorem dX10_flowNow_19 : decode cX10_flowNow 19 = .ok (.aload_n 0, 1) := by decide +kernel
theorem dX10_flowNow_20 : decode cX10_flowNow 20 = .ok (.invokevirtual 152, 3) := by decide +kernel
theorem dX10_flowNow_23 : decode cX10_flowNow 23 = .ok (.idiv, 1) := by decide +kernel
theorem dX10_flowNow_24 : decode cX10_flowNow 24 = .ok (.invokestatic 158, 3) := by decide +kernel
theorem dX10_flowNow_27 : decode cX10_flowNow 27 = .ok (.goto 4, 3) := by decide +kernel
theorem dX10_flowNow_30 : decode cX10_flowNow 30 = .ok (.iconst 0, 1) := by decide +kernel
theorem dX10_flowNow_31 : decode cX10_flowNow 31 = .ok (.ireturn, 1) := by decide +kernel
theorem dX10_brightBy_0 : decode cX10_brightBy 0 = .ok (.aload_n 0, 1) := by decide +kernel
theorem dX10_brightBy_1 : decode cX10_brightBy 1 = .ok (.getfield 25, 3) := by decide +kernel
theorem dX10_brightBy_4 : decode cX10_brightBy 4 = .ok (.iload_n 1, 1) := by decide +kernel
theorem dX10_brightBy_5 : decode cX10_brightBy 5 = .ok (.iaload, 1) := by decide +kernel
theorem dX10_brightBy_6 : decode cX10_brightBy 6 = .ok (.ifCond .ne 16, 3) := by decide +kernel
theorem dX10_brightBy_9 : decode cX10_brightBy 9 = .ok (.iload_n 2, 1) := by decide +kernel
theorem dX10_brightBy_10 : decode cX10_brightBy 10 = .ok (.aload_n 0, 1) := by decide +kernel
theorem dX10_brightBy_11 : decode cX10_brightBy 11 = .ok (.iload_n 1, 1) := by decide +kernel
theorem dX10_brightBy_12 : decode cX10_brightBy 12 = .ok (.invokevirtual 146, 3) := by decide +kernel
theorem dX10_brightBy_15 : decode cX10_brightBy 15 = .ok (.imul, 1) := by decide +kernel
theorem dX10_brightBy_16 : decode cX10_brightBy 16 = .ok (.bipush 100, 2) := by decide +kernel
theorem dX10_brightBy_18 : decode cX10_brightBy 18 = .ok (.idiv, 1) := by decide +kernel
theorem dX10_brightBy_19 : decode cX10_brightBy 19 = .ok (.goto 4, 3) := by decide +kernel
theorem dX10_brightBy_22 : decode cX10_brightBy 22 = .ok (.iconst 0, 1) := by decide +kernel
theorem dX10_brightBy_23 : decode cX10_brightBy 23 = .ok (.ireturn, 1) := by decide +kernel
theorem dX10_isLoose_0 : decode cX10_isLoose 0 = .ok (.aload_n 0, 1) := by decide +kernel
theorem dX10_isLoose_1 : decode cX10_isLoose 1 = .ok (.getfield 13, 3) := by decide +kernel
theorem dX10_isLoose_4 : decode cX10_isLoose 4 = .ok (.iload_n 1, 1) := by decide +kernel
theorem dX10_isLoose_5 : decode cX10_isLoose 5 = .ok (.iaload, 1) := by decide +kernel
theorem dX10_isLoose_6 : decode cX10_isLoose 6 = .ok (.iconst 2, 1) := by decide +kernel
theorem dX10_isLoose_7 : decode cX10_isLoose 7 = .ok (.if_icmp .eq 13, 3) := by decide +kernel
theorem dX10_isLoose_10 : decode cX10_isLoose 10 = .ok (.aload_n 0, 1) := by decide +kernel
theorem dX10_isLoose_11 : decode cX10_isLoose 11 = .ok (.getfield 13, 3) := by decide +kernel
theorem dX10_isLoose_14 : decode cX10_isLoose 14 = .ok (.iload_n 1, 1) := by decide +kernel
theorem dX10_isLoose_15 : decode cX10_isLoose 15 = .ok (.iaload, 1) := by decide +kernel
theorem dX10_isLoose_16 : decode cX10_isLoose 16 = .ok (.iconst 3, 1) := by decide +kernel
theorem dX10_isLoose_17 : decode cX10_isLoose 17 = .ok (.if_icmp .ne 7, 3) := by decide +kernel
theorem dX10_isLoose_20 : decode cX10_isLoose 20 = .ok (.iconst 1, 1) := by decide +kernel
theorem dX10_isLoose_21 : decode cX10_isLoose 21 = .ok (.goto 4, 3) := by decide +kernel
theorem dX10_isLoose_24 : decode cX10_isLoose 24 = .ok (.iconst 0, 1) := by decide +kernel
theorem dX10_isLoose_25 : decode cX10_isLoose 25 = .ok (.ireturn, 1) := by decide +kernel
theorem dX10_doesBridge_0 : decode cX10_doesBridge 0 = .ok (.aload_n 0, 1) := by decide +kernel
theorem dX10_doesBridge_1 : decode cX10_doesBridge 1 = .ok (.getfield 13, 3) := by decide +kernel
theorem dX10_doesBridge_4 : decode cX10_doesBridge 4 = .ok (.iload_n 1, 1) := by decide +kernel
theorem dX10_doesBridge_5 : decode cX10_doesBridge 5 = .ok (.iaload, 1) := by decide +kernel
theorem dX10_doesBridge_6 : decode cX10_doesBridge 6 = .ok (.iconst 1, 1) := by decide +kernel
theorem dX10_doesBridge_7 : decode cX10_doesBridge 7 = .ok (.if_icmp .eq 13, 3) := by decide +kernel
theorem dX10_doesBridge_10 : decode cX10_doesBridge 10 = .ok (.aload_n 0, 1) := by decide +kernel
theorem dX10_doesBridge_11 : decode cX10_doesBridge 11 = .ok (.getfield 13, 3) := by decide +kernel
theorem dX10_doesBridge_14 : decode cX10_doesBridge 14 = .ok (.iload_n 1, 1) := by decide +kernel
theorem dX10_doesBridge_15 : decode cX10_doesBridge 15 = .ok (.iaload, 1) := by decide +kernel
theorem dX10_doesBridge_16 : decode cX10_doesBridge 16 = .ok (.iconst 5, 1) := by decide +kernel
theorem dX10_doesBridge_17 : decode cX10_doesBridge 17 = .ok (.if_icmp .ne 7, 3) := by decide +kernel
theorem dX10_doesBridge_20 : decode cX10_doesBridge 20 = .ok (.iconst 1, 1) := by decide +kernel
theorem dX10_doesBridge_21 : decode cX10_doesBridge 21 = .ok (.goto 4, 3) := by decide +kernel
theorem dX10_doesBridge_24 : decode cX10_doesBridge 24 = .ok (.iconst 0, 1) := by decide +kernel
theorem dX10_doesBridge_25 : decode cX10_doesBridge 25 = .ok (.ireturn, 1) := by decide +kernel
theorem dX10_likelyOf_0 : decode cX10_likelyOf 0 = .ok (.aload_n 0, 1) := by decide +kernel
theorem dX10_likelyOf_1 : decode cX10_likelyOf 1 = .ok (.iload_n 1, 1) := by decide +kernel
theorem dX10_likelyOf_2 : decode cX10_likelyOf 2 = .ok (.invokevirtual 162, 3) := by decide +kernel
theorem dX10_likelyOf_5 : decode cX10_likelyOf 5 = .ok (.ifCond .eq 7, 3) := by decide +kernel
theorem dX10_likelyOf_8 : decode cX10_likelyOf 8 = .ok (.iconst 1, 1) := by decide +kernel
theorem dX10_likelyOf_9 : decode cX10_likelyOf 9 = .ok (.goto 28, 3) := by decide +kernel
theorem dX10_likelyOf_12 : decode cX10_likelyOf 12 = .ok (.aload_n 0, 1) := by decide +kernel
theorem dX10_likelyOf_13 : decode cX10_likelyOf 13 = .ok (.getfield 22, 3) := by decide +kernel
theorem dX10_likelyOf_16 : decode cX10_likelyOf 16 = .ok (.iload_n 1, 1) := by decide +kernel
theorem dX10_likelyOf_17 : decode cX10_likelyOf 17 = .ok (.iaload, 1) := by decide +kernel
theorem dX10_likelyOf_18 : decode cX10_likelyOf 18 = .ok (.bipush 10, 2) := by decide +kernel
theorem dX10_likelyOf_20 : decode cX10_likelyOf 20 = .ok (.idiv, 1) := by decide +kernel
theorem dX10_likelyOf_21 : decode cX10_likelyOf 21 = .ok (.iconst 1, 1) := by decide +kernel
theorem dX10_likelyOf_22 : decode cX10_likelyOf 22 = .ok (.iadd, 1) := by decide +kernel
theorem dX10_likelyOf_23 : decode cX10_likelyOf 23 = .ok (.aload_n 0, 1) := by decide +kernel
theorem dX10_likelyOf_24 : decode cX10_likelyOf 24 = .ok (.iload_n 1, 1) := by decide +kernel
theorem dX10_likelyOf_25 : decode cX10_likelyOf 25 = .ok (.invokevirtual 165, 3) := by decide +kernel
theorem dX10_likelyOf_28 : decode cX10_likelyOf 28 = .ok (.ifCond .eq 7, 3) := by decide +kernel
theorem dX10_likelyOf_31 : decode cX10_likelyOf 31 = .ok (.iconst 3, 1) := by decide +kernel
theorem dX10_likelyOf_32 : decode cX10_likelyOf 32 = .ok (.goto 4, 3) := by decide +kernel
theorem dX10_likelyOf_35 : decode cX10_likelyOf 35 = .ok (.iconst 0, 1) := by decide +kernel
theorem dX10_likelyOf_36 : decode cX10_likelyOf 36 = .ok (.iadd, 1) := by decide +kernel
theorem dX10_likelyOf_37 : decode cX10_likelyOf 37 = .ok (.ireturn, 1) := by decide +kernel
theorem dX10_lamp_0 : decode cX10_lamp 0 = .ok (.aload_n 0, 1) := by decide +kernel
theorem dX10_lamp_1 : decode cX10_lamp 1 = .ok (.iload_n 1, 1) := by decide +kernel
theorem dX10_lamp_2 : decode cX10_lamp 2 = .ok (.invokevirtual 112, 3) := by decide +kernel
theorem dX10_lamp_5 : decode cX10_lamp 5 = .ok (.ifCond .ne 9, 3) := by decide +kernel
theorem dX10_lamp_8 : decode cX10_lamp 8 = .ok (.aload_n 0, 1) := by decide +kernel
theorem dX10_lamp_9 : decode cX10_lamp 9 = .ok (.iconst (-1), 1) := by decide +kernel
theorem dX10_lamp_10 : decode cX10_lamp 10 = .ok (.invokevirtual 83, 3) := by decide +kernel
theorem dX10_lamp_13 : decode cX10_lamp 13 = .ok (.ireturn, 1) := by decide +kernel
theorem dX10_lamp_14 : decode cX10_lamp 14 = .ok (.iload_n 2, 1) := by decide +kernel
theorem dX10_lamp_15 : decode cX10_lamp 15 = .ok (.tableswitch 102 0 7 #[45, 52, 59, 66, 73, 80, 86, 96], 45) := by decide +kernel
theorem dX10_lamp_60 : decode cX10_lamp 60 = .ok (.aload_n 0, 1) := by decide +kernel
theorem dX10_lamp_61 : decode cX10_lamp 61 = .ok (.getfield 13, 3) := by decide +kernel
theorem dX10_lamp_64 : decode cX10_lamp 64 = .ok (.iload_n 1, 1) := by decide +kernel
theorem dX10_lamp_65 : decode cX10_lamp 65 = .ok (.iaload, 1) := by decide +kernel
theorem dX10_lamp_66 : decode cX10_lamp 66 = .ok (.ireturn, 1) := by decide +kernel
theorem dX10_lamp_67 : decode cX10_lamp 67 = .ok (.aload_n 0, 1) := by decide +kernel
theorem dX10_lamp_68 : decode cX10_lamp 68 = .ok (.getfield 16, 3) := by decide +kernel
theorem dX10_lamp_71 : decode cX10_lamp 71 = .ok (.iload_n 1, 1) := by decide +kernel
theorem dX10_lamp_72 : decode cX10_lamp 72 = .ok (.iaload, 1) := by decide +kernel
theorem dX10_lamp_73 : decode cX10_lamp 73 = .ok (.ireturn, 1) := by decide +kernel
theorem dX10_lamp_74 : decode cX10_lamp 74 = .ok (.aload_n 0, 1) := by decide +kernel
theorem dX10_lamp_75 : decode cX10_lamp 75 = .ok (.getfield 19, 3) := by decide +kernel
theorem dX10_lamp_78 : decode cX10_lamp 78 = .ok (.iload_n 1, 1) := by decide +kernel
theorem dX10_lamp_79 : decode cX10_lamp 79 = .ok (.iaload, 1) := by decide +kernel
theorem dX10_lamp_80 : decode cX10_lamp 80 = .ok (.ireturn, 1) := by decide +kernel
theorem dX10_lamp_81 : decode cX10_lamp 81 = .ok (.aload_n 0, 1) := by decide +kernel
theorem dX10_lamp_82 : decode cX10_lamp 82 = .ok (.getfield 22, 3) := by decide +kernel
theorem dX10_lamp_85 : decode cX10_lamp 85 = .ok (.iload_n 1, 1) := by decide +kernel
theorem dX10_lamp_86 : decode cX10_lamp 86 = .ok (.iaload, 1) := by decide +kernel
theorem dX10_lamp_87 : decode cX10_lamp 87 = .ok (.ireturn, 1) := by decide +kernel
theorem dX10_lamp_88 : decode cX10_lamp 88 = .ok (.aload_n 0, 1) := by decide +kernel
theorem dX10_lamp_89 : decode cX10_lamp 89 = .ok (.getfield 25, 3) := by decide +kernel
theorem dX10_lamp_92 : decode cX10_lamp 92 = .ok (.iload_n 1, 1) := by decide +kernel
theorem dX10_lamp_93 : decode cX10_lamp 93 = .ok (.iaload, 1) := by decide +kernel
theorem dX10_lamp_94 : decode cX10_lamp 94 = .ok (.ireturn, 1) := by decide +kernel
theorem dX10_lamp_95 : decode cX10_lamp 95 = .ok (.aload_n 0, 1) := by decide +kernel
theorem dX10_lamp_96 : decode cX10_lamp 96 = .ok (.iload_n 1, 1) := by decide +kernel
theorem dX10_lamp_97 : decode cX10_lamp 97 = .ok (.invokevirtual 146, 3) := by decide +kernel
theorem dX10_lamp_100 : decode cX10_lamp 100 = .ok (.ireturn, 1) := by decide +kernel
theorem dX10_lamp_101 : decode cX10_lamp 101 = .ok (.aload_n 0, 1) := by decide +kernel
theorem dX10_lamp_102 : decode cX10_lamp 102 = .ok (.iload_n 1, 1) := by decide +kernel
theorem dX10_lamp_103 : decode cX10_lamp 103 = .ok (.aload_n 0, 1) := by decide +kernel
theorem dX10_lamp_104 : decode cX10_lamp 104 = .ok (.invokevirtual 168, 3) := by decide +kernel
theorem dX10_lamp_107 : decode cX10_lamp 107 = .ok (.invokevirtual 171, 3) := by decide +kernel
theorem dX10_lamp_110 : decode cX10_lamp 110 = .ok (.ireturn, 1) := by decide +kernel
theorem dX10_lamp_111 : decode cX10_lamp 111 = .ok (.aload_n 0, 1) := by decide +kernel
theorem dX10_lamp_112 : decode cX10_lamp 112 = .ok (.iload_n 1, 1) := by decide +kernel
theorem dX10_lamp_113 : decode cX10_lamp 113 = .ok (.invokevirtual 174, 3) := by decide +kernel
theorem dX10_lamp_116 : decode cX10_lamp 116 = .ok (.ireturn, 1) := by decide +kernel
theorem dX10_lamp_117 : decode cX10_lamp 117 = .ok (.aload_n 0, 1) := by decide +kernel
theorem dX10_lamp_118 : decode cX10_lamp 118 = .ok (.bipush (-2), 2) := by decide +kernel
theorem dX10_lamp_120 : decode cX10_lamp 120 = .ok (.invokevirtual 83, 3) := by decide +kernel
theorem dX10_lamp_123 : decode cX10_lamp 123 = .ok (.ireturn, 1) := by decide +kernel
theorem dX10_set_0 : decode cX10_set 0 = .ok (.iload_n 1, 1) := by decide +kernel
theorem dX10_set_1 : decode cX10_set 1 = .ok (.iconst 0, 1) := by decide +kernel
theorem dX10_set_2 : decode cX10_set 2 = .ok (.iconst 3, 1) := by decide +kernel
theorem dX10_set_3 : decode cX10_set 3 = .ok (.invokestatic 94, 3) := by decide +kernel
theorem dX10_set_6 : decode cX10_set 6 = .ok (.ifCond .ne 10, 3) := by decide +kernel
theorem dX10_set_9 : decode cX10_set 9 = .ok (.aload_n 0, 1) := by decide +kernel
theorem dX10_set_10 : decode cX10_set 10 = .ok (.bipush (-2), 2) := by decide +kernel
theorem dX10_set_12 : decode cX10_set 12 = .ok (.invokevirtual 83, 3) := by decide +kernel
theorem dX10_set_15 : decode cX10_set 15 = .ok (.ireturn, 1) := by decide +kernel
theorem dX10_set_16 : decode cX10_set 16 = .ok (.iload_n 2, 1) := by decide +kernel
theorem dX10_set_17 : decode cX10_set 17 = .ok (.getstatic 177, 3) := by decide +kernel
theorem dX10_set_20 : decode cX10_set 20 = .ok (.iload_n 1, 1) := by decide +kernel
theorem dX10_set_21 : decode cX10_set 21 = .ok (.iaload, 1) := by decide +kernel
theorem dX10_set_22 : decode cX10_set 22 = .ok (.getstatic 180, 3) := by decide +kernel
theorem dX10_set_25 : decode cX10_set 25 = .ok (.iload_n 1, 1) := by decide +kernel
theorem dX10_set_26 : decode cX10_set 26 = .ok (.iaload, 1) := by decide +kernel
theorem dX10_set_27 : decode cX10_set 27 = .ok (.invokestatic 76, 3) := by decide +kernel
theorem dX10_set_30 : decode cX10_set 30 = .ok (.istore_n 3, 1) := by decide +kernel
theorem dX10_set_31 : decode cX10_set 31 = .ok (.iload_n 3, 1) := by decide +kernel
theorem dX10_set_32 : decode cX10_set 32 = .ok (.ifCond .eq 9, 3) := by decide +kernel
theorem dX10_set_35 : decode cX10_set 35 = .ok (.aload_n 0, 1) := by decide +kernel
theorem dX10_set_36 : decode cX10_set 36 = .ok (.iload_n 3, 1) := by decide +kernel
theorem dX10_set_37 : decode cX10_set 37 = .ok (.invokevirtual 83, 3) := by decide +kernel
theorem dX10_set_40 : decode cX10_set 40 = .ok (.ireturn, 1) := by decide +kernel
theorem dX10_set_41 : decode cX10_set 41 = .ok (.aload_n 0, 1) := by decide +kernel
theorem dX10_set_42 : decode cX10_set 42 = .ok (.getfield 28, 3) := by decide +kernel
theorem dX10_set_45 : decode cX10_set 45 = .ok (.iload_n 1, 1) := by decide +kernel
theorem dX10_set_46 : decode cX10_set 46 = .ok (.iaload, 1) := by decide +kernel
theorem dX10_set_47 : decode cX10_set 47 = .ok (.istore 4, 2) := by decide +kernel
theorem dX10_set_49 : decode cX10_set 49 = .ok (.aload_n 0, 1) := by decide +kernel
theorem dX10_set_50 : decode cX10_set 50 = .ok (.getfield 28, 3) := by decide +kernel
theorem dX10_set_53 : decode cX10_set 53 = .ok (.iload_n 1, 1) := by decide +kernel
theorem dX10_set_54 : decode cX10_set 54 = .ok (.iload_n 2, 1) := by decide +kernel
theorem dX10_set_55 : decode cX10_set 55 = .ok (.iastore, 1) := by decide +kernel
theorem dX10_set_56 : decode cX10_set 56 = .ok (.iload 4, 2) := by decide +kernel
theorem dX10_set_58 : decode cX10_set 58 = .ok (.ireturn, 1) := by decide +kernel
theorem dX10_flow_0 : decode cX10_flow 0 = .ok (.aload_n 0, 1) := by decide +kernel
theorem dX10_flow_1 : decode cX10_flow 1 = .ok (.invokevirtual 168, 3) := by decide +kernel
theorem dX10_flow_4 : decode cX10_flow 4 = .ok (.ireturn, 1) := by decide +kernel
theorem dX10_doesDie_0 : decode cX10_doesDie 0 = .ok (.aload_n 0, 1) := by decide +kernel
theorem dX10_doesDie_1 : decode cX10_doesDie 1 = .ok (.getfield 13, 3) := by decide +kernel
theorem dX10_doesDie_4 : decode cX10_doesDie 4 = .ok (.iload_n 1, 1) := by decide +kernel
theorem dX10_doesDie_5 : decode cX10_doesDie 5 = .ok (.iaload, 1) := by decide +kernel
theorem dX10_doesDie_6 : decode cX10_doesDie 6 = .ok (.iconst 4, 1) := by decide +kernel
theorem dX10_doesDie_7 : decode cX10_doesDie 7 = .ok (.if_icmp .ne 21, 3) := by decide +kernel
theorem dX10_doesDie_10 : decode cX10_doesDie 10 = .ok (.iload_n 2, 1) := by decide +kernel
theorem dX10_doesDie_11 : decode cX10_doesDie 11 = .ok (.iconst 5, 1) := by decide +kernel
theorem dX10_doesDie_12 : decode cX10_doesDie 12 = .ok (.aload_n 0, 1) := by decide +kernel
theorem dX10_doesDie_13 : decode cX10_doesDie 13 = .ok (.getfield 16, 3) := by decide +kernel
theorem dX10_doesDie_16 : decode cX10_doesDie 16 = .ok (.iload_n 1, 1) := by decide +kernel
theorem dX10_doesDie_17 : decode cX10_doesDie 17 = .ok (.iaload, 1) := by decide +kernel
theorem dX10_doesDie_18 : decode cX10_doesDie 18 = .ok (.imul, 1) := by decide +kernel
theorem dX10_doesDie_19 : decode cX10_doesDie 19 = .ok (.if_icmp .le 7, 3) := by decide +kernel
theorem dX10_doesDie_22 : decode cX10_doesDie 22 = .ok (.iconst 1, 1) := by decide +kernel
theorem dX10_doesDie_23 : decode cX10_doesDie 23 = .ok (.goto 4, 3) := by decide +kernel
theorem dX10_doesDie_26 : decode cX10_doesDie 26 = .ok (.iconst 0, 1) := by decide +kernel
theorem dX10_doesDie_27 : decode cX10_doesDie 27 = .ok (.ireturn, 1) := by decide +kernel
theorem dX10_doesDie_28 : decode cX10_doesDie 28 = .ok (.aload_n 0, 1) := by decide +kernel
theorem dX10_doesDie_29 : decode cX10_doesDie 29 = .ok (.getfield 22, 3) := by decide +kernel
theorem dX10_doesDie_32 : decode cX10_doesDie 32 = .ok (.iload_n 1, 1) := by decide +kernel
theorem dX10_doesDie_33 : decode cX10_doesDie 33 = .ok (.iaload, 1) := by decide +kernel
theorem dX10_doesDie_34 : decode cX10_doesDie 34 = .ok (.aload_n 0, 1) := by decide +kernel
theorem dX10_doesDie_35 : decode cX10_doesDie 35 = .ok (.getfield 13, 3) := by decide +kernel
theorem dX10_doesDie_38 : decode cX10_doesDie 38 = .ok (.iload_n 1, 1) := by decide +kernel
theorem dX10_doesDie_39 : decode cX10_doesDie 39 = .ok (.iaload, 1) := by decide +kernel
theorem dX10_doesDie_40 : decode cX10_doesDie 40 = .ok (.iconst 5, 1) := by decide +kernel
theorem dX10_doesDie_41 : decode cX10_doesDie 41 = .ok (.if_icmp .ne 8, 3) := by decide +kernel
theorem dX10_doesDie_44 : decode cX10_doesDie 44 = .ok (.bipush 20, 2) := by decide +kernel
theorem dX10_doesDie_46 : decode cX10_doesDie 46 = .ok (.goto 5, 3) := by decide +kernel
theorem dX10_doesDie_49 : decode cX10_doesDie 49 = .ok (.bipush 10, 2) := by decide +kernel
theorem dX10_doesDie_51 : decode cX10_doesDie 51 = .ok (.aload_n 0, 1) := by decide +kernel
theorem dX10_doesDie_52 : decode cX10_doesDie 52 = .ok (.getfield 16, 3) := by decide +kernel
theorem dX10_doesDie_55 : decode cX10_doesDie 55 = .ok (.iload_n 1, 1) := by decide +kernel
theorem dX10_doesDie_56 : decode cX10_doesDie 56 = .ok (.iaload, 1) := by decide +kernel
theorem dX10_doesDie_57 : decode cX10_doesDie 57 = .ok (.imul, 1) := by decide +kernel
theorem dX10_doesDie_58 : decode cX10_doesDie 58 = .ok (.if_icmp .lt 7, 3) := by decide +kernel
theorem dX10_doesDie_61 : decode cX10_doesDie 61 = .ok (.iconst 1, 1) := by decide +kernel
theorem dX10_doesDie_62 : decode cX10_doesDie 62 = .ok (.goto 4, 3) := by decide +kernel
theorem dX10_doesDie_65 : decode cX10_doesDie 65 = .ok (.iconst 0, 1) := by decide +kernel
theorem dX10_doesDie_66 : decode cX10_doesDie 66 = .ok (.ireturn, 1) := by decide +kernel
theorem dX10_doesHang_0 : decode cX10_doesHang 0 = .ok (.aload_n 0, 1) := by decide +kernel
theorem dX10_doesHang_1 : decode cX10_doesHang 1 = .ok (.getfield 13, 3) := by decide +kernel
theorem dX10_doesHang_4 : decode cX10_doesHang 4 = .ok (.iload_n 1, 1) := by decide +kernel
theorem dX10_doesHang_5 : decode cX10_doesHang 5 = .ok (.iaload, 1) := by decide +kernel
theorem dX10_doesHang_6 : decode cX10_doesHang 6 = .ok (.iconst 2, 1) := by decide +kernel
theorem dX10_doesHang_7 : decode cX10_doesHang 7 = .ok (.if_icmp .ne 19, 3) := by decide +kernel
theorem dX10_doesHang_10 : decode cX10_doesHang 10 = .ok (.aload_n 0, 1) := by decide +kernel
theorem dX10_doesHang_11 : decode cX10_doesHang 11 = .ok (.getfield 140, 3) := by decide +kernel
theorem dX10_doesHang_14 : decode cX10_doesHang 14 = .ok (.bipush 10, 2) := by decide +kernel
theorem dX10_doesHang_16 : decode cX10_doesHang 16 = .ok (.irem, 1) := by decide +kernel
theorem dX10_doesHang_17 : decode cX10_doesHang 17 = .ok (.aload_n 0, 1) := by decide +kernel
theorem dX10_doesHang_18 : decode cX10_doesHang 18 = .ok (.getfield 28, 3) := by decide +kernel
theorem dX10_doesHang_21 : decode cX10_doesHang 21 = .ok (.iconst 3, 1) := by decide +kernel
theorem dX10_doesHang_22 : decode cX10_doesHang 22 = .ok (.iaload, 1) := by decide +kernel
theorem dX10_doesHang_23 : decode cX10_doesHang 23 = .ok (.if_icmp .eq 30, 3) := by decide +kernel
theorem dX10_doesHang_26 : decode cX10_doesHang 26 = .ok (.aload_n 0, 1) := by decide +kernel
theorem dX10_doesHang_27 : decode cX10_doesHang 27 = .ok (.getfield 13, 3) := by decide +kernel
theorem dX10_doesHang_30 : decode cX10_doesHang 30 = .ok (.iload_n 1, 1) := by decide +kernel
theorem dX10_doesHang_31 : decode cX10_doesHang 31 = .ok (.iaload, 1) := by decide +kernel
theorem dX10_doesHang_32 : decode cX10_doesHang 32 = .ok (.iconst 3, 1) := by decide +kernel
theorem dX10_doesHang_33 : decode cX10_doesHang 33 = .ok (.if_icmp .ne 24, 3) := by decide +kernel
theorem dX10_doesHang_36 : decode cX10_doesHang 36 = .ok (.aload_n 0, 1) := by decide +kernel
theorem dX10_doesHang_37 : decode cX10_doesHang 37 = .ok (.getfield 140, 3) := by decide +kernel
theorem dX10_doesHang_40 : decode cX10_doesHang 40 = .ok (.iconst 5, 1) := by decide +kernel
theorem dX10_doesHang_41 : decode cX10_doesHang 41 = .ok (.irem, 1) := by decide +kernel
theorem dX10_doesHang_42 : decode cX10_doesHang 42 = .ok (.aload_n 0, 1) := by decide +kernel
theorem dX10_doesHang_43 : decode cX10_doesHang 43 = .ok (.getfield 28, 3) := by decide +kernel
theorem dX10_doesHang_46 : decode cX10_doesHang 46 = .ok (.iconst 3, 1) := by decide +kernel
theorem dX10_doesHang_47 : decode cX10_doesHang 47 = .ok (.iaload, 1) := by decide +kernel
theorem dX10_doesHang_48 : decode cX10_doesHang 48 = .ok (.iconst 5, 1) := by decide +kernel
theorem dX10_doesHang_49 : decode cX10_doesHang 49 = .ok (.irem, 1) := by decide +kernel
theorem dX10_doesHang_50 : decode cX10_doesHang 50 = .ok (.if_icmp .ne 7, 3) := by decide +kernel
theorem dX10_doesHang_53 : decode cX10_doesHang 53 = .ok (.iconst 1, 1) := by decide +kernel
theorem dX10_doesHang_54 : decode cX10_doesHang 54 = .ok (.goto 4, 3) := by decide +kernel
theorem dX10_doesHang_57 : decode cX10_doesHang 57 = .ok (.iconst 0, 1) := by decide +kernel
theorem dX10_doesHang_58 : decode cX10_doesHang 58 = .ok (.ireturn, 1) := by decide +kernel
theorem dX10_goesHour_0 : decode cX10_goesHour 0 = .ok (.aload_n 0, 1) := by decide +kernel
theorem dX10_goesHour_1 : decode cX10_goesHour 1 = .ok (.invokevirtual 168, 3) := by decide +kernel
theorem dX10_goesHour_4 : decode cX10_goesHour 4 = .ok (.istore_n 1, 1) := by decide +kernel
theorem dX10_goesHour_5 : decode cX10_goesHour 5 = .ok (.aload_n 0, 1) := by decide +kernel
theorem dX10_goesHour_6 : decode cX10_goesHour 6 = .ok (.invokevirtual 155, 3) := by decide +kernel
theorem dX10_goesHour_9 : decode cX10_goesHour 9 = .ok (.istore_n 2, 1) := by decide +kernel
theorem dX10_goesHour_10 : decode cX10_goesHour 10 = .ok (.iconst 0, 1) := by decide +kernel
theorem dX10_goesHour_11 : decode cX10_goesHour 11 = .ok (.istore_n 3, 1) := by decide +kernel
theorem dX10_goesHour_12 : decode cX10_goesHour 12 = .ok (.iconst 0, 1) := by decide +kernel
theorem dX10_goesHour_13 : decode cX10_goesHour 13 = .ok (.istore 4, 2) := by decide +kernel
theorem dX10_goesHour_15 : decode cX10_goesHour 15 = .ok (.iload 4, 2) := by decide +kernel
theorem dX10_goesHour_17 : decode cX10_goesHour 17 = .ok (.aload_n 0, 1) := by decide +kernel
theorem dX10_goesHour_18 : decode cX10_goesHour 18 = .ok (.getfield 72, 3) := by decide +kernel
theorem dX10_goesHour_21 : decode cX10_goesHour 21 = .ok (.if_icmp .ge 34, 3) := by decide +kernel
theorem dX10_goesHour_24 : decode cX10_goesHour 24 = .ok (.aload_n 0, 1) := by decide +kernel
theorem dX10_goesHour_25 : decode cX10_goesHour 25 = .ok (.getfield 46, 3) := by decide +kernel
theorem dX10_goesHour_28 : decode cX10_goesHour 28 = .ok (.iload 4, 2) := by decide +kernel
theorem dX10_goesHour_30 : decode cX10_goesHour 30 = .ok (.iload_n 2, 1) := by decide +kernel
theorem dX10_goesHour_31 : decode cX10_goesHour 31 = .ok (.ifCond .eq 16, 3) := by decide +kernel
theorem dX10_goesHour_34 : decode cX10_goesHour 34 = .ok (.aload_n 0, 1) := by decide +kernel
theorem dX10_goesHour_35 : decode cX10_goesHour 35 = .ok (.iload 4, 2) := by decide +kernel
theorem dX10_goesHour_37 : decode cX10_goesHour 37 = .ok (.iload_n 1, 1) := by decide +kernel
theorem dX10_goesHour_38 : decode cX10_goesHour 38 = .ok (.invokevirtual 171, 3) := by decide +kernel
theorem dX10_goesHour_41 : decode cX10_goesHour 41 = .ok (.bipush 10, 2) := by decide +kernel
theorem dX10_goesHour_43 : decode cX10_goesHour 43 = .ok (.idiv, 1) := by decide +kernel
theorem dX10_goesHour_44 : decode cX10_goesHour 44 = .ok (.goto 4, 3) := by decide +kernel
theorem dX10_goesHour_47 : decode cX10_goesHour 47 = .ok (.iconst 0, 1) := by decide +kernel
theorem dX10_goesHour_48 : decode cX10_goesHour 48 = .ok (.iastore, 1) := by decide +kernel
theorem dX10_goesHour_49 : decode cX10_goesHour 49 = .ok (.iinc 4 1, 3) := by decide +kernel
theorem dX10_goesHour_52 : decode cX10_goesHour 52 = .ok (.goto (-37), 3) := by decide +kernel
theorem dX10_goesHour_55 : decode cX10_goesHour 55 = .ok (.iconst 0, 1) := by decide +kernel
theorem dX10_goesHour_56 : decode cX10_goesHour 56 = .ok (.istore 4, 2) := by decide +kernel
theorem dX10_goesHour_58 : decode cX10_goesHour 58 = .ok (.iload 4, 2) := by decide +kernel
theorem dX10_goesHour_60 : decode cX10_goesHour 60 = .ok (.aload_n 0, 1) := by decide +kernel
theorem dX10_goesHour_61 : decode cX10_goesHour 61 = .ok (.getfield 72, 3) := by decide +kernel
theorem dX10_goesHour_64 : decode cX10_goesHour 64 = .ok (.if_icmp .ge 145, 3) := by decide +kernel
theorem dX10_goesHour_67 : decode cX10_goesHour 67 = .ok (.aload_n 0, 1) := by decide +kernel
theorem dX10_goesHour_68 : decode cX10_goesHour 68 = .ok (.getfield 25, 3) := by decide +kernel
theorem dX10_goesHour_71 : decode cX10_goesHour 71 = .ok (.iload 4, 2) := by decide +kernel
theorem dX10_goesHour_73 : decode cX10_goesHour 73 = .ok (.iaload, 1) := by decide +kernel
theorem dX10_goesHour_74 : decode cX10_goesHour 74 = .ok (.ifCond .eq 6, 3) := by decide +kernel
theorem dX10_goesHour_77 : decode cX10_goesHour 77 = .ok (.goto 126, 3) := by decide +kernel
theorem dX10_goesHour_80 : decode cX10_goesHour 80 = .ok (.aload_n 0, 1) := by decide +kernel
theorem dX10_goesHour_81 : decode cX10_goesHour 81 = .ok (.getfield 22, 3) := by decide +kernel
theorem dX10_goesHour_84 : decode cX10_goesHour 84 = .ok (.iload 4, 2) := by decide +kernel
theorem dX10_goesHour_86 : decode cX10_goesHour 86 = .ok (.sipush 9999, 3) := by decide +kernel
theorem dX10_goesHour_89 : decode cX10_goesHour 89 = .ok (.aload_n 0, 1) := by decide +kernel
theorem dX10_goesHour_90 : decode cX10_goesHour 90 = .ok (.getfield 22, 3) := by decide +kernel
theorem dX10_goesHour_93 : decode cX10_goesHour 93 = .ok (.iload 4, 2) := by decide +kernel
theorem dX10_goesHour_95 : decode cX10_goesHour 95 = .ok (.iaload, 1) := by decide +kernel
theorem dX10_goesHour_96 : decode cX10_goesHour 96 = .ok (.aload_n 0, 1) := by decide +kernel
theorem dX10_goesHour_97 : decode cX10_goesHour 97 = .ok (.getfield 46, 3) := by decide +kernel
theorem dX10_goesHour_100 : decode cX10_goesHour 100 = .ok (.iload 4, 2) := by decide +kernel
theorem dX10_goesHour_102 : decode cX10_goesHour 102 = .ok (.iaload, 1) := by decide +kernel
theorem dX10_goesHour_103 : decode cX10_goesHour 103 = .ok (.iadd, 1) := by decide +kernel
theorem dX10_goesHour_104 : decode cX10_goesHour 104 = .ok (.invokestatic 158, 3) := by decide +kernel
theorem dX10_goesHour_107 : decode cX10_goesHour 107 = .ok (.iastore, 1) := by decide +kernel
theorem dX10_goesHour_108 : decode cX10_goesHour 108 = .ok (.iload_n 2, 1) := by decide +kernel
theorem dX10_goesHour_109 : decode cX10_goesHour 109 = .ok (.ifCond .eq 49, 3) := by decide +kernel
theorem dX10_goesHour_112 : decode cX10_goesHour 112 = .ok (.aload_n 0, 1) := by decide +kernel
theorem dX10_goesHour_113 : decode cX10_goesHour 113 = .ok (.iload 4, 2) := by decide +kernel
theorem dX10_goesHour_115 : decode cX10_goesHour 115 = .ok (.iload_n 1, 1) := by decide +kernel
theorem dX10_goesHour_116 : decode cX10_goesHour 116 = .ok (.invokevirtual 183, 3) := by decide +kernel
theorem dX10_goesHour_119 : decode cX10_goesHour 119 = .ok (.ifCond .eq 39, 3) := by decide +kernel
theorem dX10_goesHour_122 : decode cX10_goesHour 122 = .ok (.aload_n 0, 1) := by decide +kernel
theorem dX10_goesHour_123 : decode cX10_goesHour 123 = .ok (.getfield 25, 3) := by decide +kernel
theorem dX10_goesHour_126 : decode cX10_goesHour 126 = .ok (.iload 4, 2) := by decide +kernel
theorem dX10_goesHour_128 : decode cX10_goesHour 128 = .ok (.aload_n 0, 1) := by decide +kernel
theorem dX10_goesHour_129 : decode cX10_goesHour 129 = .ok (.iload 4, 2) := by decide +kernel
theorem dX10_goesHour_131 : decode cX10_goesHour 131 = .ok (.invokevirtual 162, 3) := by decide +kernel
theorem dX10_goesHour_134 : decode cX10_goesHour 134 = .ok (.ifCond .eq 7, 3) := by decide +kernel
theorem dX10_goesHour_137 : decode cX10_goesHour 137 = .ok (.iconst 2, 1) := by decide +kernel
end
section
theorem dX10_goesHour_138 : decode cX10_goesHour 138 = .ok (.goto 19, 3) := by decide +kernel
theorem dX10_goesHour_141 : decode cX10_goesHour 141 = .ok (.aload_n 0, 1) := by decide +kernel
theorem dX10_goesHour_142 : decode cX10_goesHour 142 = .ok (.getfield 13, 3) := by decide +kernel
theorem dX10_goesHour_145 : decode cX10_goesHour 145 = .ok (.iload 4, 2) := by decide +kernel
theorem dX10_goesHour_147 : decode cX10_goesHour 147 = .ok (.iaload, 1) := by decide +kernel
theorem dX10_goesHour_148 : decode cX10_goesHour 148 = .ok (.iconst 3, 1) := by decide +kernel
theorem dX10_goesHour_149 : decode cX10_goesHour 149 = .ok (.if_icmp .ne 7, 3) := by decide +kernel
theorem dX10_goesHour_152 : decode cX10_goesHour 152 = .ok (.iconst 3, 1) := by decide +kernel
theorem dX10_goesHour_153 : decode cX10_goesHour 153 = .ok (.goto 4, 3) := by decide +kernel
theorem dX10_goesHour_156 : decode cX10_goesHour 156 = .ok (.iconst 1, 1) := by decide +kernel
theorem dX10_goesHour_157 : decode cX10_goesHour 157 = .ok (.iastore, 1) := by decide +kernel
theorem dX10_goesHour_158 : decode cX10_goesHour 158 = .ok (.aload_n 0, 1) := by decide +kernel
theorem dX10_goesHour_159 : decode cX10_goesHour 159 = .ok (.getfield 25, 3) := by decide +kernel
theorem dX10_goesHour_162 : decode cX10_goesHour 162 = .ok (.iload 4, 2) := by decide +kernel
theorem dX10_goesHour_164 : decode cX10_goesHour 164 = .ok (.iaload, 1) := by decide +kernel
theorem dX10_goesHour_165 : decode cX10_goesHour 165 = .ok (.ifCond .ne 20, 3) := by decide +kernel
theorem dX10_goesHour_168 : decode cX10_goesHour 168 = .ok (.aload_n 0, 1) := by decide +kernel
theorem dX10_goesHour_169 : decode cX10_goesHour 169 = .ok (.iload 4, 2) := by decide +kernel
theorem dX10_goesHour_171 : decode cX10_goesHour 171 = .ok (.invokevirtual 186, 3) := by decide +kernel
theorem dX10_goesHour_174 : decode cX10_goesHour 174 = .ok (.ifCond .eq 11, 3) := by decide +kernel
theorem dX10_goesHour_177 : decode cX10_goesHour 177 = .ok (.aload_n 0, 1) := by decide +kernel
theorem dX10_goesHour_178 : decode cX10_goesHour 178 = .ok (.getfield 25, 3) := by decide +kernel
theorem dX10_goesHour_181 : decode cX10_goesHour 181 = .ok (.iload 4, 2) := by decide +kernel
theorem dX10_goesHour_183 : decode cX10_goesHour 183 = .ok (.iconst 3, 1) := by decide +kernel
theorem dX10_goesHour_184 : decode cX10_goesHour 184 = .ok (.iastore, 1) := by decide +kernel
theorem dX10_goesHour_185 : decode cX10_goesHour 185 = .ok (.iload_n 3, 1) := by decide +kernel
theorem dX10_goesHour_186 : decode cX10_goesHour 186 = .ok (.aload_n 0, 1) := by decide +kernel
theorem dX10_goesHour_187 : decode cX10_goesHour 187 = .ok (.getfield 25, 3) := by decide +kernel
theorem dX10_goesHour_190 : decode cX10_goesHour 190 = .ok (.iload 4, 2) := by decide +kernel
theorem dX10_goesHour_192 : decode cX10_goesHour 192 = .ok (.iaload, 1) := by decide +kernel
theorem dX10_goesHour_193 : decode cX10_goesHour 193 = .ok (.ifCond .ne 7, 3) := by decide +kernel
theorem dX10_goesHour_196 : decode cX10_goesHour 196 = .ok (.iconst 0, 1) := by decide +kernel
theorem dX10_goesHour_197 : decode cX10_goesHour 197 = .ok (.goto 4, 3) := by decide +kernel
theorem dX10_goesHour_200 : decode cX10_goesHour 200 = .ok (.iconst 1, 1) := by decide +kernel
theorem dX10_goesHour_201 : decode cX10_goesHour 201 = .ok (.iadd, 1) := by decide +kernel
theorem dX10_goesHour_202 : decode cX10_goesHour 202 = .ok (.istore_n 3, 1) := by decide +kernel
theorem dX10_goesHour_203 : decode cX10_goesHour 203 = .ok (.iinc 4 1, 3) := by decide +kernel
theorem dX10_goesHour_206 : decode cX10_goesHour 206 = .ok (.goto (-148), 3) := by decide +kernel
theorem dX10_goesHour_209 : decode cX10_goesHour 209 = .ok (.aload_n 0, 1) := by decide +kernel
theorem dX10_goesHour_210 : decode cX10_goesHour 210 = .ok (.dup, 1) := by decide +kernel
theorem dX10_goesHour_211 : decode cX10_goesHour 211 = .ok (.getfield 140, 3) := by decide +kernel
theorem dX10_goesHour_214 : decode cX10_goesHour 214 = .ok (.iconst 1, 1) := by decide +kernel
theorem dX10_goesHour_215 : decode cX10_goesHour 215 = .ok (.iadd, 1) := by decide +kernel
theorem dX10_goesHour_216 : decode cX10_goesHour 216 = .ok (.putfield 140, 3) := by decide +kernel
theorem dX10_goesHour_219 : decode cX10_goesHour 219 = .ok (.iload_n 3, 1) := by decide +kernel
theorem dX10_goesHour_220 : decode cX10_goesHour 220 = .ok (.ireturn, 1) := by decide +kernel
theorem dX10_hour_0 : decode cX10_hour 0 = .ok (.aload_n 0, 1) := by decide +kernel
theorem dX10_hour_1 : decode cX10_hour 1 = .ok (.getfield 140, 3) := by decide +kernel
theorem dX10_hour_4 : decode cX10_hour 4 = .ok (.sipush 9999, 3) := by decide +kernel
theorem dX10_hour_7 : decode cX10_hour 7 = .ok (.if_icmp .ne 12, 3) := by decide +kernel
theorem dX10_hour_10 : decode cX10_hour 10 = .ok (.aload_n 0, 1) := by decide +kernel
theorem dX10_hour_11 : decode cX10_hour 11 = .ok (.bipush (-6), 2) := by decide +kernel
theorem dX10_hour_13 : decode cX10_hour 13 = .ok (.invokevirtual 83, 3) := by decide +kernel
theorem dX10_hour_16 : decode cX10_hour 16 = .ok (.goto 7, 3) := by decide +kernel
theorem dX10_hour_19 : decode cX10_hour 19 = .ok (.aload_n 0, 1) := by decide +kernel
theorem dX10_hour_20 : decode cX10_hour 20 = .ok (.invokevirtual 189, 3) := by decide +kernel
theorem dX10_hour_23 : decode cX10_hour 23 = .ok (.ireturn, 1) := by decide +kernel
theorem dX10_putsAnew_0 : decode cX10_putsAnew 0 = .ok (.aload_n 0, 1) := by decide +kernel
theorem dX10_putsAnew_1 : decode cX10_putsAnew 1 = .ok (.getfield 25, 3) := by decide +kernel
theorem dX10_putsAnew_4 : decode cX10_putsAnew 4 = .ok (.iload_n 1, 1) := by decide +kernel
theorem dX10_putsAnew_5 : decode cX10_putsAnew 5 = .ok (.iconst 0, 1) := by decide +kernel
theorem dX10_putsAnew_6 : decode cX10_putsAnew 6 = .ok (.iastore, 1) := by decide +kernel
theorem dX10_putsAnew_7 : decode cX10_putsAnew 7 = .ok (.aload_n 0, 1) := by decide +kernel
theorem dX10_putsAnew_8 : decode cX10_putsAnew 8 = .ok (.getfield 22, 3) := by decide +kernel
theorem dX10_putsAnew_11 : decode cX10_putsAnew 11 = .ok (.iload_n 1, 1) := by decide +kernel
theorem dX10_putsAnew_12 : decode cX10_putsAnew 12 = .ok (.iconst 0, 1) := by decide +kernel
theorem dX10_putsAnew_13 : decode cX10_putsAnew 13 = .ok (.iastore, 1) := by decide +kernel
theorem dX10_putsAnew_14 : decode cX10_putsAnew 14 = .ok (.return_, 1) := by decide +kernel
theorem dX10_swap_0 : decode cX10_swap 0 = .ok (.aload_n 0, 1) := by decide +kernel
theorem dX10_swap_1 : decode cX10_swap 1 = .ok (.iload_n 1, 1) := by decide +kernel
theorem dX10_swap_2 : decode cX10_swap 2 = .ok (.invokevirtual 112, 3) := by decide +kernel
theorem dX10_swap_5 : decode cX10_swap 5 = .ok (.ifCond .ne 9, 3) := by decide +kernel
theorem dX10_swap_8 : decode cX10_swap 8 = .ok (.aload_n 0, 1) := by decide +kernel
theorem dX10_swap_9 : decode cX10_swap 9 = .ok (.iconst (-1), 1) := by decide +kernel
theorem dX10_swap_10 : decode cX10_swap 10 = .ok (.invokevirtual 83, 3) := by decide +kernel
theorem dX10_swap_13 : decode cX10_swap 13 = .ok (.ireturn, 1) := by decide +kernel
theorem dX10_swap_14 : decode cX10_swap 14 = .ok (.aload_n 0, 1) := by decide +kernel
theorem dX10_swap_15 : decode cX10_swap 15 = .ok (.getfield 28, 3) := by decide +kernel
theorem dX10_swap_18 : decode cX10_swap 18 = .ok (.iconst 1, 1) := by decide +kernel
theorem dX10_swap_19 : decode cX10_swap 19 = .ok (.iaload, 1) := by decide +kernel
theorem dX10_swap_20 : decode cX10_swap 20 = .ok (.ifCond .ne 10, 3) := by decide +kernel
theorem dX10_swap_23 : decode cX10_swap 23 = .ok (.aload_n 0, 1) := by decide +kernel
theorem dX10_swap_24 : decode cX10_swap 24 = .ok (.bipush (-3), 2) := by decide +kernel
theorem dX10_swap_26 : decode cX10_swap 26 = .ok (.invokevirtual 83, 3) := by decide +kernel
theorem dX10_swap_29 : decode cX10_swap 29 = .ok (.ireturn, 1) := by decide +kernel
theorem dX10_swap_30 : decode cX10_swap 30 = .ok (.aload_n 0, 1) := by decide +kernel
theorem dX10_swap_31 : decode cX10_swap 31 = .ok (.getfield 28, 3) := by decide +kernel
theorem dX10_swap_34 : decode cX10_swap 34 = .ok (.iconst 1, 1) := by decide +kernel
theorem dX10_swap_35 : decode cX10_swap 35 = .ok (.dup2, 1) := by decide +kernel
theorem dX10_swap_36 : decode cX10_swap 36 = .ok (.iaload, 1) := by decide +kernel
theorem dX10_swap_37 : decode cX10_swap 37 = .ok (.iconst 1, 1) := by decide +kernel
theorem dX10_swap_38 : decode cX10_swap 38 = .ok (.isub, 1) := by decide +kernel
theorem dX10_swap_39 : decode cX10_swap 39 = .ok (.iastore, 1) := by decide +kernel
theorem dX10_swap_40 : decode cX10_swap 40 = .ok (.aload_n 0, 1) := by decide +kernel
theorem dX10_swap_41 : decode cX10_swap 41 = .ok (.iload_n 1, 1) := by decide +kernel
theorem dX10_swap_42 : decode cX10_swap 42 = .ok (.invokevirtual 192, 3) := by decide +kernel
theorem dX10_swap_45 : decode cX10_swap 45 = .ok (.aload_n 0, 1) := by decide +kernel
theorem dX10_swap_46 : decode cX10_swap 46 = .ok (.invokevirtual 155, 3) := by decide +kernel
theorem dX10_swap_49 : decode cX10_swap 49 = .ok (.ifCond .eq 7, 3) := by decide +kernel
theorem dX10_swap_52 : decode cX10_swap 52 = .ok (.iconst 1, 1) := by decide +kernel
theorem dX10_swap_53 : decode cX10_swap 53 = .ok (.goto 4, 3) := by decide +kernel
theorem dX10_swap_56 : decode cX10_swap 56 = .ok (.iconst 0, 1) := by decide +kernel
theorem dX10_swap_57 : decode cX10_swap 57 = .ok (.ireturn, 1) := by decide +kernel
theorem dX10_areLamps_0 : decode cX10_areLamps 0 = .ok (.aload_n 0, 1) := by decide +kernel
theorem dX10_areLamps_1 : decode cX10_areLamps 1 = .ok (.iload_n 1, 1) := by decide +kernel
theorem dX10_areLamps_2 : decode cX10_areLamps 2 = .ok (.invokevirtual 112, 3) := by decide +kernel
theorem dX10_areLamps_5 : decode cX10_areLamps 5 = .ok (.ifCond .eq 20, 3) := by decide +kernel
theorem dX10_areLamps_8 : decode cX10_areLamps 8 = .ok (.aload_n 0, 1) := by decide +kernel
theorem dX10_areLamps_9 : decode cX10_areLamps 9 = .ok (.iload_n 2, 1) := by decide +kernel
theorem dX10_areLamps_10 : decode cX10_areLamps 10 = .ok (.invokevirtual 112, 3) := by decide +kernel
theorem dX10_areLamps_13 : decode cX10_areLamps 13 = .ok (.ifCond .eq 12, 3) := by decide +kernel
theorem dX10_areLamps_16 : decode cX10_areLamps 16 = .ok (.iload_n 1, 1) := by decide +kernel
theorem dX10_areLamps_17 : decode cX10_areLamps 17 = .ok (.iload_n 2, 1) := by decide +kernel
theorem dX10_areLamps_18 : decode cX10_areLamps 18 = .ok (.if_icmp .gt 7, 3) := by decide +kernel
theorem dX10_areLamps_21 : decode cX10_areLamps 21 = .ok (.iconst 1, 1) := by decide +kernel
theorem dX10_areLamps_22 : decode cX10_areLamps 22 = .ok (.goto 4, 3) := by decide +kernel
theorem dX10_areLamps_25 : decode cX10_areLamps 25 = .ok (.iconst 0, 1) := by decide +kernel
theorem dX10_areLamps_26 : decode cX10_areLamps 26 = .ok (.ireturn, 1) := by decide +kernel
theorem dX10_meter_0 : decode cX10_meter 0 = .ok (.aload_n 0, 1) := by decide +kernel
theorem dX10_meter_1 : decode cX10_meter 1 = .ok (.iload_n 1, 1) := by decide +kernel
theorem dX10_meter_2 : decode cX10_meter 2 = .ok (.iload_n 2, 1) := by decide +kernel
theorem dX10_meter_3 : decode cX10_meter 3 = .ok (.invokevirtual 196, 3) := by decide +kernel
theorem dX10_meter_6 : decode cX10_meter 6 = .ok (.ifCond .ne 11, 3) := by decide +kernel
theorem dX10_meter_9 : decode cX10_meter 9 = .ok (.aload_n 0, 1) := by decide +kernel
theorem dX10_meter_10 : decode cX10_meter 10 = .ok (.iconst (-1), 1) := by decide +kernel
theorem dX10_meter_11 : decode cX10_meter 11 = .ok (.invokevirtual 83, 3) := by decide +kernel
theorem dX10_meter_14 : decode cX10_meter 14 = .ok (.goto 17, 3) := by decide +kernel
theorem dX10_meter_17 : decode cX10_meter 17 = .ok (.aload_n 0, 1) := by decide +kernel
theorem dX10_meter_18 : decode cX10_meter 18 = .ok (.iload_n 1, 1) := by decide +kernel
theorem dX10_meter_19 : decode cX10_meter 19 = .ok (.iload_n 2, 1) := by decide +kernel
theorem dX10_meter_20 : decode cX10_meter 20 = .ok (.invokevirtual 149, 3) := by decide +kernel
theorem dX10_meter_23 : decode cX10_meter 23 = .ok (.ifCond .eq 7, 3) := by decide +kernel
theorem dX10_meter_26 : decode cX10_meter 26 = .ok (.iconst 1, 1) := by decide +kernel
theorem dX10_meter_27 : decode cX10_meter 27 = .ok (.goto 4, 3) := by decide +kernel
theorem dX10_meter_30 : decode cX10_meter 30 = .ok (.iconst 0, 1) := by decide +kernel
theorem dX10_meter_31 : decode cX10_meter 31 = .ok (.ireturn, 1) := by decide +kernel
theorem dX10_finder_0 : decode cX10_finder 0 = .ok (.aload_n 0, 1) := by decide +kernel
theorem dX10_finder_1 : decode cX10_finder 1 = .ok (.iload_n 1, 1) := by decide +kernel
theorem dX10_finder_2 : decode cX10_finder 2 = .ok (.invokevirtual 112, 3) := by decide +kernel
theorem dX10_finder_5 : decode cX10_finder 5 = .ok (.ifCond .ne 11, 3) := by decide +kernel
theorem dX10_finder_8 : decode cX10_finder 8 = .ok (.aload_n 0, 1) := by decide +kernel
theorem dX10_finder_9 : decode cX10_finder 9 = .ok (.iconst (-1), 1) := by decide +kernel
theorem dX10_finder_10 : decode cX10_finder 10 = .ok (.invokevirtual 83, 3) := by decide +kernel
theorem dX10_finder_13 : decode cX10_finder 13 = .ok (.goto 19, 3) := by decide +kernel
theorem dX10_finder_16 : decode cX10_finder 16 = .ok (.aload_n 0, 1) := by decide +kernel
theorem dX10_finder_17 : decode cX10_finder 17 = .ok (.iconst 0, 1) := by decide +kernel
theorem dX10_finder_18 : decode cX10_finder 18 = .ok (.iload_n 1, 1) := by decide +kernel
theorem dX10_finder_19 : decode cX10_finder 19 = .ok (.iconst 1, 1) := by decide +kernel
theorem dX10_finder_20 : decode cX10_finder 20 = .ok (.isub, 1) := by decide +kernel
theorem dX10_finder_21 : decode cX10_finder 21 = .ok (.invokevirtual 149, 3) := by decide +kernel
theorem dX10_finder_24 : decode cX10_finder 24 = .ok (.ifCond .eq 7, 3) := by decide +kernel
theorem dX10_finder_27 : decode cX10_finder 27 = .ok (.iconst 1, 1) := by decide +kernel
theorem dX10_finder_28 : decode cX10_finder 28 = .ok (.goto 4, 3) := by decide +kernel
theorem dX10_finder_31 : decode cX10_finder 31 = .ok (.iconst 0, 1) := by decide +kernel
theorem dX10_finder_32 : decode cX10_finder 32 = .ok (.ireturn, 1) := by decide +kernel
theorem dX10_touches_0 : decode cX10_touches 0 = .ok (.aload_n 0, 1) := by decide +kernel
theorem dX10_touches_1 : decode cX10_touches 1 = .ok (.getfield 25, 3) := by decide +kernel
theorem dX10_touches_4 : decode cX10_touches 4 = .ok (.iload_n 1, 1) := by decide +kernel
theorem dX10_touches_5 : decode cX10_touches 5 = .ok (.iaload, 1) := by decide +kernel
theorem dX10_touches_6 : decode cX10_touches 6 = .ok (.iconst 3, 1) := by decide +kernel
theorem dX10_touches_7 : decode cX10_touches 7 = .ok (.if_icmp .ne 13, 3) := by decide +kernel
theorem dX10_touches_10 : decode cX10_touches 10 = .ok (.aload_n 0, 1) := by decide +kernel
theorem dX10_touches_11 : decode cX10_touches 11 = .ok (.getfield 25, 3) := by decide +kernel
theorem dX10_touches_14 : decode cX10_touches 14 = .ok (.iload_n 1, 1) := by decide +kernel
theorem dX10_touches_15 : decode cX10_touches 15 = .ok (.iconst 0, 1) := by decide +kernel
theorem dX10_touches_16 : decode cX10_touches 16 = .ok (.iastore, 1) := by decide +kernel
theorem dX10_touches_17 : decode cX10_touches 17 = .ok (.goto 37, 3) := by decide +kernel
theorem dX10_touches_20 : decode cX10_touches 20 = .ok (.aload_n 0, 1) := by decide +kernel
theorem dX10_touches_21 : decode cX10_touches 21 = .ok (.getfield 25, 3) := by decide +kernel
theorem dX10_touches_24 : decode cX10_touches 24 = .ok (.iload_n 1, 1) := by decide +kernel
theorem dX10_touches_25 : decode cX10_touches 25 = .ok (.iaload, 1) := by decide +kernel
theorem dX10_touches_26 : decode cX10_touches 26 = .ok (.ifCond .ne 28, 3) := by decide +kernel
theorem dX10_touches_29 : decode cX10_touches 29 = .ok (.aload_n 0, 1) := by decide +kernel
theorem dX10_touches_30 : decode cX10_touches 30 = .ok (.iload_n 1, 1) := by decide +kernel
theorem dX10_touches_31 : decode cX10_touches 31 = .ok (.invokevirtual 165, 3) := by decide +kernel
theorem dX10_touches_34 : decode cX10_touches 34 = .ok (.ifCond .eq 20, 3) := by decide +kernel
theorem dX10_touches_37 : decode cX10_touches 37 = .ok (.aload_n 0, 1) := by decide +kernel
theorem dX10_touches_38 : decode cX10_touches 38 = .ok (.getfield 28, 3) := by decide +kernel
theorem dX10_touches_41 : decode cX10_touches 41 = .ok (.iconst 3, 1) := by decide +kernel
theorem dX10_touches_42 : decode cX10_touches 42 = .ok (.iaload, 1) := by decide +kernel
theorem dX10_touches_43 : decode cX10_touches 43 = .ok (.iconst 3, 1) := by decide +kernel
theorem dX10_touches_44 : decode cX10_touches 44 = .ok (.if_icmp .gt 10, 3) := by decide +kernel
theorem dX10_touches_47 : decode cX10_touches 47 = .ok (.aload_n 0, 1) := by decide +kernel
theorem dX10_touches_48 : decode cX10_touches 48 = .ok (.getfield 25, 3) := by decide +kernel
theorem dX10_touches_51 : decode cX10_touches 51 = .ok (.iload_n 1, 1) := by decide +kernel
theorem dX10_touches_52 : decode cX10_touches 52 = .ok (.iconst 3, 1) := by decide +kernel
theorem dX10_touches_53 : decode cX10_touches 53 = .ok (.iastore, 1) := by decide +kernel
theorem dX10_touches_54 : decode cX10_touches 54 = .ok (.return_, 1) := by decide +kernel
theorem dX10_touch_0 : decode cX10_touch 0 = .ok (.aload_n 0, 1) := by decide +kernel
theorem dX10_touch_1 : decode cX10_touch 1 = .ok (.iload_n 1, 1) := by decide +kernel
theorem dX10_touch_2 : decode cX10_touch 2 = .ok (.invokevirtual 112, 3) := by decide +kernel
theorem dX10_touch_5 : decode cX10_touch 5 = .ok (.ifCond .ne 9, 3) := by decide +kernel
theorem dX10_touch_8 : decode cX10_touch 8 = .ok (.aload_n 0, 1) := by decide +kernel
theorem dX10_touch_9 : decode cX10_touch 9 = .ok (.iconst (-1), 1) := by decide +kernel
theorem dX10_touch_10 : decode cX10_touch 10 = .ok (.invokevirtual 83, 3) := by decide +kernel
theorem dX10_touch_13 : decode cX10_touch 13 = .ok (.ireturn, 1) := by decide +kernel
theorem dX10_touch_14 : decode cX10_touch 14 = .ok (.aload_n 0, 1) := by decide +kernel
theorem dX10_touch_15 : decode cX10_touch 15 = .ok (.iload_n 1, 1) := by decide +kernel
theorem dX10_touch_16 : decode cX10_touch 16 = .ok (.invokevirtual 199, 3) := by decide +kernel
theorem dX10_touch_19 : decode cX10_touch 19 = .ok (.aload_n 0, 1) := by decide +kernel
theorem dX10_touch_20 : decode cX10_touch 20 = .ok (.getfield 25, 3) := by decide +kernel
theorem dX10_touch_23 : decode cX10_touch 23 = .ok (.iload_n 1, 1) := by decide +kernel
theorem dX10_touch_24 : decode cX10_touch 24 = .ok (.iaload, 1) := by decide +kernel
theorem dX10_touch_25 : decode cX10_touch 25 = .ok (.ireturn, 1) := by decide +kernel
theorem dX10_weightOf_0 : decode cX10_weightOf 0 = .ok (.iconst 0, 1) := by decide +kernel
theorem dX10_weightOf_1 : decode cX10_weightOf 1 = .ok (.istore_n 3, 1) := by decide +kernel
theorem dX10_weightOf_2 : decode cX10_weightOf 2 = .ok (.iload_n 1, 1) := by decide +kernel
theorem dX10_weightOf_3 : decode cX10_weightOf 3 = .ok (.istore 4, 2) := by decide +kernel
theorem dX10_weightOf_5 : decode cX10_weightOf 5 = .ok (.iload 4, 2) := by decide +kernel
theorem dX10_weightOf_7 : decode cX10_weightOf 7 = .ok (.iload_n 2, 1) := by decide +kernel
theorem dX10_weightOf_8 : decode cX10_weightOf 8 = .ok (.if_icmp .gt 18, 3) := by decide +kernel
theorem dX10_weightOf_11 : decode cX10_weightOf 11 = .ok (.iload_n 3, 1) := by decide +kernel
theorem dX10_weightOf_12 : decode cX10_weightOf 12 = .ok (.aload_n 0, 1) := by decide +kernel
theorem dX10_weightOf_13 : decode cX10_weightOf 13 = .ok (.iload 4, 2) := by decide +kernel
theorem dX10_weightOf_15 : decode cX10_weightOf 15 = .ok (.invokevirtual 174, 3) := by decide +kernel
theorem dX10_weightOf_18 : decode cX10_weightOf 18 = .ok (.iadd, 1) := by decide +kernel
theorem dX10_weightOf_19 : decode cX10_weightOf 19 = .ok (.istore_n 3, 1) := by decide +kernel
theorem dX10_weightOf_20 : decode cX10_weightOf 20 = .ok (.iinc 4 1, 3) := by decide +kernel
theorem dX10_weightOf_23 : decode cX10_weightOf 23 = .ok (.goto (-18), 3) := by decide +kernel
theorem dX10_weightOf_26 : decode cX10_weightOf 26 = .ok (.iload_n 3, 1) := by decide +kernel
theorem dX10_weightOf_27 : decode cX10_weightOf 27 = .ok (.ireturn, 1) := by decide +kernel
theorem dX10_findStretch_0 : decode cX10_findStretch 0 = .ok (.bipush 12, 2) := by decide +kernel
theorem dX10_findStretch_2 : decode cX10_findStretch 2 = .ok (.iload_n 1, 1) := by decide +kernel
theorem dX10_findStretch_3 : decode cX10_findStretch 3 = .ok (.imul, 1) := by decide +kernel
theorem dX10_findStretch_4 : decode cX10_findStretch 4 = .ok (.iload_n 2, 1) := by decide +kernel
theorem dX10_findStretch_5 : decode cX10_findStretch 5 = .ok (.iadd, 1) := by decide +kernel
theorem dX10_findStretch_6 : decode cX10_findStretch 6 = .ok (.istore_n 3, 1) := by decide +kernel
theorem dX10_findStretch_7 : decode cX10_findStretch 7 = .ok (.aload_n 0, 1) := by decide +kernel
theorem dX10_findStretch_8 : decode cX10_findStretch 8 = .ok (.iload_n 1, 1) := by decide +kernel
theorem dX10_findStretch_9 : decode cX10_findStretch 9 = .ok (.iload_n 2, 1) := by decide +kernel
theorem dX10_findStretch_10 : decode cX10_findStretch 10 = .ok (.invokevirtual 202, 3) := by decide +kernel
theorem dX10_findStretch_13 : decode cX10_findStretch 13 = .ok (.istore 4, 2) := by decide +kernel
theorem dX10_findStretch_15 : decode cX10_findStretch 15 = .ok (.iload_n 1, 1) := by decide +kernel
theorem dX10_findStretch_16 : decode cX10_findStretch 16 = .ok (.iconst 1, 1) := by decide +kernel
theorem dX10_findStretch_17 : decode cX10_findStretch 17 = .ok (.iadd, 1) := by decide +kernel
theorem dX10_findStretch_18 : decode cX10_findStretch 18 = .ok (.istore 5, 2) := by decide +kernel
theorem dX10_findStretch_20 : decode cX10_findStretch 20 = .ok (.iload 5, 2) := by decide +kernel
theorem dX10_findStretch_22 : decode cX10_findStretch 22 = .ok (.iload_n 2, 1) := by decide +kernel
theorem dX10_findStretch_23 : decode cX10_findStretch 23 = .ok (.if_icmp .gt 173, 3) := by decide +kernel
theorem dX10_findStretch_26 : decode cX10_findStretch 26 = .ok (.aload_n 0, 1) := by decide +kernel
theorem dX10_findStretch_27 : decode cX10_findStretch 27 = .ok (.getfield 19, 3) := by decide +kernel
theorem dX10_findStretch_30 : decode cX10_findStretch 30 = .ok (.iload 5, 2) := by decide +kernel
theorem dX10_findStretch_32 : decode cX10_findStretch 32 = .ok (.iaload, 1) := by decide +kernel
theorem dX10_findStretch_33 : decode cX10_findStretch 33 = .ok (.iload 4, 2) := by decide +kernel
theorem dX10_findStretch_35 : decode cX10_findStretch 35 = .ok (.imul, 1) := by decide +kernel
theorem dX10_findStretch_36 : decode cX10_findStretch 36 = .ok (.aload_n 0, 1) := by decide +kernel
theorem dX10_findStretch_37 : decode cX10_findStretch 37 = .ok (.getfield 49, 3) := by decide +kernel
theorem dX10_findStretch_40 : decode cX10_findStretch 40 = .ok (.bipush 12, 2) := by decide +kernel
theorem dX10_findStretch_42 : decode cX10_findStretch 42 = .ok (.iload_n 1, 1) := by decide +kernel
theorem dX10_findStretch_43 : decode cX10_findStretch 43 = .ok (.imul, 1) := by decide +kernel
theorem dX10_findStretch_44 : decode cX10_findStretch 44 = .ok (.iload 5, 2) := by decide +kernel
theorem dX10_findStretch_46 : decode cX10_findStretch 46 = .ok (.iadd, 1) := by decide +kernel
theorem dX10_findStretch_47 : decode cX10_findStretch 47 = .ok (.iconst 1, 1) := by decide +kernel
theorem dX10_findStretch_48 : decode cX10_findStretch 48 = .ok (.isub, 1) := by decide +kernel
theorem dX10_findStretch_49 : decode cX10_findStretch 49 = .ok (.iaload, 1) := by decide +kernel
theorem dX10_findStretch_50 : decode cX10_findStretch 50 = .ok (.iadd, 1) := by decide +kernel
theorem dX10_findStretch_51 : decode cX10_findStretch 51 = .ok (.aload_n 0, 1) := by decide +kernel
theorem dX10_findStretch_52 : decode cX10_findStretch 52 = .ok (.getfield 49, 3) := by decide +kernel
theorem dX10_findStretch_55 : decode cX10_findStretch 55 = .ok (.bipush 12, 2) := by decide +kernel
theorem dX10_findStretch_57 : decode cX10_findStretch 57 = .ok (.iload 5, 2) := by decide +kernel
theorem dX10_findStretch_59 : decode cX10_findStretch 59 = .ok (.imul, 1) := by decide +kernel
theorem dX10_findStretch_60 : decode cX10_findStretch 60 = .ok (.iload_n 2, 1) := by decide +kernel
theorem dX10_findStretch_61 : decode cX10_findStretch 61 = .ok (.iadd, 1) := by decide +kernel
theorem dX10_findStretch_62 : decode cX10_findStretch 62 = .ok (.iaload, 1) := by decide +kernel
theorem dX10_findStretch_63 : decode cX10_findStretch 63 = .ok (.iadd, 1) := by decide +kernel
theorem dX10_findStretch_64 : decode cX10_findStretch 64 = .ok (.istore 6, 2) := by decide +kernel
theorem dX10_findStretch_66 : decode cX10_findStretch 66 = .ok (.aload_n 0, 1) := by decide +kernel
theorem dX10_findStretch_67 : decode cX10_findStretch 67 = .ok (.getfield 52, 3) := by decide +kernel
theorem dX10_findStretch_70 : decode cX10_findStretch 70 = .ok (.bipush 12, 2) := by decide +kernel
theorem dX10_findStretch_72 : decode cX10_findStretch 72 = .ok (.iload_n 1, 1) := by decide +kernel
theorem dX10_findStretch_73 : decode cX10_findStretch 73 = .ok (.imul, 1) := by decide +kernel
theorem dX10_findStretch_74 : decode cX10_findStretch 74 = .ok (.iload 5, 2) := by decide +kernel
theorem dX10_findStretch_76 : decode cX10_findStretch 76 = .ok (.iadd, 1) := by decide +kernel
theorem dX10_findStretch_77 : decode cX10_findStretch 77 = .ok (.iconst 1, 1) := by decide +kernel
theorem dX10_findStretch_78 : decode cX10_findStretch 78 = .ok (.isub, 1) := by decide +kernel
theorem dX10_findStretch_79 : decode cX10_findStretch 79 = .ok (.iaload, 1) := by decide +kernel
theorem dX10_findStretch_80 : decode cX10_findStretch 80 = .ok (.istore 7, 2) := by decide +kernel
theorem dX10_findStretch_82 : decode cX10_findStretch 82 = .ok (.aload_n 0, 1) := by decide +kernel
theorem dX10_findStretch_83 : decode cX10_findStretch 83 = .ok (.getfield 52, 3) := by decide +kernel
theorem dX10_findStretch_86 : decode cX10_findStretch 86 = .ok (.bipush 12, 2) := by decide +kernel
theorem dX10_findStretch_88 : decode cX10_findStretch 88 = .ok (.iload 5, 2) := by decide +kernel
theorem dX10_findStretch_90 : decode cX10_findStretch 90 = .ok (.imul, 1) := by decide +kernel
theorem dX10_findStretch_91 : decode cX10_findStretch 91 = .ok (.iload_n 2, 1) := by decide +kernel
theorem dX10_findStretch_92 : decode cX10_findStretch 92 = .ok (.iadd, 1) := by decide +kernel
theorem dX10_findStretch_93 : decode cX10_findStretch 93 = .ok (.iaload, 1) := by decide +kernel
theorem dX10_findStretch_94 : decode cX10_findStretch 94 = .ok (.istore 8, 2) := by decide +kernel
theorem dX10_findStretch_96 : decode cX10_findStretch 96 = .ok (.aload_n 0, 1) := by decide +kernel
theorem dX10_findStretch_97 : decode cX10_findStretch 97 = .ok (.getfield 19, 3) := by decide +kernel
theorem dX10_findStretch_100 : decode cX10_findStretch 100 = .ok (.iload 5, 2) := by decide +kernel
theorem dX10_findStretch_102 : decode cX10_findStretch 102 = .ok (.iaload, 1) := by decide +kernel
theorem dX10_findStretch_103 : decode cX10_findStretch 103 = .ok (.iload 7, 2) := by decide +kernel
theorem dX10_findStretch_105 : decode cX10_findStretch 105 = .ok (.iload 8, 2) := by decide +kernel
theorem dX10_findStretch_107 : decode cX10_findStretch 107 = .ok (.if_icmp .le 8, 3) := by decide +kernel
theorem dX10_findStretch_110 : decode cX10_findStretch 110 = .ok (.iload 7, 2) := by decide +kernel
theorem dX10_findStretch_112 : decode cX10_findStretch 112 = .ok (.goto 5, 3) := by decide +kernel
theorem dX10_findStretch_115 : decode cX10_findStretch 115 = .ok (.iload 8, 2) := by decide +kernel
theorem dX10_findStretch_117 : decode cX10_findStretch 117 = .ok (.iadd, 1) := by decide +kernel
theorem dX10_findStretch_118 : decode cX10_findStretch 118 = .ok (.istore 9, 2) := by decide +kernel
theorem dX10_findStretch_120 : decode cX10_findStretch 120 = .ok (.iload 5, 2) := by decide +kernel
theorem dX10_findStretch_122 : decode cX10_findStretch 122 = .ok (.iload_n 1, 1) := by decide +kernel
theorem dX10_findStretch_123 : decode cX10_findStretch 123 = .ok (.iconst 1, 1) := by decide +kernel
theorem dX10_findStretch_124 : decode cX10_findStretch 124 = .ok (.iadd, 1) := by decide +kernel
theorem dX10_findStretch_125 : decode cX10_findStretch 125 = .ok (.if_icmp .eq 14, 3) := by decide +kernel
theorem dX10_findStretch_128 : decode cX10_findStretch 128 = .ok (.iload 6, 2) := by decide +kernel
theorem dX10_findStretch_130 : decode cX10_findStretch 130 = .ok (.aload_n 0, 1) := by decide +kernel
theorem dX10_findStretch_131 : decode cX10_findStretch 131 = .ok (.getfield 49, 3) := by decide +kernel
theorem dX10_findStretch_134 : decode cX10_findStretch 134 = .ok (.iload_n 3, 1) := by decide +kernel
theorem dX10_findStretch_135 : decode cX10_findStretch 135 = .ok (.iaload, 1) := by decide +kernel
theorem dX10_findStretch_136 : decode cX10_findStretch 136 = .ok (.if_icmp .ge 19, 3) := by decide +kernel
theorem dX10_findStretch_139 : decode cX10_findStretch 139 = .ok (.aload_n 0, 1) := by decide +kernel
theorem dX10_findStretch_140 : decode cX10_findStretch 140 = .ok (.getfield 49, 3) := by decide +kernel
theorem dX10_findStretch_143 : decode cX10_findStretch 143 = .ok (.iload_n 3, 1) := by decide +kernel
theorem dX10_findStretch_144 : decode cX10_findStretch 144 = .ok (.iload 6, 2) := by decide +kernel
theorem dX10_findStretch_146 : decode cX10_findStretch 146 = .ok (.iastore, 1) := by decide +kernel
theorem dX10_findStretch_147 : decode cX10_findStretch 147 = .ok (.aload_n 0, 1) := by decide +kernel
theorem dX10_findStretch_148 : decode cX10_findStretch 148 = .ok (.getfield 55, 3) := by decide +kernel
theorem dX10_findStretch_151 : decode cX10_findStretch 151 = .ok (.iload_n 3, 1) := by decide +kernel
theorem dX10_findStretch_152 : decode cX10_findStretch 152 = .ok (.iload 5, 2) := by decide +kernel
theorem dX10_findStretch_154 : decode cX10_findStretch 154 = .ok (.iastore, 1) := by decide +kernel
theorem dX10_findStretch_155 : decode cX10_findStretch 155 = .ok (.iload 5, 2) := by decide +kernel
theorem dX10_findStretch_157 : decode cX10_findStretch 157 = .ok (.iload_n 1, 1) := by decide +kernel
theorem dX10_findStretch_158 : decode cX10_findStretch 158 = .ok (.iconst 1, 1) := by decide +kernel
theorem dX10_findStretch_159 : decode cX10_findStretch 159 = .ok (.iadd, 1) := by decide +kernel
theorem dX10_findStretch_160 : decode cX10_findStretch 160 = .ok (.if_icmp .eq 14, 3) := by decide +kernel
theorem dX10_findStretch_163 : decode cX10_findStretch 163 = .ok (.iload 9, 2) := by decide +kernel
theorem dX10_findStretch_165 : decode cX10_findStretch 165 = .ok (.aload_n 0, 1) := by decide +kernel
theorem dX10_findStretch_166 : decode cX10_findStretch 166 = .ok (.getfield 52, 3) := by decide +kernel
theorem dX10_findStretch_169 : decode cX10_findStretch 169 = .ok (.iload_n 3, 1) := by decide +kernel
theorem dX10_findStretch_170 : decode cX10_findStretch 170 = .ok (.iaload, 1) := by decide +kernel
theorem dX10_findStretch_171 : decode cX10_findStretch 171 = .ok (.if_icmp .ge 19, 3) := by decide +kernel
theorem dX10_findStretch_174 : decode cX10_findStretch 174 = .ok (.aload_n 0, 1) := by decide +kernel
theorem dX10_findStretch_175 : decode cX10_findStretch 175 = .ok (.getfield 52, 3) := by decide +kernel
theorem dX10_findStretch_178 : decode cX10_findStretch 178 = .ok (.iload_n 3, 1) := by decide +kernel
theorem dX10_findStretch_179 : decode cX10_findStretch 179 = .ok (.iload 9, 2) := by decide +kernel
theorem dX10_findStretch_181 : decode cX10_findStretch 181 = .ok (.iastore, 1) := by decide +kernel
theorem dX10_findStretch_182 : decode cX10_findStretch 182 = .ok (.aload_n 0, 1) := by decide +kernel
theorem dX10_findStretch_183 : decode cX10_findStretch 183 = .ok (.getfield 58, 3) := by decide +kernel
theorem dX10_findStretch_186 : decode cX10_findStretch 186 = .ok (.iload_n 3, 1) := by decide +kernel
theorem dX10_findStretch_187 : decode cX10_findStretch 187 = .ok (.iload 5, 2) := by decide +kernel
theorem dX10_findStretch_189 : decode cX10_findStretch 189 = .ok (.iastore, 1) := by decide +kernel
theorem dX10_findStretch_190 : decode cX10_findStretch 190 = .ok (.iinc 5 1, 3) := by decide +kernel
theorem dX10_findStretch_193 : decode cX10_findStretch 193 = .ok (.goto (-173), 3) := by decide +kernel
theorem dX10_findStretch_196 : decode cX10_findStretch 196 = .ok (.return_, 1) := by decide +kernel
theorem dX10_findStretches_0 : decode cX10_findStretches 0 = .ok (.iconst 0, 1) := by decide +kernel
theorem dX10_findStretches_1 : decode cX10_findStretches 1 = .ok (.istore_n 1, 1) := by decide +kernel
theorem dX10_findStretches_2 : decode cX10_findStretches 2 = .ok (.iload_n 1, 1) := by decide +kernel
theorem dX10_findStretches_3 : decode cX10_findStretches 3 = .ok (.aload_n 0, 1) := by decide +kernel
theorem dX10_findStretches_4 : decode cX10_findStretches 4 = .ok (.getfield 72, 3) := by decide +kernel
theorem dX10_findStretches_7 : decode cX10_findStretches 7 = .ok (.if_icmp .ge 51, 3) := by decide +kernel
theorem dX10_findStretches_10 : decode cX10_findStretches 10 = .ok (.aload_n 0, 1) := by decide +kernel
theorem dX10_findStretches_11 : decode cX10_findStretches 11 = .ok (.getfield 49, 3) := by decide +kernel
theorem dX10_findStretches_14 : decode cX10_findStretches 14 = .ok (.bipush 13, 2) := by decide +kernel
theorem dX10_findStretches_16 : decode cX10_findStretches 16 = .ok (.iload_n 1, 1) := by decide +kernel
theorem dX10_findStretches_17 : decode cX10_findStretches 17 = .ok (.imul, 1) := by decide +kernel
theorem dX10_findStretches_18 : decode cX10_findStretches 18 = .ok (.iconst 0, 1) := by decide +kernel
theorem dX10_findStretches_19 : decode cX10_findStretches 19 = .ok (.iastore, 1) := by decide +kernel
theorem dX10_findStretches_20 : decode cX10_findStretches 20 = .ok (.aload_n 0, 1) := by decide +kernel
theorem dX10_findStretches_21 : decode cX10_findStretches 21 = .ok (.getfield 52, 3) := by decide +kernel
theorem dX10_findStretches_24 : decode cX10_findStretches 24 = .ok (.bipush 13, 2) := by decide +kernel
theorem dX10_findStretches_26 : decode cX10_findStretches 26 = .ok (.iload_n 1, 1) := by decide +kernel
theorem dX10_findStretches_27 : decode cX10_findStretches 27 = .ok (.imul, 1) := by decide +kernel
theorem dX10_findStretches_28 : decode cX10_findStretches 28 = .ok (.iconst 0, 1) := by decide +kernel
theorem dX10_findStretches_29 : decode cX10_findStretches 29 = .ok (.iastore, 1) := by decide +kernel
theorem dX10_findStretches_30 : decode cX10_findStretches 30 = .ok (.aload_n 0, 1) := by decide +kernel
theorem dX10_findStretches_31 : decode cX10_findStretches 31 = .ok (.getfield 55, 3) := by decide +kernel
theorem dX10_findStretches_34 : decode cX10_findStretches 34 = .ok (.bipush 13, 2) := by decide +kernel
theorem dX10_findStretches_36 : decode cX10_findStretches 36 = .ok (.iload_n 1, 1) := by decide +kernel
theorem dX10_findStretches_37 : decode cX10_findStretches 37 = .ok (.imul, 1) := by decide +kernel
theorem dX10_findStretches_38 : decode cX10_findStretches 38 = .ok (.bipush (-9), 2) := by decide +kernel
theorem dX10_findStretches_40 : decode cX10_findStretches 40 = .ok (.iastore, 1) := by decide +kernel
theorem dX10_findStretches_41 : decode cX10_findStretches 41 = .ok (.aload_n 0, 1) := by decide +kernel
theorem dX10_findStretches_42 : decode cX10_findStretches 42 = .ok (.getfield 58, 3) := by decide +kernel
theorem dX10_findStretches_45 : decode cX10_findStretches 45 = .ok (.bipush 13, 2) := by decide +kernel
theorem dX10_findStretches_47 : decode cX10_findStretches 47 = .ok (.iload_n 1, 1) := by decide +kernel
theorem dX10_findStretches_48 : decode cX10_findStretches 48 = .ok (.imul, 1) := by decide +kernel
theorem dX10_findStretches_49 : decode cX10_findStretches 49 = .ok (.bipush (-9), 2) := by decide +kernel
theorem dX10_findStretches_51 : decode cX10_findStretches 51 = .ok (.iastore, 1) := by decide +kernel
theorem dX10_findStretches_52 : decode cX10_findStretches 52 = .ok (.iinc 1 1, 3) := by decide +kernel
theorem dX10_findStretches_55 : decode cX10_findStretches 55 = .ok (.goto (-53), 3) := by decide +kernel
theorem dX10_findStretches_58 : decode cX10_findStretches 58 = .ok (.iconst 1, 1) := by decide +kernel
theorem dX10_findStretches_59 : decode cX10_findStretches 59 = .ok (.istore_n 1, 1) := by decide +kernel
theorem dX10_findStretches_60 : decode cX10_findStretches 60 = .ok (.iload_n 1, 1) := by decide +kernel
theorem dX10_findStretches_61 : decode cX10_findStretches 61 = .ok (.aload_n 0, 1) := by decide +kernel
theorem dX10_findStretches_62 : decode cX10_findStretches 62 = .ok (.getfield 72, 3) := by decide +kernel
theorem dX10_findStretches_65 : decode cX10_findStretches 65 = .ok (.if_icmp .ge 35, 3) := by decide +kernel
theorem dX10_findStretches_68 : decode cX10_findStretches 68 = .ok (.iconst 0, 1) := by decide +kernel
theorem dX10_findStretches_69 : decode cX10_findStretches 69 = .ok (.istore_n 2, 1) := by decide +kernel
theorem dX10_findStretches_70 : decode cX10_findStretches 70 = .ok (.iload_n 2, 1) := by decide +kernel
theorem dX10_findStretches_71 : decode cX10_findStretches 71 = .ok (.iload_n 1, 1) := by decide +kernel
theorem dX10_findStretches_72 : decode cX10_findStretches 72 = .ok (.iadd, 1) := by decide +kernel
theorem dX10_findStretches_73 : decode cX10_findStretches 73 = .ok (.aload_n 0, 1) := by decide +kernel
theorem dX10_findStretches_74 : decode cX10_findStretches 74 = .ok (.getfield 72, 3) := by decide +kernel
theorem dX10_findStretches_77 : decode cX10_findStretches 77 = .ok (.if_icmp .ge 17, 3) := by decide +kernel
theorem dX10_findStretches_80 : decode cX10_findStretches 80 = .ok (.aload_n 0, 1) := by decide +kernel
theorem dX10_findStretches_81 : decode cX10_findStretches 81 = .ok (.iload_n 2, 1) := by decide +kernel
theorem dX10_findStretches_82 : decode cX10_findStretches 82 = .ok (.iload_n 2, 1) := by decide +kernel
theorem dX10_findStretches_83 : decode cX10_findStretches 83 = .ok (.iload_n 1, 1) := by decide +kernel
theorem dX10_findStretches_84 : decode cX10_findStretches 84 = .ok (.iadd, 1) := by decide +kernel
theorem dX10_findStretches_85 : decode cX10_findStretches 85 = .ok (.invokevirtual 205, 3) := by decide +kernel
theorem dX10_findStretches_88 : decode cX10_findStretches 88 = .ok (.iinc 2 1, 3) := by decide +kernel
theorem dX10_findStretches_91 : decode cX10_findStretches 91 = .ok (.goto (-21), 3) := by decide +kernel
theorem dX10_findStretches_94 : decode cX10_findStretches 94 = .ok (.iinc 1 1, 3) := by decide +kernel
theorem dX10_findStretches_97 : decode cX10_findStretches 97 = .ok (.goto (-37), 3) := by decide +kernel
theorem dX10_findStretches_100 : decode cX10_findStretches 100 = .ok (.return_, 1) := by decide +kernel
theorem dX10_find_0 : decode cX10_find 0 = .ok (.aload_n 0, 1) := by decide +kernel
theorem dX10_find_1 : decode cX10_find 1 = .ok (.iload_n 1, 1) := by decide +kernel
theorem dX10_find_2 : decode cX10_find 2 = .ok (.iload_n 2, 1) := by decide +kernel
theorem dX10_find_3 : decode cX10_find 3 = .ok (.invokevirtual 196, 3) := by decide +kernel
theorem dX10_find_6 : decode cX10_find 6 = .ok (.ifCond .ne 9, 3) := by decide +kernel
theorem dX10_find_9 : decode cX10_find 9 = .ok (.aload_n 0, 1) := by decide +kernel
theorem dX10_find_10 : decode cX10_find 10 = .ok (.iconst (-1), 1) := by decide +kernel
theorem dX10_find_11 : decode cX10_find 11 = .ok (.invokevirtual 83, 3) := by decide +kernel
theorem dX10_find_14 : decode cX10_find 14 = .ok (.ireturn, 1) := by decide +kernel
theorem dX10_find_15 : decode cX10_find 15 = .ok (.iload_n 3, 1) := by decide +kernel
theorem dX10_find_16 : decode cX10_find 16 = .ok (.iconst 0, 1) := by decide +kernel
theorem dX10_find_17 : decode cX10_find 17 = .ok (.iconst 1, 1) := by decide +kernel
theorem dX10_find_18 : decode cX10_find 18 = .ok (.invokestatic 94, 3) := by decide +kernel
theorem dX10_find_21 : decode cX10_find 21 = .ok (.ifCond .ne 10, 3) := by decide +kernel
theorem dX10_find_24 : decode cX10_find 24 = .ok (.aload_n 0, 1) := by decide +kernel
theorem dX10_find_25 : decode cX10_find 25 = .ok (.bipush (-2), 2) := by decide +kernel
theorem dX10_find_27 : decode cX10_find 27 = .ok (.invokevirtual 83, 3) := by decide +kernel
theorem dX10_find_30 : decode cX10_find 30 = .ok (.ireturn, 1) := by decide +kernel
theorem dX10_find_31 : decode cX10_find 31 = .ok (.aload_n 0, 1) := by decide +kernel
theorem dX10_find_32 : decode cX10_find 32 = .ok (.invokevirtual 209, 3) := by decide +kernel
theorem dX10_find_35 : decode cX10_find 35 = .ok (.iload_n 3, 1) := by decide +kernel
theorem dX10_find_36 : decode cX10_find 36 = .ok (.ifCond .ne 17, 3) := by decide +kernel
theorem dX10_find_39 : decode cX10_find 39 = .ok (.aload_n 0, 1) := by decide +kernel
theorem dX10_find_40 : decode cX10_find 40 = .ok (.getfield 49, 3) := by decide +kernel
theorem dX10_find_43 : decode cX10_find 43 = .ok (.bipush 12, 2) := by decide +kernel
theorem dX10_find_45 : decode cX10_find 45 = .ok (.iload_n 1, 1) := by decide +kernel
theorem dX10_find_46 : decode cX10_find 46 = .ok (.imul, 1) := by decide +kernel
theorem dX10_find_47 : decode cX10_find 47 = .ok (.iload_n 2, 1) := by decide +kernel
theorem dX10_find_48 : decode cX10_find 48 = .ok (.iadd, 1) := by decide +kernel
theorem dX10_find_49 : decode cX10_find 49 = .ok (.iaload, 1) := by decide +kernel
theorem dX10_find_50 : decode cX10_find 50 = .ok (.goto 14, 3) := by decide +kernel
theorem dX10_find_53 : decode cX10_find 53 = .ok (.aload_n 0, 1) := by decide +kernel
theorem dX10_find_54 : decode cX10_find 54 = .ok (.getfield 52, 3) := by decide +kernel
theorem dX10_find_57 : decode cX10_find 57 = .ok (.bipush 12, 2) := by decide +kernel
theorem dX10_find_59 : decode cX10_find 59 = .ok (.iload_n 1, 1) := by decide +kernel
theorem dX10_find_60 : decode cX10_find 60 = .ok (.imul, 1) := by decide +kernel
theorem dX10_find_61 : decode cX10_find 61 = .ok (.iload_n 2, 1) := by decide +kernel
theorem dX10_find_62 : decode cX10_find 62 = .ok (.iadd, 1) := by decide +kernel
theorem dX10_find_63 : decode cX10_find 63 = .ok (.iaload, 1) := by decide +kernel
theorem dX10_find_64 : decode cX10_find 64 = .ok (.ireturn, 1) := by decide +kernel
theorem dX10_look_0 : decode cX10_look 0 = .ok (.aload_n 0, 1) := by decide +kernel
theorem dX10_look_1 : decode cX10_look 1 = .ok (.iload_n 1, 1) := by decide +kernel
theorem dX10_look_2 : decode cX10_look 2 = .ok (.iload_n 2, 1) := by decide +kernel
theorem dX10_look_3 : decode cX10_look 3 = .ok (.invokevirtual 196, 3) := by decide +kernel
theorem dX10_look_6 : decode cX10_look 6 = .ok (.ifCond .ne 9, 3) := by decide +kernel
theorem dX10_look_9 : decode cX10_look 9 = .ok (.aload_n 0, 1) := by decide +kernel
theorem dX10_look_10 : decode cX10_look 10 = .ok (.iconst (-1), 1) := by decide +kernel
theorem dX10_look_11 : decode cX10_look 11 = .ok (.invokevirtual 83, 3) := by decide +kernel
theorem dX10_look_14 : decode cX10_look 14 = .ok (.ireturn, 1) := by decide +kernel
theorem dX10_look_15 : decode cX10_look 15 = .ok (.iload_n 3, 1) := by decide +kernel
theorem dX10_look_16 : decode cX10_look 16 = .ok (.iconst 0, 1) := by decide +kernel
theorem dX10_look_17 : decode cX10_look 17 = .ok (.iconst 1, 1) := by decide +kernel
theorem dX10_look_18 : decode cX10_look 18 = .ok (.invokestatic 94, 3) := by decide +kernel
theorem dX10_look_21 : decode cX10_look 21 = .ok (.ifCond .ne 10, 3) := by decide +kernel
theorem dX10_look_24 : decode cX10_look 24 = .ok (.aload_n 0, 1) := by decide +kernel
theorem dX10_look_25 : decode cX10_look 25 = .ok (.bipush (-2), 2) := by decide +kernel
theorem dX10_look_27 : decode cX10_look 27 = .ok (.invokevirtual 83, 3) := by decide +kernel
theorem dX10_look_30 : decode cX10_look 30 = .ok (.ireturn, 1) := by decide +kernel
theorem dX10_look_31 : decode cX10_look 31 = .ok (.aload_n 0, 1) := by decide +kernel
theorem dX10_look_32 : decode cX10_look 32 = .ok (.invokevirtual 209, 3) := by decide +kernel
theorem dX10_look_35 : decode cX10_look 35 = .ok (.iload_n 3, 1) := by decide +kernel
theorem dX10_look_36 : decode cX10_look 36 = .ok (.ifCond .ne 17, 3) := by decide +kernel
theorem dX10_look_39 : decode cX10_look 39 = .ok (.aload_n 0, 1) := by decide +kernel
theorem dX10_look_40 : decode cX10_look 40 = .ok (.getfield 55, 3) := by decide +kernel
theorem dX10_look_43 : decode cX10_look 43 = .ok (.bipush 12, 2) := by decide +kernel
theorem dX10_look_45 : decode cX10_look 45 = .ok (.iload_n 1, 1) := by decide +kernel
theorem dX10_look_46 : decode cX10_look 46 = .ok (.imul, 1) := by decide +kernel
theorem dX10_look_47 : decode cX10_look 47 = .ok (.iload_n 2, 1) := by decide +kernel
theorem dX10_look_48 : decode cX10_look 48 = .ok (.iadd, 1) := by decide +kernel
theorem dX10_look_49 : decode cX10_look 49 = .ok (.iaload, 1) := by decide +kernel
theorem dX10_look_50 : decode cX10_look 50 = .ok (.goto 14, 3) := by decide +kernel
theorem dX10_look_53 : decode cX10_look 53 = .ok (.aload_n 0, 1) := by decide +kernel
theorem dX10_look_54 : decode cX10_look 54 = .ok (.getfield 58, 3) := by decide +kernel
theorem dX10_look_57 : decode cX10_look 57 = .ok (.bipush 12, 2) := by decide +kernel
theorem dX10_look_59 : decode cX10_look 59 = .ok (.iload_n 1, 1) := by decide +kernel
theorem dX10_look_60 : decode cX10_look 60 = .ok (.imul, 1) := by decide +kernel
theorem dX10_look_61 : decode cX10_look 61 = .ok (.iload_n 2, 1) := by decide +kernel
theorem dX10_look_62 : decode cX10_look 62 = .ok (.iadd, 1) := by decide +kernel
theorem dX10_look_63 : decode cX10_look 63 = .ok (.iaload, 1) := by decide +kernel
theorem dX10_look_64 : decode cX10_look 64 = .ok (.ireturn, 1) := by decide +kernel
theorem dX10_findOrder_0 : decode cX10_findOrder 0 = .ok (.iconst 0, 1) := by decide +kernel
theorem dX10_findOrder_1 : decode cX10_findOrder 1 = .ok (.istore_n 1, 1) := by decide +kernel
theorem dX10_findOrder_2 : decode cX10_findOrder 2 = .ok (.iload_n 1, 1) := by decide +kernel
theorem dX10_findOrder_3 : decode cX10_findOrder 3 = .ok (.aload_n 0, 1) := by decide +kernel
theorem dX10_findOrder_4 : decode cX10_findOrder 4 = .ok (.getfield 72, 3) := by decide +kernel
theorem dX10_findOrder_7 : decode cX10_findOrder 7 = .ok (.if_icmp .ge 83, 3) := by decide +kernel
theorem dX10_findOrder_10 : decode cX10_findOrder 10 = .ok (.iload_n 1, 1) := by decide +kernel
theorem dX10_findOrder_11 : decode cX10_findOrder 11 = .ok (.istore_n 2, 1) := by decide +kernel
theorem dX10_findOrder_12 : decode cX10_findOrder 12 = .ok (.iload_n 2, 1) := by decide +kernel
theorem dX10_findOrder_13 : decode cX10_findOrder 13 = .ok (.ifCond .le 64, 3) := by decide +kernel
theorem dX10_findOrder_16 : decode cX10_findOrder 16 = .ok (.aload_n 0, 1) := by decide +kernel
theorem dX10_findOrder_17 : decode cX10_findOrder 17 = .ok (.getfield 19, 3) := by decide +kernel
theorem dX10_findOrder_20 : decode cX10_findOrder 20 = .ok (.iload_n 1, 1) := by decide +kernel
theorem dX10_findOrder_21 : decode cX10_findOrder 21 = .ok (.iaload, 1) := by decide +kernel
theorem dX10_findOrder_22 : decode cX10_findOrder 22 = .ok (.aload_n 0, 1) := by decide +kernel
theorem dX10_findOrder_23 : decode cX10_findOrder 23 = .ok (.aload_n 0, 1) := by decide +kernel
theorem dX10_findOrder_24 : decode cX10_findOrder 24 = .ok (.getfield 61, 3) := by decide +kernel
theorem dX10_findOrder_27 : decode cX10_findOrder 27 = .ok (.iload_n 2, 1) := by decide +kernel
theorem dX10_findOrder_28 : decode cX10_findOrder 28 = .ok (.iconst 1, 1) := by decide +kernel
theorem dX10_findOrder_29 : decode cX10_findOrder 29 = .ok (.isub, 1) := by decide +kernel
theorem dX10_findOrder_30 : decode cX10_findOrder 30 = .ok (.iaload, 1) := by decide +kernel
theorem dX10_findOrder_31 : decode cX10_findOrder 31 = .ok (.invokevirtual 174, 3) := by decide +kernel
theorem dX10_findOrder_34 : decode cX10_findOrder 34 = .ok (.imul, 1) := by decide +kernel
theorem dX10_findOrder_35 : decode cX10_findOrder 35 = .ok (.aload_n 0, 1) := by decide +kernel
theorem dX10_findOrder_36 : decode cX10_findOrder 36 = .ok (.getfield 19, 3) := by decide +kernel
theorem dX10_findOrder_39 : decode cX10_findOrder 39 = .ok (.aload_n 0, 1) := by decide +kernel
theorem dX10_findOrder_40 : decode cX10_findOrder 40 = .ok (.getfield 61, 3) := by decide +kernel
theorem dX10_findOrder_43 : decode cX10_findOrder 43 = .ok (.iload_n 2, 1) := by decide +kernel
theorem dX10_findOrder_44 : decode cX10_findOrder 44 = .ok (.iconst 1, 1) := by decide +kernel
theorem dX10_findOrder_45 : decode cX10_findOrder 45 = .ok (.isub, 1) := by decide +kernel
theorem dX10_findOrder_46 : decode cX10_findOrder 46 = .ok (.iaload, 1) := by decide +kernel
theorem dX10_findOrder_47 : decode cX10_findOrder 47 = .ok (.iaload, 1) := by decide +kernel
theorem dX10_findOrder_48 : decode cX10_findOrder 48 = .ok (.aload_n 0, 1) := by decide +kernel
theorem dX10_findOrder_49 : decode cX10_findOrder 49 = .ok (.iload_n 1, 1) := by decide +kernel
theorem dX10_findOrder_50 : decode cX10_findOrder 50 = .ok (.invokevirtual 174, 3) := by decide +kernel
theorem dX10_findOrder_53 : decode cX10_findOrder 53 = .ok (.imul, 1) := by decide +kernel
theorem dX10_findOrder_54 : decode cX10_findOrder 54 = .ok (.if_icmp .ge 23, 3) := by decide +kernel
theorem dX10_findOrder_57 : decode cX10_findOrder 57 = .ok (.aload_n 0, 1) := by decide +kernel
theorem dX10_findOrder_58 : decode cX10_findOrder 58 = .ok (.getfield 61, 3) := by decide +kernel
theorem dX10_findOrder_61 : decode cX10_findOrder 61 = .ok (.iload_n 2, 1) := by decide +kernel
theorem dX10_findOrder_62 : decode cX10_findOrder 62 = .ok (.aload_n 0, 1) := by decide +kernel
theorem dX10_findOrder_63 : decode cX10_findOrder 63 = .ok (.getfield 61, 3) := by decide +kernel
theorem dX10_findOrder_66 : decode cX10_findOrder 66 = .ok (.iload_n 2, 1) := by decide +kernel
theorem dX10_findOrder_67 : decode cX10_findOrder 67 = .ok (.iconst 1, 1) := by decide +kernel
theorem dX10_findOrder_68 : decode cX10_findOrder 68 = .ok (.isub, 1) := by decide +kernel
theorem dX10_findOrder_69 : decode cX10_findOrder 69 = .ok (.iaload, 1) := by decide +kernel
theorem dX10_findOrder_70 : decode cX10_findOrder 70 = .ok (.iastore, 1) := by decide +kernel
theorem dX10_findOrder_71 : decode cX10_findOrder 71 = .ok (.iinc 2 (-1), 3) := by decide +kernel
theorem dX10_findOrder_74 : decode cX10_findOrder 74 = .ok (.goto (-62), 3) := by decide +kernel
theorem dX10_findOrder_77 : decode cX10_findOrder 77 = .ok (.aload_n 0, 1) := by decide +kernel
theorem dX10_findOrder_78 : decode cX10_findOrder 78 = .ok (.getfield 61, 3) := by decide +kernel
theorem dX10_findOrder_81 : decode cX10_findOrder 81 = .ok (.iload_n 2, 1) := by decide +kernel
theorem dX10_findOrder_82 : decode cX10_findOrder 82 = .ok (.iload_n 1, 1) := by decide +kernel
theorem dX10_findOrder_83 : decode cX10_findOrder 83 = .ok (.iastore, 1) := by decide +kernel
theorem dX10_findOrder_84 : decode cX10_findOrder 84 = .ok (.iinc 1 1, 3) := by decide +kernel
theorem dX10_findOrder_87 : decode cX10_findOrder 87 = .ok (.goto (-85), 3) := by decide +kernel
theorem dX10_findOrder_90 : decode cX10_findOrder 90 = .ok (.return_, 1) := by decide +kernel
theorem dX10_order_0 : decode cX10_order 0 = .ok (.iload_n 1, 1) := by decide +kernel
theorem dX10_order_1 : decode cX10_order 1 = .ok (.ifCond .ge 10, 3) := by decide +kernel
theorem dX10_order_4 : decode cX10_order 4 = .ok (.aload_n 0, 1) := by decide +kernel
theorem dX10_order_5 : decode cX10_order 5 = .ok (.bipush (-4), 2) := by decide +kernel
theorem dX10_order_7 : decode cX10_order 7 = .ok (.invokevirtual 83, 3) := by decide +kernel
theorem dX10_order_10 : decode cX10_order 10 = .ok (.ireturn, 1) := by decide +kernel
theorem dX10_order_11 : decode cX10_order 11 = .ok (.aload_n 0, 1) := by decide +kernel
theorem dX10_order_12 : decode cX10_order 12 = .ok (.invokevirtual 212, 3) := by decide +kernel
theorem dX10_order_15 : decode cX10_order 15 = .ok (.iload_n 1, 1) := by decide +kernel
theorem dX10_order_16 : decode cX10_order 16 = .ok (.aload_n 0, 1) := by decide +kernel
theorem dX10_order_17 : decode cX10_order 17 = .ok (.getfield 72, 3) := by decide +kernel
theorem dX10_order_20 : decode cX10_order 20 = .ok (.if_icmp .ge 12, 3) := by decide +kernel
theorem dX10_order_23 : decode cX10_order 23 = .ok (.aload_n 0, 1) := by decide +kernel
theorem dX10_order_24 : decode cX10_order 24 = .ok (.getfield 61, 3) := by decide +kernel
theorem dX10_order_27 : decode cX10_order 27 = .ok (.iload_n 1, 1) := by decide +kernel
theorem dX10_order_28 : decode cX10_order 28 = .ok (.iaload, 1) := by decide +kernel
theorem dX10_order_29 : decode cX10_order 29 = .ok (.goto 5, 3) := by decide +kernel
theorem dX10_order_32 : decode cX10_order 32 = .ok (.bipush (-9), 2) := by decide +kernel
theorem dX10_order_34 : decode cX10_order 34 = .ok (.ireturn, 1) := by decide +kernel
theorem dX10_orderSum_0 : decode cX10_orderSum 0 = .ok (.aload_n 0, 1) := by decide +kernel
theorem dX10_orderSum_1 : decode cX10_orderSum 1 = .ok (.getfield 72, 3) := by decide +kernel
theorem dX10_orderSum_4 : decode cX10_orderSum 4 = .ok (.ifCond .ne 10, 3) := by decide +kernel
theorem dX10_orderSum_7 : decode cX10_orderSum 7 = .ok (.aload_n 0, 1) := by decide +kernel
theorem dX10_orderSum_8 : decode cX10_orderSum 8 = .ok (.bipush (-3), 2) := by decide +kernel
theorem dX10_orderSum_10 : decode cX10_orderSum 10 = .ok (.invokevirtual 83, 3) := by decide +kernel
theorem dX10_orderSum_13 : decode cX10_orderSum 13 = .ok (.ireturn, 1) := by decide +kernel
theorem dX10_orderSum_14 : decode cX10_orderSum 14 = .ok (.aload_n 0, 1) := by decide +kernel
theorem dX10_orderSum_15 : decode cX10_orderSum 15 = .ok (.invokevirtual 212, 3) := by decide +kernel
theorem dX10_orderSum_18 : decode cX10_orderSum 18 = .ok (.iconst 0, 1) := by decide +kernel
theorem dX10_orderSum_19 : decode cX10_orderSum 19 = .ok (.istore_n 1, 1) := by decide +kernel
theorem dX10_orderSum_20 : decode cX10_orderSum 20 = .ok (.iconst 0, 1) := by decide +kernel
theorem dX10_orderSum_21 : decode cX10_orderSum 21 = .ok (.istore_n 2, 1) := by decide +kernel
theorem dX10_orderSum_22 : decode cX10_orderSum 22 = .ok (.iconst 0, 1) := by decide +kernel
theorem dX10_orderSum_23 : decode cX10_orderSum 23 = .ok (.istore_n 3, 1) := by decide +kernel
theorem dX10_orderSum_24 : decode cX10_orderSum 24 = .ok (.iload_n 3, 1) := by decide +kernel
theorem dX10_orderSum_25 : decode cX10_orderSum 25 = .ok (.aload_n 0, 1) := by decide +kernel
theorem dX10_orderSum_26 : decode cX10_orderSum 26 = .ok (.getfield 72, 3) := by decide +kernel
theorem dX10_orderSum_29 : decode cX10_orderSum 29 = .ok (.if_icmp .ge 38, 3) := by decide +kernel
theorem dX10_orderSum_32 : decode cX10_orderSum 32 = .ok (.iload_n 1, 1) := by decide +kernel
theorem dX10_orderSum_33 : decode cX10_orderSum 33 = .ok (.aload_n 0, 1) := by decide +kernel
theorem dX10_orderSum_34 : decode cX10_orderSum 34 = .ok (.getfield 19, 3) := by decide +kernel
theorem dX10_orderSum_37 : decode cX10_orderSum 37 = .ok (.aload_n 0, 1) := by decide +kernel
theorem dX10_orderSum_38 : decode cX10_orderSum 38 = .ok (.getfield 61, 3) := by decide +kernel
theorem dX10_orderSum_41 : decode cX10_orderSum 41 = .ok (.iload_n 3, 1) := by decide +kernel
theorem dX10_orderSum_42 : decode cX10_orderSum 42 = .ok (.iaload, 1) := by decide +kernel
theorem dX10_orderSum_43 : decode cX10_orderSum 43 = .ok (.iaload, 1) := by decide +kernel
theorem dX10_orderSum_44 : decode cX10_orderSum 44 = .ok (.iadd, 1) := by decide +kernel
theorem dX10_orderSum_45 : decode cX10_orderSum 45 = .ok (.istore_n 1, 1) := by decide +kernel
theorem dX10_orderSum_46 : decode cX10_orderSum 46 = .ok (.iload_n 2, 1) := by decide +kernel
theorem dX10_orderSum_47 : decode cX10_orderSum 47 = .ok (.aload_n 0, 1) := by decide +kernel
theorem dX10_orderSum_48 : decode cX10_orderSum 48 = .ok (.aload_n 0, 1) := by decide +kernel
theorem dX10_orderSum_49 : decode cX10_orderSum 49 = .ok (.getfield 61, 3) := by decide +kernel
theorem dX10_orderSum_52 : decode cX10_orderSum 52 = .ok (.iload_n 3, 1) := by decide +kernel
theorem dX10_orderSum_53 : decode cX10_orderSum 53 = .ok (.iaload, 1) := by decide +kernel
theorem dX10_orderSum_54 : decode cX10_orderSum 54 = .ok (.invokevirtual 174, 3) := by decide +kernel
theorem dX10_orderSum_57 : decode cX10_orderSum 57 = .ok (.iload_n 1, 1) := by decide +kernel
theorem dX10_orderSum_58 : decode cX10_orderSum 58 = .ok (.imul, 1) := by decide +kernel
theorem dX10_orderSum_59 : decode cX10_orderSum 59 = .ok (.iadd, 1) := by decide +kernel
theorem dX10_orderSum_60 : decode cX10_orderSum 60 = .ok (.istore_n 2, 1) := by decide +kernel
theorem dX10_orderSum_61 : decode cX10_orderSum 61 = .ok (.iinc 3 1, 3) := by decide +kernel
theorem dX10_orderSum_64 : decode cX10_orderSum 64 = .ok (.goto (-40), 3) := by decide +kernel
theorem dX10_orderSum_67 : decode cX10_orderSum 67 = .ok (.iload_n 2, 1) := by decide +kernel
theorem dX10_orderSum_68 : decode cX10_orderSum 68 = .ok (.ireturn, 1) := by decide +kernel
theorem dX10_told_0 : decode cX10_told 0 = .ok (.aload_n 0, 1) := by decide +kernel
theorem dX10_told_1 : decode cX10_told 1 = .ok (.iload_n 1, 1) := by decide +kernel
theorem dX10_told_2 : decode cX10_told 2 = .ok (.invokevirtual 112, 3) := by decide +kernel
theorem dX10_told_5 : decode cX10_told 5 = .ok (.ifCond .ne 9, 3) := by decide +kernel
theorem dX10_told_8 : decode cX10_told 8 = .ok (.aload_n 0, 1) := by decide +kernel
theorem dX10_told_9 : decode cX10_told 9 = .ok (.iconst (-1), 1) := by decide +kernel
theorem dX10_told_10 : decode cX10_told 10 = .ok (.invokevirtual 83, 3) := by decide +kernel
theorem dX10_told_13 : decode cX10_told 13 = .ok (.ireturn, 1) := by decide +kernel
theorem dX10_told_14 : decode cX10_told 14 = .ok (.iload_n 2, 1) := by decide +kernel
theorem dX10_told_15 : decode cX10_told 15 = .ok (.iconst 0, 1) := by decide +kernel
theorem dX10_told_16 : decode cX10_told 16 = .ok (.iconst 1, 1) := by decide +kernel
theorem dX10_told_17 : decode cX10_told 17 = .ok (.invokestatic 94, 3) := by decide +kernel
theorem dX10_told_20 : decode cX10_told 20 = .ok (.ifCond .ne 10, 3) := by decide +kernel
theorem dX10_told_23 : decode cX10_told 23 = .ok (.aload_n 0, 1) := by decide +kernel
theorem dX10_told_24 : decode cX10_told 24 = .ok (.bipush (-2), 2) := by decide +kernel
theorem dX10_told_26 : decode cX10_told 26 = .ok (.invokevirtual 83, 3) := by decide +kernel
theorem dX10_told_29 : decode cX10_told 29 = .ok (.ireturn, 1) := by decide +kernel
theorem dX10_told_30 : decode cX10_told 30 = .ok (.aload_n 0, 1) := by decide +kernel
theorem dX10_told_31 : decode cX10_told 31 = .ok (.getfield 215, 3) := by decide +kernel
theorem dX10_told_34 : decode cX10_told 34 = .ok (.bipush 6, 2) := by decide +kernel
theorem dX10_told_36 : decode cX10_told 36 = .ok (.if_icmp .ne 10, 3) := by decide +kernel
theorem dX10_told_39 : decode cX10_told 39 = .ok (.aload_n 0, 1) := by decide +kernel
theorem dX10_told_40 : decode cX10_told 40 = .ok (.bipush (-6), 2) := by decide +kernel
theorem dX10_told_42 : decode cX10_told 42 = .ok (.invokevirtual 83, 3) := by decide +kernel
theorem dX10_told_45 : decode cX10_told 45 = .ok (.ireturn, 1) := by decide +kernel
theorem dX10_told_46 : decode cX10_told 46 = .ok (.aload_n 0, 1) := by decide +kernel
theorem dX10_told_47 : decode cX10_told 47 = .ok (.getfield 64, 3) := by decide +kernel
theorem dX10_told_50 : decode cX10_told 50 = .ok (.aload_n 0, 1) := by decide +kernel
theorem dX10_told_51 : decode cX10_told 51 = .ok (.getfield 215, 3) := by decide +kernel
theorem dX10_told_54 : decode cX10_told 54 = .ok (.iload_n 1, 1) := by decide +kernel
theorem dX10_told_55 : decode cX10_told 55 = .ok (.iastore, 1) := by decide +kernel
theorem dX10_told_56 : decode cX10_told 56 = .ok (.aload_n 0, 1) := by decide +kernel
theorem dX10_told_57 : decode cX10_told 57 = .ok (.getfield 67, 3) := by decide +kernel
theorem dX10_told_60 : decode cX10_told 60 = .ok (.aload_n 0, 1) := by decide +kernel
theorem dX10_told_61 : decode cX10_told 61 = .ok (.getfield 215, 3) := by decide +kernel
theorem dX10_told_64 : decode cX10_told 64 = .ok (.iload_n 2, 1) := by decide +kernel
theorem dX10_told_65 : decode cX10_told 65 = .ok (.iastore, 1) := by decide +kernel
theorem dX10_told_66 : decode cX10_told 66 = .ok (.aload_n 0, 1) := by decide +kernel
theorem dX10_told_67 : decode cX10_told 67 = .ok (.dup, 1) := by decide +kernel
theorem dX10_told_68 : decode cX10_told 68 = .ok (.getfield 215, 3) := by decide +kernel
theorem dX10_told_71 : decode cX10_told 71 = .ok (.iconst 1, 1) := by decide +kernel
theorem dX10_told_72 : decode cX10_told 72 = .ok (.iadd, 1) := by decide +kernel
theorem dX10_told_73 : decode cX10_told 73 = .ok (.putfield 215, 3) := by decide +kernel
theorem dX10_told_76 : decode cX10_told 76 = .ok (.aload_n 0, 1) := by decide +kernel
theorem dX10_told_77 : decode cX10_told 77 = .ok (.getfield 215, 3) := by decide +kernel
theorem dX10_told_80 : decode cX10_told 80 = .ok (.ireturn, 1) := by decide +kernel
theorem dX10_openBy_0 : decode cX10_openBy 0 = .ok (.iconst 0, 1) := by decide +kernel
theorem dX10_openBy_1 : decode cX10_openBy 1 = .ok (.istore_n 2, 1) := by decide +kernel
theorem dX10_openBy_2 : decode cX10_openBy 2 = .ok (.iconst 0, 1) := by decide +kernel
theorem dX10_openBy_3 : decode cX10_openBy 3 = .ok (.istore_n 3, 1) := by decide +kernel
theorem dX10_openBy_4 : decode cX10_openBy 4 = .ok (.iload_n 3, 1) := by decide +kernel
theorem dX10_openBy_5 : decode cX10_openBy 5 = .ok (.aload_n 0, 1) := by decide +kernel
theorem dX10_openBy_6 : decode cX10_openBy 6 = .ok (.getfield 72, 3) := by decide +kernel
theorem dX10_openBy_9 : decode cX10_openBy 9 = .ok (.if_icmp .ge 89, 3) := by decide +kernel
theorem dX10_openBy_12 : decode cX10_openBy 12 = .ok (.iconst 1, 1) := by decide +kernel
theorem dX10_openBy_13 : decode cX10_openBy 13 = .ok (.istore 4, 2) := by decide +kernel
theorem dX10_openBy_15 : decode cX10_openBy 15 = .ok (.iconst 0, 1) := by decide +kernel
theorem dX10_openBy_16 : decode cX10_openBy 16 = .ok (.istore 5, 2) := by decide +kernel
theorem dX10_openBy_18 : decode cX10_openBy 18 = .ok (.iload 5, 2) := by decide +kernel
theorem dX10_openBy_20 : decode cX10_openBy 20 = .ok (.iload_n 1, 1) := by decide +kernel
theorem dX10_openBy_21 : decode cX10_openBy 21 = .ok (.if_icmp .ge 56, 3) := by decide +kernel
theorem dX10_openBy_24 : decode cX10_openBy 24 = .ok (.iload 4, 2) := by decide +kernel
theorem dX10_openBy_26 : decode cX10_openBy 26 = .ok (.ifCond .eq 42, 3) := by decide +kernel
theorem dX10_openBy_29 : decode cX10_openBy 29 = .ok (.iload_n 3, 1) := by decide +kernel
theorem dX10_openBy_30 : decode cX10_openBy 30 = .ok (.aload_n 0, 1) := by decide +kernel
theorem dX10_openBy_31 : decode cX10_openBy 31 = .ok (.getfield 64, 3) := by decide +kernel
theorem dX10_openBy_34 : decode cX10_openBy 34 = .ok (.iload 5, 2) := by decide +kernel
theorem dX10_openBy_36 : decode cX10_openBy 36 = .ok (.iaload, 1) := by decide +kernel
theorem dX10_openBy_37 : decode cX10_openBy 37 = .ok (.if_icmp .lt 7, 3) := by decide +kernel
theorem dX10_openBy_40 : decode cX10_openBy 40 = .ok (.iconst 1, 1) := by decide +kernel
theorem dX10_openBy_41 : decode cX10_openBy 41 = .ok (.goto 4, 3) := by decide +kernel
theorem dX10_openBy_44 : decode cX10_openBy 44 = .ok (.iconst 0, 1) := by decide +kernel
theorem dX10_openBy_45 : decode cX10_openBy 45 = .ok (.aload_n 0, 1) := by decide +kernel
theorem dX10_openBy_46 : decode cX10_openBy 46 = .ok (.getfield 67, 3) := by decide +kernel
theorem dX10_openBy_49 : decode cX10_openBy 49 = .ok (.iload 5, 2) := by decide +kernel
theorem dX10_openBy_51 : decode cX10_openBy 51 = .ok (.iaload, 1) := by decide +kernel
theorem dX10_openBy_52 : decode cX10_openBy 52 = .ok (.iconst 1, 1) := by decide +kernel
theorem dX10_openBy_53 : decode cX10_openBy 53 = .ok (.if_icmp .ne 7, 3) := by decide +kernel
theorem dX10_openBy_56 : decode cX10_openBy 56 = .ok (.iconst 1, 1) := by decide +kernel
theorem dX10_openBy_57 : decode cX10_openBy 57 = .ok (.goto 4, 3) := by decide +kernel
theorem dX10_openBy_60 : decode cX10_openBy 60 = .ok (.iconst 0, 1) := by decide +kernel
theorem dX10_openBy_61 : decode cX10_openBy 61 = .ok (.if_icmp .ne 7, 3) := by decide +kernel
theorem dX10_openBy_64 : decode cX10_openBy 64 = .ok (.iconst 1, 1) := by decide +kernel
theorem dX10_openBy_65 : decode cX10_openBy 65 = .ok (.goto 4, 3) := by decide +kernel
theorem dX10_openBy_68 : decode cX10_openBy 68 = .ok (.iconst 0, 1) := by decide +kernel
theorem dX10_openBy_69 : decode cX10_openBy 69 = .ok (.istore 4, 2) := by decide +kernel
theorem dX10_openBy_71 : decode cX10_openBy 71 = .ok (.iinc 5 1, 3) := by decide +kernel
theorem dX10_openBy_74 : decode cX10_openBy 74 = .ok (.goto (-56), 3) := by decide +kernel
theorem dX10_openBy_77 : decode cX10_openBy 77 = .ok (.iload_n 2, 1) := by decide +kernel
theorem dX10_openBy_78 : decode cX10_openBy 78 = .ok (.iload 4, 2) := by decide +kernel
theorem dX10_openBy_80 : decode cX10_openBy 80 = .ok (.ifCond .eq 9, 3) := by decide +kernel
theorem dX10_openBy_83 : decode cX10_openBy 83 = .ok (.iconst 1, 1) := by decide +kernel
theorem dX10_openBy_84 : decode cX10_openBy 84 = .ok (.iload_n 3, 1) := by decide +kernel
theorem dX10_openBy_85 : decode cX10_openBy 85 = .ok (.ishl, 1) := by decide +kernel
theorem dX10_openBy_86 : decode cX10_openBy 86 = .ok (.goto 4, 3) := by decide +kernel
theorem dX10_openBy_89 : decode cX10_openBy 89 = .ok (.iconst 0, 1) := by decide +kernel
theorem dX10_openBy_90 : decode cX10_openBy 90 = .ok (.ior, 1) := by decide +kernel
theorem dX10_openBy_91 : decode cX10_openBy 91 = .ok (.istore_n 2, 1) := by decide +kernel
theorem dX10_openBy_92 : decode cX10_openBy 92 = .ok (.iinc 3 1, 3) := by decide +kernel
theorem dX10_openBy_95 : decode cX10_openBy 95 = .ok (.goto (-91), 3) := by decide +kernel
theorem dX10_openBy_98 : decode cX10_openBy 98 = .ok (.iload_n 2, 1) := by decide +kernel
theorem dX10_openBy_99 : decode cX10_openBy 99 = .ok (.ireturn, 1) := by decide +kernel
theorem dX10_openTo_0 : decode cX10_openTo 0 = .ok (.aload_n 0, 1) := by decide +kernel
theorem dX10_openTo_1 : decode cX10_openTo 1 = .ok (.aload_n 0, 1) := by decide +kernel
theorem dX10_openTo_2 : decode cX10_openTo 2 = .ok (.getfield 215, 3) := by decide +kernel
theorem dX10_openTo_5 : decode cX10_openTo 5 = .ok (.invokevirtual 218, 3) := by decide +kernel
theorem dX10_openTo_8 : decode cX10_openTo 8 = .ok (.ireturn, 1) := by decide +kernel
theorem dX10_judge_0 : decode cX10_judge 0 = .ok (.bipush (-9), 2) := by decide +kernel
theorem dX10_judge_2 : decode cX10_judge 2 = .ok (.istore_n 1, 1) := by decide +kernel
theorem dX10_judge_3 : decode cX10_judge 3 = .ok (.aload_n 0, 1) := by decide +kernel
theorem dX10_judge_4 : decode cX10_judge 4 = .ok (.getfield 215, 3) := by decide +kernel
theorem dX10_judge_7 : decode cX10_judge 7 = .ok (.istore_n 2, 1) := by decide +kernel
theorem dX10_judge_8 : decode cX10_judge 8 = .ok (.iload_n 2, 1) := by decide +kernel
theorem dX10_judge_9 : decode cX10_judge 9 = .ok (.ifCond .le 25, 3) := by decide +kernel
theorem dX10_judge_12 : decode cX10_judge 12 = .ok (.aload_n 0, 1) := by decide +kernel
theorem dX10_judge_13 : decode cX10_judge 13 = .ok (.iload_n 2, 1) := by decide +kernel
theorem dX10_judge_14 : decode cX10_judge 14 = .ok (.invokevirtual 218, 3) := by decide +kernel
theorem dX10_judge_17 : decode cX10_judge 17 = .ok (.ifCond .ne 9, 3) := by decide +kernel
theorem dX10_judge_20 : decode cX10_judge 20 = .ok (.iload_n 2, 1) := by decide +kernel
theorem dX10_judge_21 : decode cX10_judge 21 = .ok (.iconst 1, 1) := by decide +kernel
theorem dX10_judge_22 : decode cX10_judge 22 = .ok (.isub, 1) := by decide +kernel
theorem dX10_judge_23 : decode cX10_judge 23 = .ok (.goto 4, 3) := by decide +kernel
theorem dX10_judge_26 : decode cX10_judge 26 = .ok (.iload_n 1, 1) := by decide +kernel
theorem dX10_judge_27 : decode cX10_judge 27 = .ok (.istore_n 1, 1) := by decide +kernel
theorem dX10_judge_28 : decode cX10_judge 28 = .ok (.iinc 2 (-1), 3) := by decide +kernel
theorem dX10_judge_31 : decode cX10_judge 31 = .ok (.goto (-23), 3) := by decide +kernel
theorem dX10_judge_34 : decode cX10_judge 34 = .ok (.aload_n 0, 1) := by decide +kernel
theorem dX10_judge_35 : decode cX10_judge 35 = .ok (.iconst 0, 1) := by decide +kernel
theorem dX10_judge_36 : decode cX10_judge 36 = .ok (.putfield 215, 3) := by decide +kernel
theorem dX10_judge_39 : decode cX10_judge 39 = .ok (.iload_n 1, 1) := by decide +kernel
theorem dX10_judge_40 : decode cX10_judge 40 = .ok (.ireturn, 1) := by decide +kernel
theorem dX10_lasts_0 : decode cX10_lasts 0 = .ok (.aload_n 0, 1) := by decide +kernel
theorem dX10_lasts_1 : decode cX10_lasts 1 = .ok (.iconst 1, 1) := by decide +kernel
theorem dX10_lasts_2 : decode cX10_lasts 2 = .ok (.iconst 1, 1) := by decide +kernel
theorem dX10_lasts_3 : decode cX10_lasts 3 = .ok (.invokevirtual 119, 3) := by decide +kernel
theorem dX10_lasts_6 : decode cX10_lasts 6 = .ok (.bipush (-9), 2) := by decide +kernel
theorem dX10_lasts_8 : decode cX10_lasts 8 = .ok (.istore_n 1, 1) := by decide +kernel
theorem dX10_lasts_9 : decode cX10_lasts 9 = .ok (.iconst 0, 1) := by decide +kernel
theorem dX10_lasts_10 : decode cX10_lasts 10 = .ok (.istore_n 2, 1) := by decide +kernel
theorem dX10_lasts_11 : decode cX10_lasts 11 = .ok (.iload_n 2, 1) := by decide +kernel
theorem dX10_lasts_12 : decode cX10_lasts 12 = .ok (.sipush 400, 3) := by decide +kernel
theorem dX10_lasts_15 : decode cX10_lasts 15 = .ok (.if_icmp .gt 27, 3) := by decide +kernel
theorem dX10_lasts_18 : decode cX10_lasts 18 = .ok (.iload_n 1, 1) := by decide +kernel
theorem dX10_lasts_19 : decode cX10_lasts 19 = .ok (.ifCond .ge 23, 3) := by decide +kernel
theorem dX10_lasts_22 : decode cX10_lasts 22 = .ok (.aload_n 0, 1) := by decide +kernel
theorem dX10_lasts_23 : decode cX10_lasts 23 = .ok (.invokevirtual 155, 3) := by decide +kernel
theorem dX10_lasts_26 : decode cX10_lasts 26 = .ok (.ifCond .ne 5, 3) := by decide +kernel
theorem dX10_lasts_29 : decode cX10_lasts 29 = .ok (.iload_n 2, 1) := by decide +kernel
theorem dX10_lasts_30 : decode cX10_lasts 30 = .ok (.istore_n 1, 1) := by decide +kernel
theorem dX10_lasts_31 : decode cX10_lasts 31 = .ok (.aload_n 0, 1) := by decide +kernel
theorem dX10_lasts_32 : decode cX10_lasts 32 = .ok (.invokevirtual 189, 3) := by decide +kernel
theorem dX10_lasts_35 : decode cX10_lasts 35 = .ok (.pop, 1) := by decide +kernel
theorem dX10_lasts_36 : decode cX10_lasts 36 = .ok (.iinc 2 1, 3) := by decide +kernel
theorem dX10_lasts_39 : decode cX10_lasts 39 = .ok (.goto (-28), 3) := by decide +kernel
theorem dX10_lasts_42 : decode cX10_lasts 42 = .ok (.aload_n 0, 1) := by decide +kernel
theorem dX10_lasts_43 : decode cX10_lasts 43 = .ok (.iconst 1, 1) := by decide +kernel
theorem dX10_lasts_44 : decode cX10_lasts 44 = .ok (.iconst 0, 1) := by decide +kernel
theorem dX10_lasts_45 : decode cX10_lasts 45 = .ok (.invokevirtual 119, 3) := by decide +kernel
theorem dX10_lasts_48 : decode cX10_lasts 48 = .ok (.iload_n 1, 1) := by decide +kernel
theorem dX10_lasts_49 : decode cX10_lasts 49 = .ok (.ireturn, 1) := by decide +kernel
theorem dX10_findNext_0 : decode cX10_findNext 0 = .ok (.aload_n 0, 1) := by decide +kernel
theorem dX10_findNext_1 : decode cX10_findNext 1 = .ok (.bipush (-9), 2) := by decide +kernel
theorem dX10_findNext_3 : decode cX10_findNext 3 = .ok (.putfield 221, 3) := by decide +kernel
theorem dX10_findNext_6 : decode cX10_findNext 6 = .ok (.aload_n 0, 1) := by decide +kernel
theorem dX10_findNext_7 : decode cX10_findNext 7 = .ok (.bipush (-9), 2) := by decide +kernel
theorem dX10_findNext_9 : decode cX10_findNext 9 = .ok (.putfield 224, 3) := by decide +kernel
theorem dX10_findNext_12 : decode cX10_findNext 12 = .ok (.aload_n 0, 1) := by decide +kernel
theorem dX10_findNext_13 : decode cX10_findNext 13 = .ok (.iconst 1, 1) := by decide +kernel
theorem dX10_findNext_14 : decode cX10_findNext 14 = .ok (.iconst 1, 1) := by decide +kernel
theorem dX10_findNext_15 : decode cX10_findNext 15 = .ok (.invokevirtual 119, 3) := by decide +kernel
theorem dX10_findNext_18 : decode cX10_findNext 18 = .ok (.iconst 0, 1) := by decide +kernel
theorem dX10_findNext_19 : decode cX10_findNext 19 = .ok (.istore_n 1, 1) := by decide +kernel
theorem dX10_findNext_20 : decode cX10_findNext 20 = .ok (.iconst 0, 1) := by decide +kernel
theorem dX10_findNext_21 : decode cX10_findNext 21 = .ok (.istore_n 2, 1) := by decide +kernel
theorem dX10_findNext_22 : decode cX10_findNext 22 = .ok (.iload_n 2, 1) := by decide +kernel
theorem dX10_findNext_23 : decode cX10_findNext 23 = .ok (.aload_n 0, 1) := by decide +kernel
theorem dX10_findNext_24 : decode cX10_findNext 24 = .ok (.getfield 72, 3) := by decide +kernel
theorem dX10_findNext_27 : decode cX10_findNext 27 = .ok (.if_icmp .ge 28, 3) := by decide +kernel
theorem dX10_findNext_30 : decode cX10_findNext 30 = .ok (.iload_n 1, 1) := by decide +kernel
theorem dX10_findNext_31 : decode cX10_findNext 31 = .ok (.aload_n 0, 1) := by decide +kernel
theorem dX10_findNext_32 : decode cX10_findNext 32 = .ok (.getfield 25, 3) := by decide +kernel
theorem dX10_findNext_35 : decode cX10_findNext 35 = .ok (.iload_n 2, 1) := by decide +kernel
theorem dX10_findNext_36 : decode cX10_findNext 36 = .ok (.iaload, 1) := by decide +kernel
theorem dX10_findNext_37 : decode cX10_findNext 37 = .ok (.ifCond .ne 9, 3) := by decide +kernel
theorem dX10_findNext_40 : decode cX10_findNext 40 = .ok (.iconst 1, 1) := by decide +kernel
theorem dX10_findNext_41 : decode cX10_findNext 41 = .ok (.iload_n 2, 1) := by decide +kernel
theorem dX10_findNext_42 : decode cX10_findNext 42 = .ok (.ishl, 1) := by decide +kernel
theorem dX10_findNext_43 : decode cX10_findNext 43 = .ok (.goto 4, 3) := by decide +kernel
theorem dX10_findNext_46 : decode cX10_findNext 46 = .ok (.iconst 0, 1) := by decide +kernel
theorem dX10_findNext_47 : decode cX10_findNext 47 = .ok (.ior, 1) := by decide +kernel
theorem dX10_findNext_48 : decode cX10_findNext 48 = .ok (.istore_n 1, 1) := by decide +kernel
theorem dX10_findNext_49 : decode cX10_findNext 49 = .ok (.iinc 2 1, 3) := by decide +kernel
theorem dX10_findNext_52 : decode cX10_findNext 52 = .ok (.goto (-30), 3) := by decide +kernel
theorem dX10_findNext_55 : decode cX10_findNext 55 = .ok (.iconst 1, 1) := by decide +kernel
theorem dX10_findNext_56 : decode cX10_findNext 56 = .ok (.istore_n 2, 1) := by decide +kernel
theorem dX10_findNext_57 : decode cX10_findNext 57 = .ok (.iload_n 2, 1) := by decide +kernel
theorem dX10_findNext_58 : decode cX10_findNext 58 = .ok (.sipush 400, 3) := by decide +kernel
theorem dX10_findNext_61 : decode cX10_findNext 61 = .ok (.if_icmp .gt 68, 3) := by decide +kernel
theorem dX10_findNext_64 : decode cX10_findNext 64 = .ok (.aload_n 0, 1) := by decide +kernel
theorem dX10_findNext_65 : decode cX10_findNext 65 = .ok (.getfield 221, 3) := by decide +kernel
theorem dX10_findNext_68 : decode cX10_findNext 68 = .ok (.ifCond .ge 61, 3) := by decide +kernel
theorem dX10_findNext_71 : decode cX10_findNext 71 = .ok (.aload_n 0, 1) := by decide +kernel
theorem dX10_findNext_72 : decode cX10_findNext 72 = .ok (.invokevirtual 189, 3) := by decide +kernel
theorem dX10_findNext_75 : decode cX10_findNext 75 = .ok (.pop, 1) := by decide +kernel
theorem dX10_findNext_76 : decode cX10_findNext 76 = .ok (.aload_n 0, 1) := by decide +kernel
theorem dX10_findNext_77 : decode cX10_findNext 77 = .ok (.getfield 72, 3) := by decide +kernel
theorem dX10_findNext_80 : decode cX10_findNext 80 = .ok (.iconst 1, 1) := by decide +kernel
theorem dX10_findNext_81 : decode cX10_findNext 81 = .ok (.isub, 1) := by decide +kernel
theorem dX10_findNext_82 : decode cX10_findNext 82 = .ok (.istore_n 3, 1) := by decide +kernel
theorem dX10_findNext_83 : decode cX10_findNext 83 = .ok (.iload_n 3, 1) := by decide +kernel
theorem dX10_findNext_84 : decode cX10_findNext 84 = .ok (.ifCond .lt 39, 3) := by decide +kernel
theorem dX10_findNext_87 : decode cX10_findNext 87 = .ok (.iload_n 1, 1) := by decide +kernel
theorem dX10_findNext_88 : decode cX10_findNext 88 = .ok (.iload_n 3, 1) := by decide +kernel
theorem dX10_findNext_89 : decode cX10_findNext 89 = .ok (.ishr, 1) := by decide +kernel
theorem dX10_findNext_90 : decode cX10_findNext 90 = .ok (.iconst 1, 1) := by decide +kernel
theorem dX10_findNext_91 : decode cX10_findNext 91 = .ok (.iand, 1) := by decide +kernel
theorem dX10_findNext_92 : decode cX10_findNext 92 = .ok (.ifCond .eq 25, 3) := by decide +kernel
theorem dX10_findNext_95 : decode cX10_findNext 95 = .ok (.aload_n 0, 1) := by decide +kernel
theorem dX10_findNext_96 : decode cX10_findNext 96 = .ok (.getfield 25, 3) := by decide +kernel
theorem dX10_findNext_99 : decode cX10_findNext 99 = .ok (.iload_n 3, 1) := by decide +kernel
theorem dX10_findNext_100 : decode cX10_findNext 100 = .ok (.iaload, 1) := by decide +kernel
theorem dX10_findNext_101 : decode cX10_findNext 101 = .ok (.ifCond .ne 6, 3) := by decide +kernel
theorem dX10_findNext_104 : decode cX10_findNext 104 = .ok (.goto 13, 3) := by decide +kernel
theorem dX10_findNext_107 : decode cX10_findNext 107 = .ok (.aload_n 0, 1) := by decide +kernel
theorem dX10_findNext_108 : decode cX10_findNext 108 = .ok (.iload_n 3, 1) := by decide +kernel
theorem dX10_findNext_109 : decode cX10_findNext 109 = .ok (.putfield 221, 3) := by decide +kernel
theorem dX10_findNext_112 : decode cX10_findNext 112 = .ok (.aload_n 0, 1) := by decide +kernel
theorem dX10_findNext_113 : decode cX10_findNext 113 = .ok (.iload_n 2, 1) := by decide +kernel
theorem dX10_findNext_114 : decode cX10_findNext 114 = .ok (.putfield 224, 3) := by decide +kernel
theorem dX10_findNext_117 : decode cX10_findNext 117 = .ok (.iinc 3 (-1), 3) := by decide +kernel
theorem dX10_findNext_120 : decode cX10_findNext 120 = .ok (.goto (-37), 3) := by decide +kernel
theorem dX10_findNext_123 : decode cX10_findNext 123 = .ok (.iinc 2 1, 3) := by decide +kernel
theorem dX10_findNext_126 : decode cX10_findNext 126 = .ok (.goto (-69), 3) := by decide +kernel
theorem dX10_findNext_129 : decode cX10_findNext 129 = .ok (.aload_n 0, 1) := by decide +kernel
theorem dX10_findNext_130 : decode cX10_findNext 130 = .ok (.iconst 1, 1) := by decide +kernel
theorem dX10_findNext_131 : decode cX10_findNext 131 = .ok (.iconst 0, 1) := by decide +kernel
theorem dX10_findNext_132 : decode cX10_findNext 132 = .ok (.invokevirtual 119, 3) := by decide +kernel
theorem dX10_findNext_135 : decode cX10_findNext 135 = .ok (.return_, 1) := by decide +kernel
theorem dX10_next_0 : decode cX10_next 0 = .ok (.iload_n 1, 1) := by decide +kernel
theorem dX10_next_1 : decode cX10_next 1 = .ok (.iconst 0, 1) := by decide +kernel
theorem dX10_next_2 : decode cX10_next 2 = .ok (.iconst 1, 1) := by decide +kernel
theorem dX10_next_3 : decode cX10_next 3 = .ok (.invokestatic 94, 3) := by decide +kernel
theorem dX10_next_6 : decode cX10_next 6 = .ok (.ifCond .ne 10, 3) := by decide +kernel
theorem dX10_next_9 : decode cX10_next 9 = .ok (.aload_n 0, 1) := by decide +kernel
theorem dX10_next_10 : decode cX10_next 10 = .ok (.bipush (-2), 2) := by decide +kernel
theorem dX10_next_12 : decode cX10_next 12 = .ok (.invokevirtual 83, 3) := by decide +kernel
theorem dX10_next_15 : decode cX10_next 15 = .ok (.ireturn, 1) := by decide +kernel
theorem dX10_next_16 : decode cX10_next 16 = .ok (.aload_n 0, 1) := by decide +kernel
theorem dX10_next_17 : decode cX10_next 17 = .ok (.invokevirtual 227, 3) := by decide +kernel
theorem dX10_next_20 : decode cX10_next 20 = .ok (.iload_n 1, 1) := by decide +kernel
theorem dX10_next_21 : decode cX10_next 21 = .ok (.ifCond .ne 10, 3) := by decide +kernel
theorem dX10_next_24 : decode cX10_next 24 = .ok (.aload_n 0, 1) := by decide +kernel
theorem dX10_next_25 : decode cX10_next 25 = .ok (.getfield 221, 3) := by decide +kernel
theorem dX10_next_28 : decode cX10_next 28 = .ok (.goto 7, 3) := by decide +kernel
theorem dX10_next_31 : decode cX10_next 31 = .ok (.aload_n 0, 1) := by decide +kernel
theorem dX10_next_32 : decode cX10_next 32 = .ok (.getfield 224, 3) := by decide +kernel
theorem dX10_next_35 : decode cX10_next 35 = .ok (.ireturn, 1) := by decide +kernel
theorem dX10_stateMany_0 : decode cX10_stateMany 0 = .ok (.iconst 0, 1) := by decide +kernel
theorem dX10_stateMany_1 : decode cX10_stateMany 1 = .ok (.istore_n 2, 1) := by decide +kernel
theorem dX10_stateMany_2 : decode cX10_stateMany 2 = .ok (.iconst 0, 1) := by decide +kernel
theorem dX10_stateMany_3 : decode cX10_stateMany 3 = .ok (.istore_n 3, 1) := by decide +kernel
theorem dX10_stateMany_4 : decode cX10_stateMany 4 = .ok (.iload_n 3, 1) := by decide +kernel
theorem dX10_stateMany_5 : decode cX10_stateMany 5 = .ok (.aload_n 0, 1) := by decide +kernel
theorem dX10_stateMany_6 : decode cX10_stateMany 6 = .ok (.getfield 72, 3) := by decide +kernel
theorem dX10_stateMany_9 : decode cX10_stateMany 9 = .ok (.if_icmp .ge 27, 3) := by decide +kernel
theorem dX10_stateMany_12 : decode cX10_stateMany 12 = .ok (.iload_n 2, 1) := by decide +kernel
theorem dX10_stateMany_13 : decode cX10_stateMany 13 = .ok (.aload_n 0, 1) := by decide +kernel
theorem dX10_stateMany_14 : decode cX10_stateMany 14 = .ok (.getfield 25, 3) := by decide +kernel
theorem dX10_stateMany_17 : decode cX10_stateMany 17 = .ok (.iload_n 3, 1) := by decide +kernel
theorem dX10_stateMany_18 : decode cX10_stateMany 18 = .ok (.iaload, 1) := by decide +kernel
theorem dX10_stateMany_19 : decode cX10_stateMany 19 = .ok (.iload_n 1, 1) := by decide +kernel
theorem dX10_stateMany_20 : decode cX10_stateMany 20 = .ok (.if_icmp .ne 7, 3) := by decide +kernel
theorem dX10_stateMany_23 : decode cX10_stateMany 23 = .ok (.iconst 1, 1) := by decide +kernel
theorem dX10_stateMany_24 : decode cX10_stateMany 24 = .ok (.goto 4, 3) := by decide +kernel
theorem dX10_stateMany_27 : decode cX10_stateMany 27 = .ok (.iconst 0, 1) := by decide +kernel
theorem dX10_stateMany_28 : decode cX10_stateMany 28 = .ok (.iadd, 1) := by decide +kernel
theorem dX10_stateMany_29 : decode cX10_stateMany 29 = .ok (.istore_n 2, 1) := by decide +kernel
theorem dX10_stateMany_30 : decode cX10_stateMany 30 = .ok (.iinc 3 1, 3) := by decide +kernel
theorem dX10_stateMany_33 : decode cX10_stateMany 33 = .ok (.goto (-29), 3) := by decide +kernel
theorem dX10_stateMany_36 : decode cX10_stateMany 36 = .ok (.iload_n 2, 1) := by decide +kernel
theorem dX10_stateMany_37 : decode cX10_stateMany 37 = .ok (.ireturn, 1) := by decide +kernel
theorem dX10_bridged_0 : decode cX10_bridged 0 = .ok (.iload_n 1, 1) := by decide +kernel
theorem dX10_bridged_1 : decode cX10_bridged 1 = .ok (.iconst 0, 1) := by decide +kernel
theorem dX10_bridged_2 : decode cX10_bridged 2 = .ok (.bipush 12, 2) := by decide +kernel
theorem dX10_bridged_4 : decode cX10_bridged 4 = .ok (.invokestatic 76, 3) := by decide +kernel
theorem dX10_bridged_7 : decode cX10_bridged 7 = .ok (.istore_n 2, 1) := by decide +kernel
theorem dX10_bridged_8 : decode cX10_bridged 8 = .ok (.iload_n 2, 1) := by decide +kernel
theorem dX10_bridged_9 : decode cX10_bridged 9 = .ok (.ifCond .eq 9, 3) := by decide +kernel
theorem dX10_bridged_12 : decode cX10_bridged 12 = .ok (.aload_n 0, 1) := by decide +kernel
theorem dX10_bridged_13 : decode cX10_bridged 13 = .ok (.iload_n 2, 1) := by decide +kernel
theorem dX10_bridged_14 : decode cX10_bridged 14 = .ok (.invokevirtual 83, 3) := by decide +kernel
theorem dX10_bridged_17 : decode cX10_bridged 17 = .ok (.ireturn, 1) := by decide +kernel
theorem dX10_bridged_18 : decode cX10_bridged 18 = .ok (.aload_n 0, 1) := by decide +kernel
theorem dX10_bridged_19 : decode cX10_bridged 19 = .ok (.iconst 1, 1) := by decide +kernel
theorem dX10_bridged_20 : decode cX10_bridged 20 = .ok (.iconst 1, 1) := by decide +kernel
theorem dX10_bridged_21 : decode cX10_bridged 21 = .ok (.invokevirtual 119, 3) := by decide +kernel
theorem dX10_bridged_24 : decode cX10_bridged 24 = .ok (.bipush (-9), 2) := by decide +kernel
theorem dX10_bridged_26 : decode cX10_bridged 26 = .ok (.istore_n 3, 1) := by decide +kernel
theorem dX10_bridged_27 : decode cX10_bridged 27 = .ok (.iconst 0, 1) := by decide +kernel
theorem dX10_bridged_28 : decode cX10_bridged 28 = .ok (.istore 4, 2) := by decide +kernel
theorem dX10_bridged_30 : decode cX10_bridged 30 = .ok (.iload 4, 2) := by decide +kernel
theorem dX10_bridged_32 : decode cX10_bridged 32 = .ok (.sipush 400, 3) := by decide +kernel
theorem dX10_bridged_35 : decode cX10_bridged 35 = .ok (.if_icmp .gt 30, 3) := by decide +kernel
theorem dX10_bridged_38 : decode cX10_bridged 38 = .ok (.iload_n 3, 1) := by decide +kernel
theorem dX10_bridged_39 : decode cX10_bridged 39 = .ok (.ifCond .ge 26, 3) := by decide +kernel
theorem dX10_bridged_42 : decode cX10_bridged 42 = .ok (.aload_n 0, 1) := by decide +kernel
theorem dX10_bridged_43 : decode cX10_bridged 43 = .ok (.iconst 2, 1) := by decide +kernel
theorem dX10_bridged_44 : decode cX10_bridged 44 = .ok (.invokevirtual 230, 3) := by decide +kernel
theorem dX10_bridged_47 : decode cX10_bridged 47 = .ok (.iload_n 1, 1) := by decide +kernel
theorem dX10_bridged_48 : decode cX10_bridged 48 = .ok (.if_icmp .lt 6, 3) := by decide +kernel
theorem dX10_bridged_51 : decode cX10_bridged 51 = .ok (.iload 4, 2) := by decide +kernel
theorem dX10_bridged_53 : decode cX10_bridged 53 = .ok (.istore_n 3, 1) := by decide +kernel
theorem dX10_bridged_54 : decode cX10_bridged 54 = .ok (.aload_n 0, 1) := by decide +kernel
theorem dX10_bridged_55 : decode cX10_bridged 55 = .ok (.invokevirtual 189, 3) := by decide +kernel
theorem dX10_bridged_58 : decode cX10_bridged 58 = .ok (.pop, 1) := by decide +kernel
theorem dX10_bridged_59 : decode cX10_bridged 59 = .ok (.iinc 4 1, 3) := by decide +kernel
theorem dX10_bridged_62 : decode cX10_bridged 62 = .ok (.goto (-32), 3) := by decide +kernel
theorem dX10_bridged_65 : decode cX10_bridged 65 = .ok (.aload_n 0, 1) := by decide +kernel
theorem dX10_bridged_66 : decode cX10_bridged 66 = .ok (.iconst 1, 1) := by decide +kernel
theorem dX10_bridged_67 : decode cX10_bridged 67 = .ok (.iconst 0, 1) := by decide +kernel
theorem dX10_bridged_68 : decode cX10_bridged 68 = .ok (.invokevirtual 119, 3) := by decide +kernel
theorem dX10_bridged_71 : decode cX10_bridged 71 = .ok (.iload_n 3, 1) := by decide +kernel
theorem dX10_bridged_72 : decode cX10_bridged 72 = .ok (.ireturn, 1) := by decide +kernel
theorem dX10_stop_0 : decode cX10_stop 0 = .ok (.aload_n 0, 1) := by decide +kernel
theorem dX10_stop_1 : decode cX10_stop 1 = .ok (.getfield 72, 3) := by decide +kernel
theorem dX10_stop_4 : decode cX10_stop 4 = .ok (.ifCond .ne 10, 3) := by decide +kernel
theorem dX10_stop_7 : decode cX10_stop 7 = .ok (.aload_n 0, 1) := by decide +kernel
theorem dX10_stop_8 : decode cX10_stop 8 = .ok (.bipush (-3), 2) := by decide +kernel
theorem dX10_stop_10 : decode cX10_stop 10 = .ok (.invokevirtual 83, 3) := by decide +kernel
theorem dX10_stop_13 : decode cX10_stop 13 = .ok (.ireturn, 1) := by decide +kernel
theorem dX10_stop_14 : decode cX10_stop 14 = .ok (.iconst 0, 1) := by decide +kernel
theorem dX10_stop_15 : decode cX10_stop 15 = .ok (.istore_n 1, 1) := by decide +kernel
theorem dX10_stop_16 : decode cX10_stop 16 = .ok (.iload_n 1, 1) := by decide +kernel
theorem dX10_stop_17 : decode cX10_stop 17 = .ok (.aload_n 0, 1) := by decide +kernel
theorem dX10_stop_18 : decode cX10_stop 18 = .ok (.getfield 72, 3) := by decide +kernel
theorem dX10_stop_21 : decode cX10_stop 21 = .ok (.if_icmp .ge 45, 3) := by decide +kernel
theorem dX10_stop_24 : decode cX10_stop 24 = .ok (.sipush 9999, 3) := by decide +kernel
theorem dX10_stop_27 : decode cX10_stop 27 = .ok (.bipush 100, 2) := by decide +kernel
theorem dX10_stop_29 : decode cX10_stop 29 = .ok (.aload_n 0, 1) := by decide +kernel
theorem dX10_stop_30 : decode cX10_stop 30 = .ok (.getfield 28, 3) := by decide +kernel
theorem dX10_stop_33 : decode cX10_stop 33 = .ok (.iconst 0, 1) := by decide +kernel
theorem dX10_stop_34 : decode cX10_stop 34 = .ok (.iaload, 1) := by decide +kernel
theorem dX10_stop_35 : decode cX10_stop 35 = .ok (.imul, 1) := by decide +kernel
theorem dX10_stop_36 : decode cX10_stop 36 = .ok (.bipush 10, 2) := by decide +kernel
theorem dX10_stop_38 : decode cX10_stop 38 = .ok (.aload_n 0, 1) := by decide +kernel
theorem dX10_stop_39 : decode cX10_stop 39 = .ok (.getfield 72, 3) := by decide +kernel
theorem dX10_stop_42 : decode cX10_stop 42 = .ok (.iload_n 1, 1) := by decide +kernel
theorem dX10_stop_43 : decode cX10_stop 43 = .ok (.isub, 1) := by decide +kernel
theorem dX10_stop_44 : decode cX10_stop 44 = .ok (.imul, 1) := by decide +kernel
theorem dX10_stop_45 : decode cX10_stop 45 = .ok (.idiv, 1) := by decide +kernel
theorem dX10_stop_46 : decode cX10_stop 46 = .ok (.invokestatic 158, 3) := by decide +kernel
theorem dX10_stop_49 : decode cX10_stop 49 = .ok (.aload_n 0, 1) := by decide +kernel
theorem dX10_stop_50 : decode cX10_stop 50 = .ok (.getfield 28, 3) := by decide +kernel
theorem dX10_stop_53 : decode cX10_stop 53 = .ok (.iconst 2, 1) := by decide +kernel
theorem dX10_stop_54 : decode cX10_stop 54 = .ok (.iaload, 1) := by decide +kernel
theorem dX10_stop_55 : decode cX10_stop 55 = .ok (.if_icmp .le 5, 3) := by decide +kernel
theorem dX10_stop_58 : decode cX10_stop 58 = .ok (.iload_n 1, 1) := by decide +kernel
theorem dX10_stop_59 : decode cX10_stop 59 = .ok (.ireturn, 1) := by decide +kernel
theorem dX10_stop_60 : decode cX10_stop 60 = .ok (.iinc 1 1, 3) := by decide +kernel
theorem dX10_stop_63 : decode cX10_stop 63 = .ok (.goto (-47), 3) := by decide +kernel
theorem dX10_stop_66 : decode cX10_stop 66 = .ok (.bipush (-9), 2) := by decide +kernel
theorem dX10_stop_68 : decode cX10_stop 68 = .ok (.ireturn, 1) := by decide +kernel
theorem dX10_light_0 : decode cX10_light 0 = .ok (.iload_n 1, 1) := by decide +kernel
theorem dX10_light_1 : decode cX10_light 1 = .ok (.iconst 0, 1) := by decide +kernel
theorem dX10_light_2 : decode cX10_light 2 = .ok (.sipush 200, 3) := by decide +kernel
theorem dX10_light_5 : decode cX10_light 5 = .ok (.invokestatic 76, 3) := by decide +kernel
theorem dX10_light_8 : decode cX10_light 8 = .ok (.istore_n 2, 1) := by decide +kernel
theorem dX10_light_9 : decode cX10_light 9 = .ok (.iload_n 2, 1) := by decide +kernel
theorem dX10_light_10 : decode cX10_light 10 = .ok (.ifCond .eq 9, 3) := by decide +kernel
theorem dX10_light_13 : decode cX10_light 13 = .ok (.aload_n 0, 1) := by decide +kernel
theorem dX10_light_14 : decode cX10_light 14 = .ok (.iload_n 2, 1) := by decide +kernel
theorem dX10_light_15 : decode cX10_light 15 = .ok (.invokevirtual 83, 3) := by decide +kernel
theorem dX10_light_18 : decode cX10_light 18 = .ok (.ireturn, 1) := by decide +kernel
theorem dX10_light_19 : decode cX10_light 19 = .ok (.aload_n 0, 1) := by decide +kernel
theorem dX10_light_20 : decode cX10_light 20 = .ok (.iconst 1, 1) := by decide +kernel
theorem dX10_light_21 : decode cX10_light 21 = .ok (.iconst 1, 1) := by decide +kernel
theorem dX10_light_22 : decode cX10_light 22 = .ok (.invokevirtual 119, 3) := by decide +kernel
theorem dX10_light_25 : decode cX10_light 25 = .ok (.iconst 0, 1) := by decide +kernel
theorem dX10_light_26 : decode cX10_light 26 = .ok (.istore_n 3, 1) := by decide +kernel
theorem dX10_light_27 : decode cX10_light 27 = .ok (.iconst 0, 1) := by decide +kernel
theorem dX10_light_28 : decode cX10_light 28 = .ok (.istore 4, 2) := by decide +kernel
theorem dX10_light_30 : decode cX10_light 30 = .ok (.iload 4, 2) := by decide +kernel
theorem dX10_light_32 : decode cX10_light 32 = .ok (.iload_n 1, 1) := by decide +kernel
theorem dX10_light_33 : decode cX10_light 33 = .ok (.if_icmp .ge 49, 3) := by decide +kernel
theorem dX10_light_36 : decode cX10_light 36 = .ok (.aload_n 0, 1) := by decide +kernel
theorem dX10_light_37 : decode cX10_light 37 = .ok (.invokevirtual 168, 3) := by decide +kernel
theorem dX10_light_40 : decode cX10_light 40 = .ok (.istore 5, 2) := by decide +kernel
theorem dX10_light_42 : decode cX10_light 42 = .ok (.iconst 0, 1) := by decide +kernel
theorem dX10_light_43 : decode cX10_light 43 = .ok (.istore 6, 2) := by decide +kernel
theorem dX10_light_45 : decode cX10_light 45 = .ok (.iload 6, 2) := by decide +kernel
theorem dX10_light_47 : decode cX10_light 47 = .ok (.aload_n 0, 1) := by decide +kernel
theorem dX10_light_48 : decode cX10_light 48 = .ok (.getfield 72, 3) := by decide +kernel
theorem dX10_light_51 : decode cX10_light 51 = .ok (.if_icmp .ge 20, 3) := by decide +kernel
theorem dX10_light_54 : decode cX10_light 54 = .ok (.iload_n 3, 1) := by decide +kernel
theorem dX10_light_55 : decode cX10_light 55 = .ok (.aload_n 0, 1) := by decide +kernel
theorem dX10_light_56 : decode cX10_light 56 = .ok (.iload 6, 2) := by decide +kernel
theorem dX10_light_58 : decode cX10_light 58 = .ok (.iload 5, 2) := by decide +kernel
theorem dX10_light_60 : decode cX10_light 60 = .ok (.invokevirtual 171, 3) := by decide +kernel
theorem dX10_light_63 : decode cX10_light 63 = .ok (.iadd, 1) := by decide +kernel
theorem dX10_light_64 : decode cX10_light 64 = .ok (.istore_n 3, 1) := by decide +kernel
theorem dX10_light_65 : decode cX10_light 65 = .ok (.iinc 6 1, 3) := by decide +kernel
theorem dX10_light_68 : decode cX10_light 68 = .ok (.goto (-23), 3) := by decide +kernel
theorem dX10_light_71 : decode cX10_light 71 = .ok (.aload_n 0, 1) := by decide +kernel
theorem dX10_light_72 : decode cX10_light 72 = .ok (.invokevirtual 189, 3) := by decide +kernel
theorem dX10_light_75 : decode cX10_light 75 = .ok (.pop, 1) := by decide +kernel
theorem dX10_light_76 : decode cX10_light 76 = .ok (.iinc 4 1, 3) := by decide +kernel
theorem dX10_light_79 : decode cX10_light 79 = .ok (.goto (-49), 3) := by decide +kernel
theorem dX10_light_82 : decode cX10_light 82 = .ok (.aload_n 0, 1) := by decide +kernel
theorem dX10_light_83 : decode cX10_light 83 = .ok (.iconst 1, 1) := by decide +kernel
theorem dX10_light_84 : decode cX10_light 84 = .ok (.iconst 0, 1) := by decide +kernel
theorem dX10_light_85 : decode cX10_light 85 = .ok (.invokevirtual 119, 3) := by decide +kernel
theorem dX10_light_88 : decode cX10_light 88 = .ok (.iload_n 3, 1) := by decide +kernel
theorem dX10_light_89 : decode cX10_light 89 = .ok (.ireturn, 1) := by decide +kernel
theorem dX10_keeps_0 : decode cX10_keeps 0 = .ok (.iload_n 1, 1) := by decide +kernel
theorem dX10_keeps_1 : decode cX10_keeps 1 = .ok (.iconst 1, 1) := by decide +kernel
theorem dX10_keeps_2 : decode cX10_keeps 2 = .ok (.sipush 200, 3) := by decide +kernel
theorem dX10_keeps_5 : decode cX10_keeps 5 = .ok (.invokestatic 76, 3) := by decide +kernel
theorem dX10_keeps_8 : decode cX10_keeps 8 = .ok (.istore_n 2, 1) := by decide +kernel
theorem dX10_keeps_9 : decode cX10_keeps 9 = .ok (.iload_n 2, 1) := by decide +kernel
theorem dX10_keeps_10 : decode cX10_keeps 10 = .ok (.ifCond .eq 9, 3) := by decide +kernel
theorem dX10_keeps_13 : decode cX10_keeps 13 = .ok (.aload_n 0, 1) := by decide +kernel
theorem dX10_keeps_14 : decode cX10_keeps 14 = .ok (.iload_n 2, 1) := by decide +kernel
theorem dX10_keeps_15 : decode cX10_keeps 15 = .ok (.invokevirtual 83, 3) := by decide +kernel
theorem dX10_keeps_18 : decode cX10_keeps 18 = .ok (.ireturn, 1) := by decide +kernel
theorem dX10_keeps_19 : decode cX10_keeps 19 = .ok (.aload_n 0, 1) := by decide +kernel
theorem dX10_keeps_20 : decode cX10_keeps 20 = .ok (.iconst 1, 1) := by decide +kernel
theorem dX10_keeps_21 : decode cX10_keeps 21 = .ok (.iconst 1, 1) := by decide +kernel
theorem dX10_keeps_22 : decode cX10_keeps 22 = .ok (.invokevirtual 119, 3) := by decide +kernel
theorem dX10_keeps_25 : decode cX10_keeps 25 = .ok (.iconst 0, 1) := by decide +kernel
theorem dX10_keeps_26 : decode cX10_keeps 26 = .ok (.istore_n 3, 1) := by decide +kernel
theorem dX10_keeps_27 : decode cX10_keeps 27 = .ok (.iconst 0, 1) := by decide +kernel
theorem dX10_keeps_28 : decode cX10_keeps 28 = .ok (.istore 4, 2) := by decide +kernel
theorem dX10_keeps_30 : decode cX10_keeps 30 = .ok (.iload 4, 2) := by decide +kernel
theorem dX10_keeps_32 : decode cX10_keeps 32 = .ok (.iload_n 1, 1) := by decide +kernel
theorem dX10_keeps_33 : decode cX10_keeps 33 = .ok (.if_icmp .ge 54, 3) := by decide +kernel
theorem dX10_keeps_36 : decode cX10_keeps 36 = .ok (.iconst 0, 1) := by decide +kernel
theorem dX10_keeps_37 : decode cX10_keeps 37 = .ok (.istore 5, 2) := by decide +kernel
theorem dX10_keeps_39 : decode cX10_keeps 39 = .ok (.iload 5, 2) := by decide +kernel
theorem dX10_keeps_41 : decode cX10_keeps 41 = .ok (.aload_n 0, 1) := by decide +kernel
theorem dX10_keeps_42 : decode cX10_keeps 42 = .ok (.getfield 72, 3) := by decide +kernel
theorem dX10_keeps_45 : decode cX10_keeps 45 = .ok (.if_icmp .ge 31, 3) := by decide +kernel
theorem dX10_keeps_48 : decode cX10_keeps 48 = .ok (.aload_n 0, 1) := by decide +kernel
theorem dX10_keeps_49 : decode cX10_keeps 49 = .ok (.getfield 25, 3) := by decide +kernel
theorem dX10_keeps_52 : decode cX10_keeps 52 = .ok (.iload 5, 2) := by decide +kernel
theorem dX10_keeps_54 : decode cX10_keeps 54 = .ok (.iaload, 1) := by decide +kernel
theorem dX10_keeps_55 : decode cX10_keeps 55 = .ok (.ifCond .ne 6, 3) := by decide +kernel
theorem dX10_keeps_58 : decode cX10_keeps 58 = .ok (.goto 12, 3) := by decide +kernel
theorem dX10_keeps_61 : decode cX10_keeps 61 = .ok (.aload_n 0, 1) := by decide +kernel
theorem dX10_keeps_62 : decode cX10_keeps 62 = .ok (.iload 5, 2) := by decide +kernel
theorem dX10_keeps_64 : decode cX10_keeps 64 = .ok (.invokevirtual 192, 3) := by decide +kernel
theorem dX10_keeps_67 : decode cX10_keeps 67 = .ok (.iinc 3 1, 3) := by decide +kernel
theorem dX10_keeps_70 : decode cX10_keeps 70 = .ok (.iinc 5 1, 3) := by decide +kernel
theorem dX10_keeps_73 : decode cX10_keeps 73 = .ok (.goto (-34), 3) := by decide +kernel
theorem dX10_keeps_76 : decode cX10_keeps 76 = .ok (.aload_n 0, 1) := by decide +kernel
theorem dX10_keeps_77 : decode cX10_keeps 77 = .ok (.invokevirtual 189, 3) := by decide +kernel
theorem dX10_keeps_80 : decode cX10_keeps 80 = .ok (.pop, 1) := by decide +kernel
theorem dX10_keeps_81 : decode cX10_keeps 81 = .ok (.iinc 4 1, 3) := by decide +kernel
theorem dX10_keeps_84 : decode cX10_keeps 84 = .ok (.goto (-54), 3) := by decide +kernel
theorem dX10_keeps_87 : decode cX10_keeps 87 = .ok (.aload_n 0, 1) := by decide +kernel
theorem dX10_keeps_88 : decode cX10_keeps 88 = .ok (.iconst 1, 1) := by decide +kernel
theorem dX10_keeps_89 : decode cX10_keeps 89 = .ok (.iconst 0, 1) := by decide +kernel
theorem dX10_keeps_90 : decode cX10_keeps 90 = .ok (.invokevirtual 119, 3) := by decide +kernel
theorem dX10_keeps_93 : decode cX10_keeps 93 = .ok (.iload_n 3, 1) := by decide +kernel
theorem dX10_keeps_94 : decode cX10_keeps 94 = .ok (.ireturn, 1) := by decide +kernel
theorem dX10_isLiveBy_0 : decode cX10_isLiveBy 0 = .ok (.aload_n 0, 1) := by decide +kernel
theorem dX10_isLiveBy_1 : decode cX10_isLiveBy 1 = .ok (.iconst 1, 1) := by decide +kernel
theorem dX10_isLiveBy_2 : decode cX10_isLiveBy 2 = .ok (.iconst 1, 1) := by decide +kernel
theorem dX10_isLiveBy_3 : decode cX10_isLiveBy 3 = .ok (.invokevirtual 119, 3) := by decide +kernel
theorem dX10_isLiveBy_6 : decode cX10_isLiveBy 6 = .ok (.iconst 1, 1) := by decide +kernel
theorem dX10_isLiveBy_7 : decode cX10_isLiveBy 7 = .ok (.istore_n 2, 1) := by decide +kernel
theorem dX10_isLiveBy_8 : decode cX10_isLiveBy 8 = .ok (.iconst 0, 1) := by decide +kernel
theorem dX10_isLiveBy_9 : decode cX10_isLiveBy 9 = .ok (.istore_n 3, 1) := by decide +kernel
theorem dX10_isLiveBy_10 : decode cX10_isLiveBy 10 = .ok (.iload_n 3, 1) := by decide +kernel
theorem dX10_isLiveBy_11 : decode cX10_isLiveBy 11 = .ok (.bipush 60, 2) := by decide +kernel
theorem dX10_isLiveBy_13 : decode cX10_isLiveBy 13 = .ok (.if_icmp .ge 53, 3) := by decide +kernel
theorem dX10_isLiveBy_16 : decode cX10_isLiveBy 16 = .ok (.iload_n 2, 1) := by decide +kernel
theorem dX10_isLiveBy_17 : decode cX10_isLiveBy 17 = .ok (.ifCond .eq 49, 3) := by decide +kernel
theorem dX10_isLiveBy_20 : decode cX10_isLiveBy 20 = .ok (.iconst 0, 1) := by decide +kernel
theorem dX10_isLiveBy_21 : decode cX10_isLiveBy 21 = .ok (.istore 4, 2) := by decide +kernel
theorem dX10_isLiveBy_23 : decode cX10_isLiveBy 23 = .ok (.iload 4, 2) := by decide +kernel
theorem dX10_isLiveBy_25 : decode cX10_isLiveBy 25 = .ok (.aload_n 0, 1) := by decide +kernel
theorem dX10_isLiveBy_26 : decode cX10_isLiveBy 26 = .ok (.getfield 72, 3) := by decide +kernel
theorem dX10_isLiveBy_29 : decode cX10_isLiveBy 29 = .ok (.if_icmp .ge 21, 3) := by decide +kernel
theorem dX10_isLiveBy_32 : decode cX10_isLiveBy 32 = .ok (.iload_n 3, 1) := by decide +kernel
theorem dX10_isLiveBy_33 : decode cX10_isLiveBy 33 = .ok (.iload_n 1, 1) := by decide +kernel
theorem dX10_isLiveBy_34 : decode cX10_isLiveBy 34 = .ok (.irem, 1) := by decide +kernel
theorem dX10_isLiveBy_35 : decode cX10_isLiveBy 35 = .ok (.ifCond .ne 15, 3) := by decide +kernel
theorem dX10_isLiveBy_38 : decode cX10_isLiveBy 38 = .ok (.aload_n 0, 1) := by decide +kernel
theorem dX10_isLiveBy_39 : decode cX10_isLiveBy 39 = .ok (.iload 4, 2) := by decide +kernel
theorem dX10_isLiveBy_41 : decode cX10_isLiveBy 41 = .ok (.invokevirtual 192, 3) := by decide +kernel
theorem dX10_isLiveBy_44 : decode cX10_isLiveBy 44 = .ok (.iinc 4 1, 3) := by decide +kernel
theorem dX10_isLiveBy_47 : decode cX10_isLiveBy 47 = .ok (.goto (-24), 3) := by decide +kernel
theorem dX10_isLiveBy_50 : decode cX10_isLiveBy 50 = .ok (.aload_n 0, 1) := by decide +kernel
theorem dX10_isLiveBy_51 : decode cX10_isLiveBy 51 = .ok (.invokevirtual 155, 3) := by decide +kernel
theorem dX10_isLiveBy_54 : decode cX10_isLiveBy 54 = .ok (.istore_n 2, 1) := by decide +kernel
theorem dX10_isLiveBy_55 : decode cX10_isLiveBy 55 = .ok (.aload_n 0, 1) := by decide +kernel
theorem dX10_isLiveBy_56 : decode cX10_isLiveBy 56 = .ok (.invokevirtual 189, 3) := by decide +kernel
theorem dX10_isLiveBy_59 : decode cX10_isLiveBy 59 = .ok (.pop, 1) := by decide +kernel
theorem dX10_isLiveBy_60 : decode cX10_isLiveBy 60 = .ok (.iinc 3 1, 3) := by decide +kernel
theorem dX10_isLiveBy_63 : decode cX10_isLiveBy 63 = .ok (.goto (-53), 3) := by decide +kernel
theorem dX10_isLiveBy_66 : decode cX10_isLiveBy 66 = .ok (.aload_n 0, 1) := by decide +kernel
theorem dX10_isLiveBy_67 : decode cX10_isLiveBy 67 = .ok (.iconst 1, 1) := by decide +kernel
theorem dX10_isLiveBy_68 : decode cX10_isLiveBy 68 = .ok (.iconst 0, 1) := by decide +kernel
theorem dX10_isLiveBy_69 : decode cX10_isLiveBy 69 = .ok (.invokevirtual 119, 3) := by decide +kernel
theorem dX10_isLiveBy_72 : decode cX10_isLiveBy 72 = .ok (.iload_n 2, 1) := by decide +kernel
theorem dX10_isLiveBy_73 : decode cX10_isLiveBy 73 = .ok (.ireturn, 1) := by decide +kernel
theorem dX10_allAnew_0 : decode cX10_allAnew 0 = .ok (.aload_n 0, 1) := by decide +kernel
theorem dX10_allAnew_1 : decode cX10_allAnew 1 = .ok (.getfield 72, 3) := by decide +kernel
theorem dX10_allAnew_4 : decode cX10_allAnew 4 = .ok (.ifCond .ne 10, 3) := by decide +kernel
theorem dX10_allAnew_7 : decode cX10_allAnew 7 = .ok (.aload_n 0, 1) := by decide +kernel
theorem dX10_allAnew_8 : decode cX10_allAnew 8 = .ok (.bipush (-3), 2) := by decide +kernel
theorem dX10_allAnew_10 : decode cX10_allAnew 10 = .ok (.invokevirtual 83, 3) := by decide +kernel
theorem dX10_allAnew_13 : decode cX10_allAnew 13 = .ok (.ireturn, 1) := by decide +kernel
theorem dX10_allAnew_14 : decode cX10_allAnew 14 = .ok (.bipush 50, 2) := by decide +kernel
theorem dX10_allAnew_16 : decode cX10_allAnew 16 = .ok (.istore_n 1, 1) := by decide +kernel
theorem dX10_allAnew_17 : decode cX10_allAnew 17 = .ok (.iload_n 1, 1) := by decide +kernel
theorem dX10_allAnew_18 : decode cX10_allAnew 18 = .ok (.ifCond .le 19, 3) := by decide +kernel
theorem dX10_allAnew_21 : decode cX10_allAnew 21 = .ok (.aload_n 0, 1) := by decide +kernel
theorem dX10_allAnew_22 : decode cX10_allAnew 22 = .ok (.iload_n 1, 1) := by decide +kernel
theorem dX10_allAnew_23 : decode cX10_allAnew 23 = .ok (.invokevirtual 233, 3) := by decide +kernel
theorem dX10_allAnew_26 : decode cX10_allAnew 26 = .ok (.ifCond .eq 5, 3) := by decide +kernel
theorem dX10_allAnew_29 : decode cX10_allAnew 29 = .ok (.iload_n 1, 1) := by decide +kernel
theorem dX10_allAnew_30 : decode cX10_allAnew 30 = .ok (.ireturn, 1) := by decide +kernel
theorem dX10_allAnew_31 : decode cX10_allAnew 31 = .ok (.iinc 1 (-1), 3) := by decide +kernel
theorem dX10_allAnew_34 : decode cX10_allAnew 34 = .ok (.goto (-17), 3) := by decide +kernel
theorem dX10_allAnew_37 : decode cX10_allAnew 37 = .ok (.bipush (-9), 2) := by decide +kernel
theorem dX10_allAnew_39 : decode cX10_allAnew 39 = .ok (.ireturn, 1) := by decide +kernel
theorem dX10_joined_0 : decode cX10_joined 0 = .ok (.aload_n 0, 1) := by decide +kernel
theorem dX10_joined_1 : decode cX10_joined 1 = .ok (.invokevirtual 168, 3) := by decide +kernel
theorem dX10_joined_4 : decode cX10_joined 4 = .ok (.bipush 10, 2) := by decide +kernel
theorem dX10_joined_6 : decode cX10_joined 6 = .ok (.idiv, 1) := by decide +kernel
theorem dX10_joined_7 : decode cX10_joined 7 = .ok (.istore_n 1, 1) := by decide +kernel
theorem dX10_joined_8 : decode cX10_joined 8 = .ok (.aload_n 0, 1) := by decide +kernel
theorem dX10_joined_9 : decode cX10_joined 9 = .ok (.invokevirtual 155, 3) := by decide +kernel
theorem dX10_joined_12 : decode cX10_joined 12 = .ok (.ifCond .eq 23, 3) := by decide +kernel
theorem dX10_joined_15 : decode cX10_joined 15 = .ok (.aload_n 0, 1) := by decide +kernel
theorem dX10_joined_16 : decode cX10_joined 16 = .ok (.getfield 28, 3) := by decide +kernel
theorem dX10_joined_19 : decode cX10_joined 19 = .ok (.iconst 2, 1) := by decide +kernel
theorem dX10_joined_20 : decode cX10_joined 20 = .ok (.iaload, 1) := by decide +kernel
theorem dX10_joined_21 : decode cX10_joined 21 = .ok (.iload_n 1, 1) := by decide +kernel
theorem dX10_joined_22 : decode cX10_joined 22 = .ok (.iconst 1, 1) := by decide +kernel
theorem dX10_joined_23 : decode cX10_joined 23 = .ok (.if_icmp .ge 7, 3) := by decide +kernel
theorem dX10_joined_26 : decode cX10_joined 26 = .ok (.iconst 1, 1) := by decide +kernel
theorem dX10_joined_27 : decode cX10_joined 27 = .ok (.goto 4, 3) := by decide +kernel
theorem dX10_joined_30 : decode cX10_joined 30 = .ok (.iload_n 1, 1) := by decide +kernel
theorem dX10_joined_31 : decode cX10_joined 31 = .ok (.idiv, 1) := by decide +kernel
theorem dX10_joined_32 : decode cX10_joined 32 = .ok (.goto 4, 3) := by decide +kernel
theorem dX10_joined_35 : decode cX10_joined 35 = .ok (.iconst 0, 1) := by decide +kernel
theorem dX10_joined_36 : decode cX10_joined 36 = .ok (.ireturn, 1) := by decide +kernel
theorem dX10_divisor_0 : decode cX10_divisor 0 = .ok (.lload_n 0, 1) := by decide +kernel
theorem dX10_divisor_1 : decode cX10_divisor 1 = .ok (.lstore 4, 2) := by decide +kernel
theorem dX10_divisor_3 : decode cX10_divisor 3 = .ok (.lload_n 2, 1) := by decide +kernel
theorem dX10_divisor_4 : decode cX10_divisor 4 = .ok (.lstore 6, 2) := by decide +kernel
theorem dX10_divisor_6 : decode cX10_divisor 6 = .ok (.lload 6, 2) := by decide +kernel
theorem dX10_divisor_8 : decode cX10_divisor 8 = .ok (.lconst 0, 1) := by decide +kernel
theorem dX10_divisor_9 : decode cX10_divisor 9 = .ok (.lcmp, 1) := by decide +kernel
theorem dX10_divisor_10 : decode cX10_divisor 10 = .ok (.ifCond .eq 21, 3) := by decide +kernel
theorem dX10_divisor_13 : decode cX10_divisor 13 = .ok (.lload 4, 2) := by decide +kernel
theorem dX10_divisor_15 : decode cX10_divisor 15 = .ok (.lload 6, 2) := by decide +kernel
theorem dX10_divisor_17 : decode cX10_divisor 17 = .ok (.lrem, 1) := by decide +kernel
theorem dX10_divisor_18 : decode cX10_divisor 18 = .ok (.lstore 8, 2) := by decide +kernel
theorem dX10_divisor_20 : decode cX10_divisor 20 = .ok (.lload 6, 2) := by decide +kernel
theorem dX10_divisor_22 : decode cX10_divisor 22 = .ok (.lstore 4, 2) := by decide +kernel
theorem dX10_divisor_24 : decode cX10_divisor 24 = .ok (.lload 8, 2) := by decide +kernel
theorem dX10_divisor_26 : decode cX10_divisor 26 = .ok (.lstore 6, 2) := by decide +kernel
theorem dX10_divisor_28 : decode cX10_divisor 28 = .ok (.goto (-22), 3) := by decide +kernel
theorem dX10_divisor_31 : decode cX10_divisor 31 = .ok (.lload 4, 2) := by decide +kernel
theorem dX10_divisor_33 : decode cX10_divisor 33 = .ok (.lreturn, 1) := by decide +kernel
theorem dX10_two_0 : decode cX10_two 0 = .ok (.iload_n 1, 1) := by decide +kernel
theorem dX10_two_1 : decode cX10_two 1 = .ok (.iconst 0, 1) := by decide +kernel
theorem dX10_two_2 : decode cX10_two 2 = .ok (.iconst 1, 1) := by decide +kernel
theorem dX10_two_3 : decode cX10_two 3 = .ok (.invokestatic 94, 3) := by decide +kernel
theorem dX10_two_6 : decode cX10_two 6 = .ok (.ifCond .ne 10, 3) := by decide +kernel
theorem dX10_two_9 : decode cX10_two 9 = .ok (.aload_n 0, 1) := by decide +kernel
theorem dX10_two_10 : decode cX10_two 10 = .ok (.bipush (-2), 2) := by decide +kernel
theorem dX10_two_12 : decode cX10_two 12 = .ok (.invokevirtual 236, 3) := by decide +kernel
theorem dX10_two_15 : decode cX10_two 15 = .ok (.lreturn, 1) := by decide +kernel
theorem dX10_two_16 : decode cX10_two 16 = .ok (.aload_n 0, 1) := by decide +kernel
theorem dX10_two_17 : decode cX10_two 17 = .ok (.getfield 72, 3) := by decide +kernel
theorem dX10_two_20 : decode cX10_two 20 = .ok (.ifCond .ne 10, 3) := by decide +kernel
theorem dX10_two_23 : decode cX10_two 23 = .ok (.aload_n 0, 1) := by decide +kernel
theorem dX10_two_24 : decode cX10_two 24 = .ok (.bipush (-3), 2) := by decide +kernel
theorem dX10_two_26 : decode cX10_two 26 = .ok (.invokevirtual 236, 3) := by decide +kernel
theorem dX10_two_29 : decode cX10_two 29 = .ok (.lreturn, 1) := by decide +kernel
theorem dX10_two_30 : decode cX10_two 30 = .ok (.aload_n 0, 1) := by decide +kernel
theorem dX10_two_31 : decode cX10_two 31 = .ok (.getfield 72, 3) := by decide +kernel
theorem dX10_two_34 : decode cX10_two 34 = .ok (.bipush 8, 2) := by decide +kernel
theorem dX10_two_36 : decode cX10_two 36 = .ok (.if_icmp .le 10, 3) := by decide +kernel
theorem dX10_two_39 : decode cX10_two 39 = .ok (.aload_n 0, 1) := by decide +kernel
theorem dX10_two_40 : decode cX10_two 40 = .ok (.bipush (-6), 2) := by decide +kernel
theorem dX10_two_42 : decode cX10_two 42 = .ok (.invokevirtual 236, 3) := by decide +kernel
theorem dX10_two_45 : decode cX10_two 45 = .ok (.lreturn, 1) := by decide +kernel
theorem dX10_two_46 : decode cX10_two 46 = .ok (.lconst 1, 1) := by decide +kernel
theorem dX10_two_47 : decode cX10_two 47 = .ok (.lstore_n 2, 1) := by decide +kernel
theorem dX10_two_48 : decode cX10_two 48 = .ok (.lconst 1, 1) := by decide +kernel
theorem dX10_two_49 : decode cX10_two 49 = .ok (.lstore 4, 2) := by decide +kernel
theorem dX10_two_51 : decode cX10_two 51 = .ok (.lconst 0, 1) := by decide +kernel
theorem dX10_two_52 : decode cX10_two 52 = .ok (.lstore 6, 2) := by decide +kernel
theorem dX10_two_54 : decode cX10_two 54 = .ok (.iconst 0, 1) := by decide +kernel
theorem dX10_two_55 : decode cX10_two 55 = .ok (.istore 8, 2) := by decide +kernel
theorem dX10_two_57 : decode cX10_two 57 = .ok (.iload 8, 2) := by decide +kernel
theorem dX10_two_59 : decode cX10_two 59 = .ok (.aload_n 0, 1) := by decide +kernel
theorem dX10_two_60 : decode cX10_two 60 = .ok (.getfield 72, 3) := by decide +kernel
theorem dX10_two_63 : decode cX10_two 63 = .ok (.if_icmp .ge 57, 3) := by decide +kernel
theorem dX10_two_66 : decode cX10_two 66 = .ok (.bipush 99, 2) := by decide +kernel
theorem dX10_two_68 : decode cX10_two 68 = .ok (.aload_n 0, 1) := by decide +kernel
theorem dX10_two_69 : decode cX10_two 69 = .ok (.iload 8, 2) := by decide +kernel
theorem dX10_two_71 : decode cX10_two 71 = .ok (.invokevirtual 174, 3) := by decide +kernel
theorem dX10_two_74 : decode cX10_two 74 = .ok (.invokestatic 158, 3) := by decide +kernel
theorem dX10_two_77 : decode cX10_two 77 = .ok (.istore 9, 2) := by decide +kernel
theorem dX10_two_79 : decode cX10_two 79 = .ok (.lload 6, 2) := by decide +kernel
theorem dX10_two_81 : decode cX10_two 81 = .ok (.bipush 100, 2) := by decide +kernel
theorem dX10_two_83 : decode cX10_two 83 = .ok (.iload 9, 2) := by decide +kernel
theorem dX10_two_85 : decode cX10_two 85 = .ok (.isub, 1) := by decide +kernel
theorem dX10_two_86 : decode cX10_two 86 = .ok (.i2l, 1) := by decide +kernel
theorem dX10_two_87 : decode cX10_two 87 = .ok (.lmul, 1) := by decide +kernel
theorem dX10_two_88 : decode cX10_two 88 = .ok (.lload 4, 2) := by decide +kernel
theorem dX10_two_90 : decode cX10_two 90 = .ok (.iload 9, 2) := by decide +kernel
theorem dX10_two_92 : decode cX10_two 92 = .ok (.i2l, 1) := by decide +kernel
theorem dX10_two_93 : decode cX10_two 93 = .ok (.lmul, 1) := by decide +kernel
theorem dX10_two_94 : decode cX10_two 94 = .ok (.ladd, 1) := by decide +kernel
theorem dX10_two_95 : decode cX10_two 95 = .ok (.lstore 6, 2) := by decide +kernel
theorem dX10_two_97 : decode cX10_two 97 = .ok (.lload 4, 2) := by decide +kernel
theorem dX10_two_99 : decode cX10_two 99 = .ok (.bipush 100, 2) := by decide +kernel
theorem dX10_two_101 : decode cX10_two 101 = .ok (.iload 9, 2) := by decide +kernel
theorem dX10_two_103 : decode cX10_two 103 = .ok (.isub, 1) := by decide +kernel
theorem dX10_two_104 : decode cX10_two 104 = .ok (.i2l, 1) := by decide +kernel
theorem dX10_two_105 : decode cX10_two 105 = .ok (.lmul, 1) := by decide +kernel
theorem dX10_two_106 : decode cX10_two 106 = .ok (.lstore 4, 2) := by decide +kernel
theorem dX10_two_108 : decode cX10_two 108 = .ok (.lload_n 2, 1) := by decide +kernel
theorem dX10_two_109 : decode cX10_two 109 = .ok (.ldc2_w 240, 3) := by decide +kernel
theorem dX10_two_112 : decode cX10_two 112 = .ok (.lmul, 1) := by decide +kernel
theorem dX10_two_113 : decode cX10_two 113 = .ok (.lstore_n 2, 1) := by decide +kernel
theorem dX10_two_114 : decode cX10_two 114 = .ok (.iinc 8 1, 3) := by decide +kernel
theorem dX10_two_117 : decode cX10_two 117 = .ok (.goto (-60), 3) := by decide +kernel
theorem dX10_two_120 : decode cX10_two 120 = .ok (.lload_n 2, 1) := by decide +kernel
theorem dX10_two_121 : decode cX10_two 121 = .ok (.lload 4, 2) := by decide +kernel
theorem dX10_two_123 : decode cX10_two 123 = .ok (.lsub, 1) := by decide +kernel
theorem dX10_two_124 : decode cX10_two 124 = .ok (.lload 6, 2) := by decide +kernel
theorem dX10_two_126 : decode cX10_two 126 = .ok (.lsub, 1) := by decide +kernel
theorem dX10_two_127 : decode cX10_two 127 = .ok (.lstore 8, 2) := by decide +kernel
theorem dX10_two_129 : decode cX10_two 129 = .ok (.lload_n 2, 1) := by decide +kernel
theorem dX10_two_130 : decode cX10_two 130 = .ok (.lload 4, 2) := by decide +kernel
theorem dX10_two_132 : decode cX10_two 132 = .ok (.lsub, 1) := by decide +kernel
theorem dX10_two_133 : decode cX10_two 133 = .ok (.lstore 10, 2) := by decide +kernel
theorem dX10_two_135 : decode cX10_two 135 = .ok (.iload_n 1, 1) := by decide +kernel
theorem dX10_two_136 : decode cX10_two 136 = .ok (.ifCond .ne 8, 3) := by decide +kernel
theorem dX10_two_139 : decode cX10_two 139 = .ok (.lload 8, 2) := by decide +kernel
theorem dX10_two_141 : decode cX10_two 141 = .ok (.goto 5, 3) := by decide +kernel
theorem dX10_two_144 : decode cX10_two 144 = .ok (.lload 10, 2) := by decide +kernel
theorem dX10_two_146 : decode cX10_two 146 = .ok (.lload 8, 2) := by decide +kernel
theorem dX10_two_148 : decode cX10_two 148 = .ok (.lload 10, 2) := by decide +kernel
theorem dX10_two_150 : decode cX10_two 150 = .ok (.invokestatic 242, 3) := by decide +kernel
theorem dX10_two_153 : decode cX10_two 153 = .ok (.ldiv, 1) := by decide +kernel
theorem dX10_two_154 : decode cX10_two 154 = .ok (.lreturn, 1) := by decide +kernel
theorem dX10_seeds_0 : decode cX10_seeds 0 = .ok (.iload_n 1, 1) := by decide +kernel
theorem dX10_seeds_1 : decode cX10_seeds 1 = .ok (.iconst 1, 1) := by decide +kernel
theorem dX10_seeds_2 : decode cX10_seeds 2 = .ok (.bipush 50, 2) := by decide +kernel
theorem dX10_seeds_4 : decode cX10_seeds 4 = .ok (.invokestatic 76, 3) := by decide +kernel
theorem dX10_seeds_7 : decode cX10_seeds 7 = .ok (.istore_n 3, 1) := by decide +kernel
theorem dX10_seeds_8 : decode cX10_seeds 8 = .ok (.iload_n 3, 1) := by decide +kernel
theorem dX10_seeds_9 : decode cX10_seeds 9 = .ok (.ifCond .ne 13, 3) := by decide +kernel
theorem dX10_seeds_12 : decode cX10_seeds 12 = .ok (.aload_n 0, 1) := by decide +kernel
theorem dX10_seeds_13 : decode cX10_seeds 13 = .ok (.getfield 72, 3) := by decide +kernel
theorem dX10_seeds_16 : decode cX10_seeds 16 = .ok (.ifCond .ne 6, 3) := by decide +kernel
theorem dX10_seeds_19 : decode cX10_seeds 19 = .ok (.bipush (-3), 2) := by decide +kernel
theorem dX10_seeds_21 : decode cX10_seeds 21 = .ok (.istore_n 3, 1) := by decide +kernel
theorem dX10_seeds_22 : decode cX10_seeds 22 = .ok (.iload_n 3, 1) := by decide +kernel
theorem dX10_seeds_23 : decode cX10_seeds 23 = .ok (.ifCond .eq 9, 3) := by decide +kernel
theorem dX10_seeds_26 : decode cX10_seeds 26 = .ok (.aload_n 0, 1) := by decide +kernel
theorem dX10_seeds_27 : decode cX10_seeds 27 = .ok (.iload_n 3, 1) := by decide +kernel
theorem dX10_seeds_28 : decode cX10_seeds 28 = .ok (.invokevirtual 83, 3) := by decide +kernel
theorem dX10_seeds_31 : decode cX10_seeds 31 = .ok (.ireturn, 1) := by decide +kernel
theorem dX10_seeds_32 : decode cX10_seeds 32 = .ok (.aload_n 0, 1) := by decide +kernel
theorem dX10_seeds_33 : decode cX10_seeds 33 = .ok (.iconst 1, 1) := by decide +kernel
theorem dX10_seeds_34 : decode cX10_seeds 34 = .ok (.iconst 1, 1) := by decide +kernel
theorem dX10_seeds_35 : decode cX10_seeds 35 = .ok (.invokevirtual 119, 3) := by decide +kernel
theorem dX10_seeds_38 : decode cX10_seeds 38 = .ok (.iload_n 2, 1) := by decide +kernel
theorem dX10_seeds_39 : decode cX10_seeds 39 = .ok (.istore 4, 2) := by decide +kernel
theorem dX10_seeds_41 : decode cX10_seeds 41 = .ok (.iconst 0, 1) := by decide +kernel
theorem dX10_seeds_42 : decode cX10_seeds 42 = .ok (.istore 5, 2) := by decide +kernel
theorem dX10_seeds_44 : decode cX10_seeds 44 = .ok (.iload 5, 2) := by decide +kernel
theorem dX10_seeds_46 : decode cX10_seeds 46 = .ok (.iload_n 1, 1) := by decide +kernel
theorem dX10_seeds_47 : decode cX10_seeds 47 = .ok (.if_icmp .ge 42, 3) := by decide +kernel
theorem dX10_seeds_50 : decode cX10_seeds 50 = .ok (.iload 4, 2) := by decide +kernel
theorem dX10_seeds_52 : decode cX10_seeds 52 = .ok (.ldc 246, 2) := by decide +kernel
theorem dX10_seeds_54 : decode cX10_seeds 54 = .ok (.imul, 1) := by decide +kernel
theorem dX10_seeds_55 : decode cX10_seeds 55 = .ok (.sipush 12345, 3) := by decide +kernel
theorem dX10_seeds_58 : decode cX10_seeds 58 = .ok (.iadd, 1) := by decide +kernel
theorem dX10_seeds_59 : decode cX10_seeds 59 = .ok (.istore 4, 2) := by decide +kernel
theorem dX10_seeds_61 : decode cX10_seeds 61 = .ok (.aload_n 0, 1) := by decide +kernel
theorem dX10_seeds_62 : decode cX10_seeds 62 = .ok (.iload 4, 2) := by decide +kernel
theorem dX10_seeds_64 : decode cX10_seeds 64 = .ok (.ldc 247, 2) := by decide +kernel
theorem dX10_seeds_66 : decode cX10_seeds 66 = .ok (.iand, 1) := by decide +kernel
theorem dX10_seeds_67 : decode cX10_seeds 67 = .ok (.ldc 248, 2) := by decide +kernel
theorem dX10_seeds_69 : decode cX10_seeds 69 = .ok (.idiv, 1) := by decide +kernel
theorem dX10_seeds_70 : decode cX10_seeds 70 = .ok (.aload_n 0, 1) := by decide +kernel
theorem dX10_seeds_71 : decode cX10_seeds 71 = .ok (.getfield 72, 3) := by decide +kernel
theorem dX10_seeds_74 : decode cX10_seeds 74 = .ok (.irem, 1) := by decide +kernel
theorem dX10_seeds_75 : decode cX10_seeds 75 = .ok (.invokevirtual 199, 3) := by decide +kernel
theorem dX10_seeds_78 : decode cX10_seeds 78 = .ok (.aload_n 0, 1) := by decide +kernel
theorem dX10_seeds_79 : decode cX10_seeds 79 = .ok (.invokevirtual 189, 3) := by decide +kernel
theorem dX10_seeds_82 : decode cX10_seeds 82 = .ok (.pop, 1) := by decide +kernel
theorem dX10_seeds_83 : decode cX10_seeds 83 = .ok (.iinc 5 1, 3) := by decide +kernel
theorem dX10_seeds_86 : decode cX10_seeds 86 = .ok (.goto (-42), 3) := by decide +kernel
theorem dX10_seeds_89 : decode cX10_seeds 89 = .ok (.aload_n 0, 1) := by decide +kernel
theorem dX10_seeds_90 : decode cX10_seeds 90 = .ok (.iconst 0, 1) := by decide +kernel
theorem dX10_seeds_91 : decode cX10_seeds 91 = .ok (.invokevirtual 230, 3) := by decide +kernel
theorem dX10_seeds_94 : decode cX10_seeds 94 = .ok (.istore 5, 2) := by decide +kernel
theorem dX10_seeds_96 : decode cX10_seeds 96 = .ok (.aload_n 0, 1) := by decide +kernel
theorem dX10_seeds_97 : decode cX10_seeds 97 = .ok (.iconst 1, 1) := by decide +kernel
theorem dX10_seeds_98 : decode cX10_seeds 98 = .ok (.iconst 0, 1) := by decide +kernel
theorem dX10_seeds_99 : decode cX10_seeds 99 = .ok (.invokevirtual 119, 3) := by decide +kernel
theorem dX10_seeds_102 : decode cX10_seeds 102 = .ok (.iload 5, 2) := by decide +kernel
theorem dX10_seeds_104 : decode cX10_seeds 104 = .ok (.ireturn, 1) := by decide +kernel
theorem dX10_count_0 : decode cX10_count 0 = .ok (.iload_n 1, 1) := by decide +kernel
theorem dX10_count_1 : decode cX10_count 1 = .ok (.bipush 11, 2) := by decide +kernel
theorem dX10_count_3 : decode cX10_count 3 = .ok (.bipush 16, 2) := by decide +kernel
theorem dX10_count_5 : decode cX10_count 5 = .ok (.invokestatic 94, 3) := by decide +kernel
theorem dX10_count_8 : decode cX10_count 8 = .ok (.ifCond .eq 13, 3) := by decide +kernel
theorem dX10_count_11 : decode cX10_count 11 = .ok (.aload_n 0, 1) := by decide +kernel
theorem dX10_count_12 : decode cX10_count 12 = .ok (.getfield 7, 3) := by decide +kernel
theorem dX10_count_15 : decode cX10_count 15 = .ok (.iload_n 1, 1) := by decide +kernel
theorem dX10_count_16 : decode cX10_count 16 = .ok (.bipush 10, 2) := by decide +kernel
theorem dX10_count_18 : decode cX10_count 18 = .ok (.isub, 1) := by decide +kernel
theorem dX10_count_19 : decode cX10_count 19 = .ok (.iaload, 1) := by decide +kernel
theorem dX10_count_20 : decode cX10_count 20 = .ok (.ireturn, 1) := by decide +kernel
theorem dX10_count_21 : decode cX10_count 21 = .ok (.iload_n 1, 1) := by decide +kernel
theorem dX10_count_22 : decode cX10_count 22 = .ok (.iconst 1, 1) := by decide +kernel
theorem dX10_count_23 : decode cX10_count 23 = .ok (.iconst 4, 1) := by decide +kernel
theorem dX10_count_24 : decode cX10_count 24 = .ok (.invokestatic 94, 3) := by decide +kernel
theorem dX10_count_27 : decode cX10_count 27 = .ok (.ifCond .eq 11, 3) := by decide +kernel
theorem dX10_count_30 : decode cX10_count 30 = .ok (.aload_n 0, 1) := by decide +kernel
theorem dX10_count_31 : decode cX10_count 31 = .ok (.iload_n 1, 1) := by decide +kernel
theorem dX10_count_32 : decode cX10_count 32 = .ok (.iconst 1, 1) := by decide +kernel
theorem dX10_count_33 : decode cX10_count 33 = .ok (.isub, 1) := by decide +kernel
theorem dX10_count_34 : decode cX10_count 34 = .ok (.invokevirtual 230, 3) := by decide +kernel
theorem dX10_count_37 : decode cX10_count 37 = .ok (.ireturn, 1) := by decide +kernel
theorem dX10_count_38 : decode cX10_count 38 = .ok (.iconst 0, 1) := by decide +kernel
theorem dX10_count_39 : decode cX10_count 39 = .ok (.istore_n 2, 1) := by decide +kernel
theorem dX10_count_40 : decode cX10_count 40 = .ok (.iload_n 1, 1) := by decide +kernel
theorem dX10_count_41 : decode cX10_count 41 = .ok (.tableswitch 115 0 9 #[55, 115, 115, 115, 115, 60, 65, 78, 83, 88], 55) := by decide +kernel
theorem dX10_count_96 : decode cX10_count 96 = .ok (.aload_n 0, 1) := by decide +kernel
theorem dX10_count_97 : decode cX10_count 97 = .ok (.getfield 72, 3) := by decide +kernel
theorem dX10_count_100 : decode cX10_count 100 = .ok (.ireturn, 1) := by decide +kernel
theorem dX10_count_101 : decode cX10_count 101 = .ok (.aload_n 0, 1) := by decide +kernel
theorem dX10_count_102 : decode cX10_count 102 = .ok (.getfield 140, 3) := by decide +kernel
theorem dX10_count_105 : decode cX10_count 105 = .ok (.ireturn, 1) := by decide +kernel
theorem dX10_count_106 : decode cX10_count 106 = .ok (.aload_n 0, 1) := by decide +kernel
theorem dX10_count_107 : decode cX10_count 107 = .ok (.invokevirtual 155, 3) := by decide +kernel
theorem dX10_count_110 : decode cX10_count 110 = .ok (.ifCond .eq 7, 3) := by decide +kernel
theorem dX10_count_113 : decode cX10_count 113 = .ok (.iconst 1, 1) := by decide +kernel
theorem dX10_count_114 : decode cX10_count 114 = .ok (.goto 4, 3) := by decide +kernel
theorem dX10_count_117 : decode cX10_count 117 = .ok (.iconst 0, 1) := by decide +kernel
theorem dX10_count_118 : decode cX10_count 118 = .ok (.ireturn, 1) := by decide +kernel
theorem dX10_count_119 : decode cX10_count 119 = .ok (.aload_n 0, 1) := by decide +kernel
theorem dX10_count_120 : decode cX10_count 120 = .ok (.getfield 80, 3) := by decide +kernel
theorem dX10_count_123 : decode cX10_count 123 = .ok (.ireturn, 1) := by decide +kernel
theorem dX10_count_124 : decode cX10_count 124 = .ok (.aload_n 0, 1) := by decide +kernel
theorem dX10_count_125 : decode cX10_count 125 = .ok (.getfield 215, 3) := by decide +kernel
theorem dX10_count_128 : decode cX10_count 128 = .ok (.ireturn, 1) := by decide +kernel
theorem dX10_count_129 : decode cX10_count 129 = .ok (.iconst 0, 1) := by decide +kernel
theorem dX10_count_130 : decode cX10_count 130 = .ok (.istore_n 3, 1) := by decide +kernel
theorem dX10_count_131 : decode cX10_count 131 = .ok (.iload_n 3, 1) := by decide +kernel
theorem dX10_count_132 : decode cX10_count 132 = .ok (.aload_n 0, 1) := by decide +kernel
theorem dX10_count_133 : decode cX10_count 133 = .ok (.getfield 72, 3) := by decide +kernel
theorem dX10_count_136 : decode cX10_count 136 = .ok (.if_icmp .ge 18, 3) := by decide +kernel
theorem dX10_count_139 : decode cX10_count 139 = .ok (.iload_n 2, 1) := by decide +kernel
theorem dX10_count_140 : decode cX10_count 140 = .ok (.aload_n 0, 1) := by decide +kernel
theorem dX10_count_141 : decode cX10_count 141 = .ok (.getfield 22, 3) := by decide +kernel
theorem dX10_count_144 : decode cX10_count 144 = .ok (.iload_n 3, 1) := by decide +kernel
theorem dX10_count_145 : decode cX10_count 145 = .ok (.iaload, 1) := by decide +kernel
theorem dX10_count_146 : decode cX10_count 146 = .ok (.iadd, 1) := by decide +kernel
theorem dX10_count_147 : decode cX10_count 147 = .ok (.istore_n 2, 1) := by decide +kernel
theorem dX10_count_148 : decode cX10_count 148 = .ok (.iinc 3 1, 3) := by decide +kernel
theorem dX10_count_151 : decode cX10_count 151 = .ok (.goto (-20), 3) := by decide +kernel
theorem dX10_count_154 : decode cX10_count 154 = .ok (.iload_n 2, 1) := by decide +kernel
theorem dX10_count_155 : decode cX10_count 155 = .ok (.ireturn, 1) := by decide +kernel
theorem dX10_count_156 : decode cX10_count 156 = .ok (.bipush (-9), 2) := by decide +kernel
theorem dX10_count_158 : decode cX10_count 158 = .ok (.ireturn, 1) := by decide +kernel
theorem dL_law_0 : decode cL_law 0 = .ok (.new 7, 3) := by decide +kernel
theorem dL_law_3 : decode cL_law 3 = .ok (.dup, 1) := by decide +kernel
theorem dL_law_4 : decode cL_law 4 = .ok (.invokespecial 9, 3) := by decide +kernel
theorem dL_law_7 : decode cL_law 7 = .ok (.astore_n 1, 1) := by decide +kernel
theorem dL_law_8 : decode cL_law 8 = .ok (.new 10, 3) := by decide +kernel
theorem dL_law_11 : decode cL_law 11 = .ok (.dup, 1) := by decide +kernel
theorem dL_law_12 : decode cL_law 12 = .ok (.invokespecial 12, 3) := by decide +kernel
theorem dL_law_15 : decode cL_law 15 = .ok (.astore_n 2, 1) := by decide +kernel
theorem dL_law_16 : decode cL_law 16 = .ok (.iconst 0, 1) := by decide +kernel
theorem dL_law_17 : decode cL_law 17 = .ok (.istore_n 3, 1) := by decide +kernel
theorem dL_law_18 : decode cL_law 18 = .ok (.iload_n 3, 1) := by decide +kernel
theorem dL_law_19 : decode cL_law 19 = .ok (.aload_n 0, 1) := by decide +kernel
theorem dL_law_20 : decode cL_law 20 = .ok (.arraylength, 1) := by decide +kernel
theorem dL_law_21 : decode cL_law 21 = .ok (.iconst 4, 1) := by decide +kernel
theorem dL_law_22 : decode cL_law 22 = .ok (.isub, 1) := by decide +kernel
theorem dL_law_23 : decode cL_law 23 = .ok (.if_icmp .gt 812, 3) := by decide +kernel
theorem dL_law_26 : decode cL_law 26 = .ok (.aload_n 0, 1) := by decide +kernel
theorem dL_law_27 : decode cL_law 27 = .ok (.iload_n 3, 1) := by decide +kernel
theorem dL_law_28 : decode cL_law 28 = .ok (.iaload, 1) := by decide +kernel
theorem dL_law_29 : decode cL_law 29 = .ok (.bipush 31, 2) := by decide +kernel
theorem dL_law_31 : decode cL_law 31 = .ok (.iand, 1) := by decide +kernel
theorem dL_law_32 : decode cL_law 32 = .ok (.tableswitch 797 0 29 #[136, 159, 172, 205, 238, 251, 264, 287, 320, 343, 366, 409, 452, 475, 488, 521, 534, 547, 560, 583, 606, 619, 642, 665, 678, 691, 715, 748, 761, 774], 136) := by decide +kernel
theorem dL_law_168 : decode cL_law 168 = .ok (.aload_n 1, 1) := by decide +kernel
theorem dL_law_169 : decode cL_law 169 = .ok (.aload_n 0, 1) := by decide +kernel
theorem dL_law_170 : decode cL_law 170 = .ok (.iload_n 3, 1) := by decide +kernel
theorem dL_law_171 : decode cL_law 171 = .ok (.iconst 1, 1) := by decide +kernel
theorem dL_law_172 : decode cL_law 172 = .ok (.iadd, 1) := by decide +kernel
theorem dL_law_173 : decode cL_law 173 = .ok (.iaload, 1) := by decide +kernel
theorem dL_law_174 : decode cL_law 174 = .ok (.invokevirtual 13, 3) := by decide +kernel
theorem dL_law_177 : decode cL_law 177 = .ok (.aload_n 2, 1) := by decide +kernel
theorem dL_law_178 : decode cL_law 178 = .ok (.aload_n 0, 1) := by decide +kernel
theorem dL_law_179 : decode cL_law 179 = .ok (.iload_n 3, 1) := by decide +kernel
theorem dL_law_180 : decode cL_law 180 = .ok (.iconst 1, 1) := by decide +kernel
theorem dL_law_181 : decode cL_law 181 = .ok (.iadd, 1) := by decide +kernel
theorem dL_law_182 : decode cL_law 182 = .ok (.iaload, 1) := by decide +kernel
theorem dL_law_183 : decode cL_law 183 = .ok (.invokevirtual 17, 3) := by decide +kernel
theorem dL_law_186 : decode cL_law 186 = .ok (.if_icmp .eq 643, 3) := by decide +kernel
theorem dL_law_189 : decode cL_law 189 = .ok (.iconst 0, 1) := by decide +kernel
theorem dL_law_190 : decode cL_law 190 = .ok (.ireturn, 1) := by decide +kernel
theorem dL_law_191 : decode cL_law 191 = .ok (.aload_n 1, 1) := by decide +kernel
theorem dL_law_192 : decode cL_law 192 = .ok (.invokevirtual 18, 3) := by decide +kernel
theorem dL_law_195 : decode cL_law 195 = .ok (.aload_n 2, 1) := by decide +kernel
theorem dL_law_196 : decode cL_law 196 = .ok (.invokevirtual 22, 3) := by decide +kernel
theorem dL_law_199 : decode cL_law 199 = .ok (.if_icmp .eq 630, 3) := by decide +kernel
theorem dL_law_202 : decode cL_law 202 = .ok (.iconst 0, 1) := by decide +kernel
theorem dL_law_203 : decode cL_law 203 = .ok (.ireturn, 1) := by decide +kernel
theorem dL_law_204 : decode cL_law 204 = .ok (.aload_n 1, 1) := by decide +kernel
theorem dL_law_205 : decode cL_law 205 = .ok (.aload_n 0, 1) := by decide +kernel
theorem dL_law_206 : decode cL_law 206 = .ok (.iload_n 3, 1) := by decide +kernel
theorem dL_law_207 : decode cL_law 207 = .ok (.iconst 1, 1) := by decide +kernel
theorem dL_law_208 : decode cL_law 208 = .ok (.iadd, 1) := by decide +kernel
theorem dL_law_209 : decode cL_law 209 = .ok (.iaload, 1) := by decide +kernel
theorem dL_law_210 : decode cL_law 210 = .ok (.aload_n 0, 1) := by decide +kernel
theorem dL_law_211 : decode cL_law 211 = .ok (.iload_n 3, 1) := by decide +kernel
theorem dL_law_212 : decode cL_law 212 = .ok (.iconst 2, 1) := by decide +kernel
theorem dL_law_213 : decode cL_law 213 = .ok (.iadd, 1) := by decide +kernel
theorem dL_law_214 : decode cL_law 214 = .ok (.iaload, 1) := by decide +kernel
theorem dL_law_215 : decode cL_law 215 = .ok (.invokevirtual 23, 3) := by decide +kernel
theorem dL_law_218 : decode cL_law 218 = .ok (.aload_n 2, 1) := by decide +kernel
theorem dL_law_219 : decode cL_law 219 = .ok (.aload_n 0, 1) := by decide +kernel
theorem dL_law_220 : decode cL_law 220 = .ok (.iload_n 3, 1) := by decide +kernel
theorem dL_law_221 : decode cL_law 221 = .ok (.iconst 1, 1) := by decide +kernel
theorem dL_law_222 : decode cL_law 222 = .ok (.iadd, 1) := by decide +kernel
theorem dL_law_223 : decode cL_law 223 = .ok (.iaload, 1) := by decide +kernel
theorem dL_law_224 : decode cL_law 224 = .ok (.aload_n 0, 1) := by decide +kernel
theorem dL_law_225 : decode cL_law 225 = .ok (.iload_n 3, 1) := by decide +kernel
theorem dL_law_226 : decode cL_law 226 = .ok (.iconst 2, 1) := by decide +kernel
theorem dL_law_227 : decode cL_law 227 = .ok (.iadd, 1) := by decide +kernel
theorem dL_law_228 : decode cL_law 228 = .ok (.iaload, 1) := by decide +kernel
theorem dL_law_229 : decode cL_law 229 = .ok (.invokevirtual 27, 3) := by decide +kernel
theorem dL_law_232 : decode cL_law 232 = .ok (.if_icmp .eq 597, 3) := by decide +kernel
theorem dL_law_235 : decode cL_law 235 = .ok (.iconst 0, 1) := by decide +kernel
theorem dL_law_236 : decode cL_law 236 = .ok (.ireturn, 1) := by decide +kernel
theorem dL_law_237 : decode cL_law 237 = .ok (.aload_n 1, 1) := by decide +kernel
theorem dL_law_238 : decode cL_law 238 = .ok (.aload_n 0, 1) := by decide +kernel
theorem dL_law_239 : decode cL_law 239 = .ok (.iload_n 3, 1) := by decide +kernel
theorem dL_law_240 : decode cL_law 240 = .ok (.iconst 1, 1) := by decide +kernel
theorem dL_law_241 : decode cL_law 241 = .ok (.iadd, 1) := by decide +kernel
theorem dL_law_242 : decode cL_law 242 = .ok (.iaload, 1) := by decide +kernel
theorem dL_law_243 : decode cL_law 243 = .ok (.aload_n 0, 1) := by decide +kernel
theorem dL_law_244 : decode cL_law 244 = .ok (.iload_n 3, 1) := by decide +kernel
theorem dL_law_245 : decode cL_law 245 = .ok (.iconst 2, 1) := by decide +kernel
theorem dL_law_246 : decode cL_law 246 = .ok (.iadd, 1) := by decide +kernel
theorem dL_law_247 : decode cL_law 247 = .ok (.iaload, 1) := by decide +kernel
theorem dL_law_248 : decode cL_law 248 = .ok (.invokevirtual 28, 3) := by decide +kernel
theorem dL_law_251 : decode cL_law 251 = .ok (.aload_n 2, 1) := by decide +kernel
theorem dL_law_252 : decode cL_law 252 = .ok (.aload_n 0, 1) := by decide +kernel
theorem dL_law_253 : decode cL_law 253 = .ok (.iload_n 3, 1) := by decide +kernel
theorem dL_law_254 : decode cL_law 254 = .ok (.iconst 1, 1) := by decide +kernel
theorem dL_law_255 : decode cL_law 255 = .ok (.iadd, 1) := by decide +kernel
theorem dL_law_256 : decode cL_law 256 = .ok (.iaload, 1) := by decide +kernel
theorem dL_law_257 : decode cL_law 257 = .ok (.aload_n 0, 1) := by decide +kernel
theorem dL_law_258 : decode cL_law 258 = .ok (.iload_n 3, 1) := by decide +kernel
theorem dL_law_259 : decode cL_law 259 = .ok (.iconst 2, 1) := by decide +kernel
theorem dL_law_260 : decode cL_law 260 = .ok (.iadd, 1) := by decide +kernel
theorem dL_law_261 : decode cL_law 261 = .ok (.iaload, 1) := by decide +kernel
theorem dL_law_262 : decode cL_law 262 = .ok (.invokevirtual 31, 3) := by decide +kernel
theorem dL_law_265 : decode cL_law 265 = .ok (.if_icmp .eq 564, 3) := by decide +kernel
theorem dL_law_268 : decode cL_law 268 = .ok (.iconst 0, 1) := by decide +kernel
theorem dL_law_269 : decode cL_law 269 = .ok (.ireturn, 1) := by decide +kernel
theorem dL_law_270 : decode cL_law 270 = .ok (.aload_n 1, 1) := by decide +kernel
theorem dL_law_271 : decode cL_law 271 = .ok (.invokevirtual 32, 3) := by decide +kernel
theorem dL_law_274 : decode cL_law 274 = .ok (.aload_n 2, 1) := by decide +kernel
theorem dL_law_275 : decode cL_law 275 = .ok (.invokevirtual 35, 3) := by decide +kernel
theorem dL_law_278 : decode cL_law 278 = .ok (.if_icmp .eq 551, 3) := by decide +kernel
theorem dL_law_281 : decode cL_law 281 = .ok (.iconst 0, 1) := by decide +kernel
theorem dL_law_282 : decode cL_law 282 = .ok (.ireturn, 1) := by decide +kernel
theorem dL_law_283 : decode cL_law 283 = .ok (.aload_n 1, 1) := by decide +kernel
theorem dL_law_284 : decode cL_law 284 = .ok (.invokevirtual 36, 3) := by decide +kernel
theorem dL_law_287 : decode cL_law 287 = .ok (.aload_n 2, 1) := by decide +kernel
theorem dL_law_288 : decode cL_law 288 = .ok (.invokevirtual 39, 3) := by decide +kernel
theorem dL_law_291 : decode cL_law 291 = .ok (.if_icmp .eq 538, 3) := by decide +kernel
theorem dL_law_294 : decode cL_law 294 = .ok (.iconst 0, 1) := by decide +kernel
theorem dL_law_295 : decode cL_law 295 = .ok (.ireturn, 1) := by decide +kernel
theorem dL_law_296 : decode cL_law 296 = .ok (.aload_n 1, 1) := by decide +kernel
theorem dL_law_297 : decode cL_law 297 = .ok (.aload_n 0, 1) := by decide +kernel
theorem dL_law_298 : decode cL_law 298 = .ok (.iload_n 3, 1) := by decide +kernel
theorem dL_law_299 : decode cL_law 299 = .ok (.iconst 1, 1) := by decide +kernel
theorem dL_law_300 : decode cL_law 300 = .ok (.iadd, 1) := by decide +kernel
theorem dL_law_301 : decode cL_law 301 = .ok (.iaload, 1) := by decide +kernel
theorem dL_law_302 : decode cL_law 302 = .ok (.invokevirtual 40, 3) := by decide +kernel
theorem dL_law_305 : decode cL_law 305 = .ok (.aload_n 2, 1) := by decide +kernel
theorem dL_law_306 : decode cL_law 306 = .ok (.aload_n 0, 1) := by decide +kernel
theorem dL_law_307 : decode cL_law 307 = .ok (.iload_n 3, 1) := by decide +kernel
theorem dL_law_308 : decode cL_law 308 = .ok (.iconst 1, 1) := by decide +kernel
theorem dL_law_309 : decode cL_law 309 = .ok (.iadd, 1) := by decide +kernel
theorem dL_law_310 : decode cL_law 310 = .ok (.iaload, 1) := by decide +kernel
theorem dL_law_311 : decode cL_law 311 = .ok (.invokevirtual 43, 3) := by decide +kernel
theorem dL_law_314 : decode cL_law 314 = .ok (.if_icmp .eq 515, 3) := by decide +kernel
theorem dL_law_317 : decode cL_law 317 = .ok (.iconst 0, 1) := by decide +kernel
theorem dL_law_318 : decode cL_law 318 = .ok (.ireturn, 1) := by decide +kernel
theorem dL_law_319 : decode cL_law 319 = .ok (.aload_n 1, 1) := by decide +kernel
theorem dL_law_320 : decode cL_law 320 = .ok (.aload_n 0, 1) := by decide +kernel
theorem dL_law_321 : decode cL_law 321 = .ok (.iload_n 3, 1) := by decide +kernel
theorem dL_law_322 : decode cL_law 322 = .ok (.iconst 1, 1) := by decide +kernel
theorem dL_law_323 : decode cL_law 323 = .ok (.iadd, 1) := by decide +kernel
theorem dL_law_324 : decode cL_law 324 = .ok (.iaload, 1) := by decide +kernel
theorem dL_law_325 : decode cL_law 325 = .ok (.aload_n 0, 1) := by decide +kernel
theorem dL_law_326 : decode cL_law 326 = .ok (.iload_n 3, 1) := by decide +kernel
theorem dL_law_327 : decode cL_law 327 = .ok (.iconst 2, 1) := by decide +kernel
theorem dL_law_328 : decode cL_law 328 = .ok (.iadd, 1) := by decide +kernel
theorem dL_law_329 : decode cL_law 329 = .ok (.iaload, 1) := by decide +kernel
theorem dL_law_330 : decode cL_law 330 = .ok (.invokevirtual 44, 3) := by decide +kernel
theorem dL_law_333 : decode cL_law 333 = .ok (.aload_n 2, 1) := by decide +kernel
theorem dL_law_334 : decode cL_law 334 = .ok (.aload_n 0, 1) := by decide +kernel
theorem dL_law_335 : decode cL_law 335 = .ok (.iload_n 3, 1) := by decide +kernel
theorem dL_law_336 : decode cL_law 336 = .ok (.iconst 1, 1) := by decide +kernel
theorem dL_law_337 : decode cL_law 337 = .ok (.iadd, 1) := by decide +kernel
theorem dL_law_338 : decode cL_law 338 = .ok (.iaload, 1) := by decide +kernel
theorem dL_law_339 : decode cL_law 339 = .ok (.aload_n 0, 1) := by decide +kernel
theorem dL_law_340 : decode cL_law 340 = .ok (.iload_n 3, 1) := by decide +kernel
theorem dL_law_341 : decode cL_law 341 = .ok (.iconst 2, 1) := by decide +kernel
theorem dL_law_342 : decode cL_law 342 = .ok (.iadd, 1) := by decide +kernel
theorem dL_law_343 : decode cL_law 343 = .ok (.iaload, 1) := by decide +kernel
theorem dL_law_344 : decode cL_law 344 = .ok (.invokevirtual 47, 3) := by decide +kernel
theorem dL_law_347 : decode cL_law 347 = .ok (.if_icmp .eq 482, 3) := by decide +kernel
theorem dL_law_350 : decode cL_law 350 = .ok (.iconst 0, 1) := by decide +kernel
theorem dL_law_351 : decode cL_law 351 = .ok (.ireturn, 1) := by decide +kernel
theorem dL_law_352 : decode cL_law 352 = .ok (.aload_n 1, 1) := by decide +kernel
theorem dL_law_353 : decode cL_law 353 = .ok (.aload_n 0, 1) := by decide +kernel
theorem dL_law_354 : decode cL_law 354 = .ok (.iload_n 3, 1) := by decide +kernel
theorem dL_law_355 : decode cL_law 355 = .ok (.iconst 1, 1) := by decide +kernel
theorem dL_law_356 : decode cL_law 356 = .ok (.iadd, 1) := by decide +kernel
theorem dL_law_357 : decode cL_law 357 = .ok (.iaload, 1) := by decide +kernel
theorem dL_law_358 : decode cL_law 358 = .ok (.invokevirtual 48, 3) := by decide +kernel
theorem dL_law_361 : decode cL_law 361 = .ok (.aload_n 2, 1) := by decide +kernel
theorem dL_law_362 : decode cL_law 362 = .ok (.aload_n 0, 1) := by decide +kernel
theorem dL_law_363 : decode cL_law 363 = .ok (.iload_n 3, 1) := by decide +kernel
theorem dL_law_364 : decode cL_law 364 = .ok (.iconst 1, 1) := by decide +kernel
theorem dL_law_365 : decode cL_law 365 = .ok (.iadd, 1) := by decide +kernel
theorem dL_law_366 : decode cL_law 366 = .ok (.iaload, 1) := by decide +kernel
theorem dL_law_367 : decode cL_law 367 = .ok (.invokevirtual 51, 3) := by decide +kernel
theorem dL_law_370 : decode cL_law 370 = .ok (.if_icmp .eq 459, 3) := by decide +kernel
theorem dL_law_373 : decode cL_law 373 = .ok (.iconst 0, 1) := by decide +kernel
theorem dL_law_374 : decode cL_law 374 = .ok (.ireturn, 1) := by decide +kernel
theorem dL_law_375 : decode cL_law 375 = .ok (.aload_n 1, 1) := by decide +kernel
theorem dL_law_376 : decode cL_law 376 = .ok (.aload_n 0, 1) := by decide +kernel
theorem dL_law_377 : decode cL_law 377 = .ok (.iload_n 3, 1) := by decide +kernel
theorem dL_law_378 : decode cL_law 378 = .ok (.iconst 1, 1) := by decide +kernel
theorem dL_law_379 : decode cL_law 379 = .ok (.iadd, 1) := by decide +kernel
theorem dL_law_380 : decode cL_law 380 = .ok (.iaload, 1) := by decide +kernel
theorem dL_law_381 : decode cL_law 381 = .ok (.invokevirtual 52, 3) := by decide +kernel
theorem dL_law_384 : decode cL_law 384 = .ok (.aload_n 2, 1) := by decide +kernel
theorem dL_law_385 : decode cL_law 385 = .ok (.aload_n 0, 1) := by decide +kernel
theorem dL_law_386 : decode cL_law 386 = .ok (.iload_n 3, 1) := by decide +kernel
theorem dL_law_387 : decode cL_law 387 = .ok (.iconst 1, 1) := by decide +kernel
theorem dL_law_388 : decode cL_law 388 = .ok (.iadd, 1) := by decide +kernel
theorem dL_law_389 : decode cL_law 389 = .ok (.iaload, 1) := by decide +kernel
theorem dL_law_390 : decode cL_law 390 = .ok (.invokevirtual 55, 3) := by decide +kernel
theorem dL_law_393 : decode cL_law 393 = .ok (.if_icmp .eq 436, 3) := by decide +kernel
theorem dL_law_396 : decode cL_law 396 = .ok (.iconst 0, 1) := by decide +kernel
theorem dL_law_397 : decode cL_law 397 = .ok (.ireturn, 1) := by decide +kernel
theorem dL_law_398 : decode cL_law 398 = .ok (.aload_n 1, 1) := by decide +kernel
theorem dL_law_399 : decode cL_law 399 = .ok (.aload_n 0, 1) := by decide +kernel
theorem dL_law_400 : decode cL_law 400 = .ok (.iload_n 3, 1) := by decide +kernel
theorem dL_law_401 : decode cL_law 401 = .ok (.iconst 1, 1) := by decide +kernel
theorem dL_law_402 : decode cL_law 402 = .ok (.iadd, 1) := by decide +kernel
theorem dL_law_403 : decode cL_law 403 = .ok (.iaload, 1) := by decide +kernel
theorem dL_law_404 : decode cL_law 404 = .ok (.aload_n 0, 1) := by decide +kernel
theorem dL_law_405 : decode cL_law 405 = .ok (.iload_n 3, 1) := by decide +kernel
theorem dL_law_406 : decode cL_law 406 = .ok (.iconst 2, 1) := by decide +kernel
theorem dL_law_407 : decode cL_law 407 = .ok (.iadd, 1) := by decide +kernel
theorem dL_law_408 : decode cL_law 408 = .ok (.iaload, 1) := by decide +kernel
theorem dL_law_409 : decode cL_law 409 = .ok (.aload_n 0, 1) := by decide +kernel
theorem dL_law_410 : decode cL_law 410 = .ok (.iload_n 3, 1) := by decide +kernel
theorem dL_law_411 : decode cL_law 411 = .ok (.iconst 3, 1) := by decide +kernel
theorem dL_law_412 : decode cL_law 412 = .ok (.iadd, 1) := by decide +kernel
theorem dL_law_413 : decode cL_law 413 = .ok (.iaload, 1) := by decide +kernel
theorem dL_law_414 : decode cL_law 414 = .ok (.invokevirtual 56, 3) := by decide +kernel
theorem dL_law_417 : decode cL_law 417 = .ok (.aload_n 2, 1) := by decide +kernel
theorem dL_law_418 : decode cL_law 418 = .ok (.aload_n 0, 1) := by decide +kernel
theorem dL_law_419 : decode cL_law 419 = .ok (.iload_n 3, 1) := by decide +kernel
theorem dL_law_420 : decode cL_law 420 = .ok (.iconst 1, 1) := by decide +kernel
theorem dL_law_421 : decode cL_law 421 = .ok (.iadd, 1) := by decide +kernel
theorem dL_law_422 : decode cL_law 422 = .ok (.iaload, 1) := by decide +kernel
theorem dL_law_423 : decode cL_law 423 = .ok (.aload_n 0, 1) := by decide +kernel
theorem dL_law_424 : decode cL_law 424 = .ok (.iload_n 3, 1) := by decide +kernel
theorem dL_law_425 : decode cL_law 425 = .ok (.iconst 2, 1) := by decide +kernel
theorem dL_law_426 : decode cL_law 426 = .ok (.iadd, 1) := by decide +kernel
theorem dL_law_427 : decode cL_law 427 = .ok (.iaload, 1) := by decide +kernel
theorem dL_law_428 : decode cL_law 428 = .ok (.aload_n 0, 1) := by decide +kernel
theorem dL_law_429 : decode cL_law 429 = .ok (.iload_n 3, 1) := by decide +kernel
theorem dL_law_430 : decode cL_law 430 = .ok (.iconst 3, 1) := by decide +kernel
theorem dL_law_431 : decode cL_law 431 = .ok (.iadd, 1) := by decide +kernel
theorem dL_law_432 : decode cL_law 432 = .ok (.iaload, 1) := by decide +kernel
theorem dL_law_433 : decode cL_law 433 = .ok (.invokevirtual 60, 3) := by decide +kernel
theorem dL_law_436 : decode cL_law 436 = .ok (.if_icmp .eq 393, 3) := by decide +kernel
theorem dL_law_439 : decode cL_law 439 = .ok (.iconst 0, 1) := by decide +kernel
theorem dL_law_440 : decode cL_law 440 = .ok (.ireturn, 1) := by decide +kernel
theorem dL_law_441 : decode cL_law 441 = .ok (.aload_n 1, 1) := by decide +kernel
theorem dL_law_442 : decode cL_law 442 = .ok (.aload_n 0, 1) := by decide +kernel
theorem dL_law_443 : decode cL_law 443 = .ok (.iload_n 3, 1) := by decide +kernel
theorem dL_law_444 : decode cL_law 444 = .ok (.iconst 1, 1) := by decide +kernel
theorem dL_law_445 : decode cL_law 445 = .ok (.iadd, 1) := by decide +kernel
theorem dL_law_446 : decode cL_law 446 = .ok (.iaload, 1) := by decide +kernel
theorem dL_law_447 : decode cL_law 447 = .ok (.aload_n 0, 1) := by decide +kernel
theorem dL_law_448 : decode cL_law 448 = .ok (.iload_n 3, 1) := by decide +kernel
theorem dL_law_449 : decode cL_law 449 = .ok (.iconst 2, 1) := by decide +kernel
theorem dL_law_450 : decode cL_law 450 = .ok (.iadd, 1) := by decide +kernel
theorem dL_law_451 : decode cL_law 451 = .ok (.iaload, 1) := by decide +kernel
theorem dL_law_452 : decode cL_law 452 = .ok (.aload_n 0, 1) := by decide +kernel
theorem dL_law_453 : decode cL_law 453 = .ok (.iload_n 3, 1) := by decide +kernel
theorem dL_law_454 : decode cL_law 454 = .ok (.iconst 3, 1) := by decide +kernel
theorem dL_law_455 : decode cL_law 455 = .ok (.iadd, 1) := by decide +kernel
theorem dL_law_456 : decode cL_law 456 = .ok (.iaload, 1) := by decide +kernel
theorem dL_law_457 : decode cL_law 457 = .ok (.invokevirtual 61, 3) := by decide +kernel
theorem dL_law_460 : decode cL_law 460 = .ok (.aload_n 2, 1) := by decide +kernel
theorem dL_law_461 : decode cL_law 461 = .ok (.aload_n 0, 1) := by decide +kernel
theorem dL_law_462 : decode cL_law 462 = .ok (.iload_n 3, 1) := by decide +kernel
theorem dL_law_463 : decode cL_law 463 = .ok (.iconst 1, 1) := by decide +kernel
theorem dL_law_464 : decode cL_law 464 = .ok (.iadd, 1) := by decide +kernel
theorem dL_law_465 : decode cL_law 465 = .ok (.iaload, 1) := by decide +kernel
theorem dL_law_466 : decode cL_law 466 = .ok (.aload_n 0, 1) := by decide +kernel
theorem dL_law_467 : decode cL_law 467 = .ok (.iload_n 3, 1) := by decide +kernel
theorem dL_law_468 : decode cL_law 468 = .ok (.iconst 2, 1) := by decide +kernel
theorem dL_law_469 : decode cL_law 469 = .ok (.iadd, 1) := by decide +kernel
theorem dL_law_470 : decode cL_law 470 = .ok (.iaload, 1) := by decide +kernel
theorem dL_law_471 : decode cL_law 471 = .ok (.aload_n 0, 1) := by decide +kernel
theorem dL_law_472 : decode cL_law 472 = .ok (.iload_n 3, 1) := by decide +kernel
theorem dL_law_473 : decode cL_law 473 = .ok (.iconst 3, 1) := by decide +kernel
theorem dL_law_474 : decode cL_law 474 = .ok (.iadd, 1) := by decide +kernel
theorem dL_law_475 : decode cL_law 475 = .ok (.iaload, 1) := by decide +kernel
theorem dL_law_476 : decode cL_law 476 = .ok (.invokevirtual 64, 3) := by decide +kernel
theorem dL_law_479 : decode cL_law 479 = .ok (.if_icmp .eq 350, 3) := by decide +kernel
theorem dL_law_482 : decode cL_law 482 = .ok (.iconst 0, 1) := by decide +kernel
theorem dL_law_483 : decode cL_law 483 = .ok (.ireturn, 1) := by decide +kernel
theorem dL_law_484 : decode cL_law 484 = .ok (.aload_n 1, 1) := by decide +kernel
theorem dL_law_485 : decode cL_law 485 = .ok (.aload_n 0, 1) := by decide +kernel
theorem dL_law_486 : decode cL_law 486 = .ok (.iload_n 3, 1) := by decide +kernel
theorem dL_law_487 : decode cL_law 487 = .ok (.iconst 1, 1) := by decide +kernel
theorem dL_law_488 : decode cL_law 488 = .ok (.iadd, 1) := by decide +kernel
theorem dL_law_489 : decode cL_law 489 = .ok (.iaload, 1) := by decide +kernel
theorem dL_law_490 : decode cL_law 490 = .ok (.invokevirtual 65, 3) := by decide +kernel
theorem dL_law_493 : decode cL_law 493 = .ok (.aload_n 2, 1) := by decide +kernel
theorem dL_law_494 : decode cL_law 494 = .ok (.aload_n 0, 1) := by decide +kernel
theorem dL_law_495 : decode cL_law 495 = .ok (.iload_n 3, 1) := by decide +kernel
theorem dL_law_496 : decode cL_law 496 = .ok (.iconst 1, 1) := by decide +kernel
theorem dL_law_497 : decode cL_law 497 = .ok (.iadd, 1) := by decide +kernel
theorem dL_law_498 : decode cL_law 498 = .ok (.iaload, 1) := by decide +kernel
theorem dL_law_499 : decode cL_law 499 = .ok (.invokevirtual 68, 3) := by decide +kernel
theorem dL_law_502 : decode cL_law 502 = .ok (.if_icmp .eq 327, 3) := by decide +kernel
theorem dL_law_505 : decode cL_law 505 = .ok (.iconst 0, 1) := by decide +kernel
theorem dL_law_506 : decode cL_law 506 = .ok (.ireturn, 1) := by decide +kernel
theorem dL_law_507 : decode cL_law 507 = .ok (.aload_n 1, 1) := by decide +kernel
theorem dL_law_508 : decode cL_law 508 = .ok (.invokevirtual 69, 3) := by decide +kernel
theorem dL_law_511 : decode cL_law 511 = .ok (.aload_n 2, 1) := by decide +kernel
theorem dL_law_512 : decode cL_law 512 = .ok (.invokevirtual 72, 3) := by decide +kernel
theorem dL_law_515 : decode cL_law 515 = .ok (.if_icmp .eq 314, 3) := by decide +kernel
theorem dL_law_518 : decode cL_law 518 = .ok (.iconst 0, 1) := by decide +kernel
theorem dL_law_519 : decode cL_law 519 = .ok (.ireturn, 1) := by decide +kernel
theorem dL_law_520 : decode cL_law 520 = .ok (.aload_n 1, 1) := by decide +kernel
theorem dL_law_521 : decode cL_law 521 = .ok (.aload_n 0, 1) := by decide +kernel
theorem dL_law_522 : decode cL_law 522 = .ok (.iload_n 3, 1) := by decide +kernel
theorem dL_law_523 : decode cL_law 523 = .ok (.iconst 1, 1) := by decide +kernel
theorem dL_law_524 : decode cL_law 524 = .ok (.iadd, 1) := by decide +kernel
theorem dL_law_525 : decode cL_law 525 = .ok (.iaload, 1) := by decide +kernel
theorem dL_law_526 : decode cL_law 526 = .ok (.aload_n 0, 1) := by decide +kernel
theorem dL_law_527 : decode cL_law 527 = .ok (.iload_n 3, 1) := by decide +kernel
theorem dL_law_528 : decode cL_law 528 = .ok (.iconst 2, 1) := by decide +kernel
theorem dL_law_529 : decode cL_law 529 = .ok (.iadd, 1) := by decide +kernel
theorem dL_law_530 : decode cL_law 530 = .ok (.iaload, 1) := by decide +kernel
theorem dL_law_531 : decode cL_law 531 = .ok (.invokevirtual 73, 3) := by decide +kernel
theorem dL_law_534 : decode cL_law 534 = .ok (.aload_n 2, 1) := by decide +kernel
theorem dL_law_535 : decode cL_law 535 = .ok (.aload_n 0, 1) := by decide +kernel
theorem dL_law_536 : decode cL_law 536 = .ok (.iload_n 3, 1) := by decide +kernel
theorem dL_law_537 : decode cL_law 537 = .ok (.iconst 1, 1) := by decide +kernel
theorem dL_law_538 : decode cL_law 538 = .ok (.iadd, 1) := by decide +kernel
theorem dL_law_539 : decode cL_law 539 = .ok (.iaload, 1) := by decide +kernel
theorem dL_law_540 : decode cL_law 540 = .ok (.aload_n 0, 1) := by decide +kernel
theorem dL_law_541 : decode cL_law 541 = .ok (.iload_n 3, 1) := by decide +kernel
theorem dL_law_542 : decode cL_law 542 = .ok (.iconst 2, 1) := by decide +kernel
theorem dL_law_543 : decode cL_law 543 = .ok (.iadd, 1) := by decide +kernel
theorem dL_law_544 : decode cL_law 544 = .ok (.iaload, 1) := by decide +kernel
theorem dL_law_545 : decode cL_law 545 = .ok (.invokevirtual 76, 3) := by decide +kernel
theorem dL_law_548 : decode cL_law 548 = .ok (.if_icmp .eq 281, 3) := by decide +kernel
theorem dL_law_551 : decode cL_law 551 = .ok (.iconst 0, 1) := by decide +kernel
theorem dL_law_552 : decode cL_law 552 = .ok (.ireturn, 1) := by decide +kernel
theorem dL_law_553 : decode cL_law 553 = .ok (.aload_n 1, 1) := by decide +kernel
theorem dL_law_554 : decode cL_law 554 = .ok (.invokevirtual 77, 3) := by decide +kernel
theorem dL_law_557 : decode cL_law 557 = .ok (.aload_n 2, 1) := by decide +kernel
theorem dL_law_558 : decode cL_law 558 = .ok (.invokevirtual 80, 3) := by decide +kernel
theorem dL_law_561 : decode cL_law 561 = .ok (.if_icmp .eq 268, 3) := by decide +kernel
theorem dL_law_564 : decode cL_law 564 = .ok (.iconst 0, 1) := by decide +kernel
theorem dL_law_565 : decode cL_law 565 = .ok (.ireturn, 1) := by decide +kernel
theorem dL_law_566 : decode cL_law 566 = .ok (.aload_n 1, 1) := by decide +kernel
theorem dL_law_567 : decode cL_law 567 = .ok (.invokevirtual 81, 3) := by decide +kernel
theorem dL_law_570 : decode cL_law 570 = .ok (.aload_n 2, 1) := by decide +kernel
theorem dL_law_571 : decode cL_law 571 = .ok (.invokevirtual 84, 3) := by decide +kernel
theorem dL_law_574 : decode cL_law 574 = .ok (.if_icmp .eq 255, 3) := by decide +kernel
theorem dL_law_577 : decode cL_law 577 = .ok (.iconst 0, 1) := by decide +kernel
theorem dL_law_578 : decode cL_law 578 = .ok (.ireturn, 1) := by decide +kernel
theorem dL_law_579 : decode cL_law 579 = .ok (.aload_n 1, 1) := by decide +kernel
theorem dL_law_580 : decode cL_law 580 = .ok (.invokevirtual 85, 3) := by decide +kernel
theorem dL_law_583 : decode cL_law 583 = .ok (.aload_n 2, 1) := by decide +kernel
theorem dL_law_584 : decode cL_law 584 = .ok (.invokevirtual 88, 3) := by decide +kernel
theorem dL_law_587 : decode cL_law 587 = .ok (.if_icmp .eq 242, 3) := by decide +kernel
theorem dL_law_590 : decode cL_law 590 = .ok (.iconst 0, 1) := by decide +kernel
theorem dL_law_591 : decode cL_law 591 = .ok (.ireturn, 1) := by decide +kernel
theorem dL_law_592 : decode cL_law 592 = .ok (.aload_n 1, 1) := by decide +kernel
theorem dL_law_593 : decode cL_law 593 = .ok (.aload_n 0, 1) := by decide +kernel
theorem dL_law_594 : decode cL_law 594 = .ok (.iload_n 3, 1) := by decide +kernel
theorem dL_law_595 : decode cL_law 595 = .ok (.iconst 1, 1) := by decide +kernel
theorem dL_law_596 : decode cL_law 596 = .ok (.iadd, 1) := by decide +kernel
theorem dL_law_597 : decode cL_law 597 = .ok (.iaload, 1) := by decide +kernel
theorem dL_law_598 : decode cL_law 598 = .ok (.invokevirtual 89, 3) := by decide +kernel
theorem dL_law_601 : decode cL_law 601 = .ok (.aload_n 2, 1) := by decide +kernel
theorem dL_law_602 : decode cL_law 602 = .ok (.aload_n 0, 1) := by decide +kernel
theorem dL_law_603 : decode cL_law 603 = .ok (.iload_n 3, 1) := by decide +kernel
theorem dL_law_604 : decode cL_law 604 = .ok (.iconst 1, 1) := by decide +kernel
theorem dL_law_605 : decode cL_law 605 = .ok (.iadd, 1) := by decide +kernel
theorem dL_law_606 : decode cL_law 606 = .ok (.iaload, 1) := by decide +kernel
theorem dL_law_607 : decode cL_law 607 = .ok (.invokevirtual 92, 3) := by decide +kernel
theorem dL_law_610 : decode cL_law 610 = .ok (.if_icmp .eq 219, 3) := by decide +kernel
theorem dL_law_613 : decode cL_law 613 = .ok (.iconst 0, 1) := by decide +kernel
theorem dL_law_614 : decode cL_law 614 = .ok (.ireturn, 1) := by decide +kernel
theorem dL_law_615 : decode cL_law 615 = .ok (.aload_n 1, 1) := by decide +kernel
theorem dL_law_616 : decode cL_law 616 = .ok (.aload_n 0, 1) := by decide +kernel
theorem dL_law_617 : decode cL_law 617 = .ok (.iload_n 3, 1) := by decide +kernel
theorem dL_law_618 : decode cL_law 618 = .ok (.iconst 1, 1) := by decide +kernel
theorem dL_law_619 : decode cL_law 619 = .ok (.iadd, 1) := by decide +kernel
theorem dL_law_620 : decode cL_law 620 = .ok (.iaload, 1) := by decide +kernel
theorem dL_law_621 : decode cL_law 621 = .ok (.invokevirtual 93, 3) := by decide +kernel
theorem dL_law_624 : decode cL_law 624 = .ok (.aload_n 2, 1) := by decide +kernel
theorem dL_law_625 : decode cL_law 625 = .ok (.aload_n 0, 1) := by decide +kernel
theorem dL_law_626 : decode cL_law 626 = .ok (.iload_n 3, 1) := by decide +kernel
theorem dL_law_627 : decode cL_law 627 = .ok (.iconst 1, 1) := by decide +kernel
theorem dL_law_628 : decode cL_law 628 = .ok (.iadd, 1) := by decide +kernel
theorem dL_law_629 : decode cL_law 629 = .ok (.iaload, 1) := by decide +kernel
theorem dL_law_630 : decode cL_law 630 = .ok (.invokevirtual 96, 3) := by decide +kernel
theorem dL_law_633 : decode cL_law 633 = .ok (.if_icmp .eq 196, 3) := by decide +kernel
theorem dL_law_636 : decode cL_law 636 = .ok (.iconst 0, 1) := by decide +kernel
theorem dL_law_637 : decode cL_law 637 = .ok (.ireturn, 1) := by decide +kernel
theorem dL_law_638 : decode cL_law 638 = .ok (.aload_n 1, 1) := by decide +kernel
theorem dL_law_639 : decode cL_law 639 = .ok (.invokevirtual 97, 3) := by decide +kernel
theorem dL_law_642 : decode cL_law 642 = .ok (.aload_n 2, 1) := by decide +kernel
theorem dL_law_643 : decode cL_law 643 = .ok (.invokevirtual 100, 3) := by decide +kernel
theorem dL_law_646 : decode cL_law 646 = .ok (.if_icmp .eq 183, 3) := by decide +kernel
theorem dL_law_649 : decode cL_law 649 = .ok (.iconst 0, 1) := by decide +kernel
theorem dL_law_650 : decode cL_law 650 = .ok (.ireturn, 1) := by decide +kernel
theorem dL_law_651 : decode cL_law 651 = .ok (.aload_n 1, 1) := by decide +kernel
theorem dL_law_652 : decode cL_law 652 = .ok (.aload_n 0, 1) := by decide +kernel
theorem dL_law_653 : decode cL_law 653 = .ok (.iload_n 3, 1) := by decide +kernel
theorem dL_law_654 : decode cL_law 654 = .ok (.iconst 1, 1) := by decide +kernel
theorem dL_law_655 : decode cL_law 655 = .ok (.iadd, 1) := by decide +kernel
theorem dL_law_656 : decode cL_law 656 = .ok (.iaload, 1) := by decide +kernel
theorem dL_law_657 : decode cL_law 657 = .ok (.invokevirtual 101, 3) := by decide +kernel
theorem dL_law_660 : decode cL_law 660 = .ok (.aload_n 2, 1) := by decide +kernel
theorem dL_law_661 : decode cL_law 661 = .ok (.aload_n 0, 1) := by decide +kernel
theorem dL_law_662 : decode cL_law 662 = .ok (.iload_n 3, 1) := by decide +kernel
theorem dL_law_663 : decode cL_law 663 = .ok (.iconst 1, 1) := by decide +kernel
theorem dL_law_664 : decode cL_law 664 = .ok (.iadd, 1) := by decide +kernel
theorem dL_law_665 : decode cL_law 665 = .ok (.iaload, 1) := by decide +kernel
theorem dL_law_666 : decode cL_law 666 = .ok (.invokevirtual 104, 3) := by decide +kernel
theorem dL_law_669 : decode cL_law 669 = .ok (.if_icmp .eq 160, 3) := by decide +kernel
theorem dL_law_672 : decode cL_law 672 = .ok (.iconst 0, 1) := by decide +kernel
theorem dL_law_673 : decode cL_law 673 = .ok (.ireturn, 1) := by decide +kernel
theorem dL_law_674 : decode cL_law 674 = .ok (.aload_n 1, 1) := by decide +kernel
theorem dL_law_675 : decode cL_law 675 = .ok (.aload_n 0, 1) := by decide +kernel
theorem dL_law_676 : decode cL_law 676 = .ok (.iload_n 3, 1) := by decide +kernel
theorem dL_law_677 : decode cL_law 677 = .ok (.iconst 1, 1) := by decide +kernel
theorem dL_law_678 : decode cL_law 678 = .ok (.iadd, 1) := by decide +kernel
theorem dL_law_679 : decode cL_law 679 = .ok (.iaload, 1) := by decide +kernel
theorem dL_law_680 : decode cL_law 680 = .ok (.invokevirtual 105, 3) := by decide +kernel
theorem dL_law_683 : decode cL_law 683 = .ok (.aload_n 2, 1) := by decide +kernel
theorem dL_law_684 : decode cL_law 684 = .ok (.aload_n 0, 1) := by decide +kernel
theorem dL_law_685 : decode cL_law 685 = .ok (.iload_n 3, 1) := by decide +kernel
theorem dL_law_686 : decode cL_law 686 = .ok (.iconst 1, 1) := by decide +kernel
theorem dL_law_687 : decode cL_law 687 = .ok (.iadd, 1) := by decide +kernel
theorem dL_law_688 : decode cL_law 688 = .ok (.iaload, 1) := by decide +kernel
theorem dL_law_689 : decode cL_law 689 = .ok (.invokevirtual 108, 3) := by decide +kernel
theorem dL_law_692 : decode cL_law 692 = .ok (.if_icmp .eq 137, 3) := by decide +kernel
theorem dL_law_695 : decode cL_law 695 = .ok (.iconst 0, 1) := by decide +kernel
theorem dL_law_696 : decode cL_law 696 = .ok (.ireturn, 1) := by decide +kernel
theorem dL_law_697 : decode cL_law 697 = .ok (.aload_n 1, 1) := by decide +kernel
theorem dL_law_698 : decode cL_law 698 = .ok (.invokevirtual 109, 3) := by decide +kernel
theorem dL_law_701 : decode cL_law 701 = .ok (.aload_n 2, 1) := by decide +kernel
theorem dL_law_702 : decode cL_law 702 = .ok (.invokevirtual 112, 3) := by decide +kernel
theorem dL_law_705 : decode cL_law 705 = .ok (.if_icmp .eq 124, 3) := by decide +kernel
theorem dL_law_708 : decode cL_law 708 = .ok (.iconst 0, 1) := by decide +kernel
theorem dL_law_709 : decode cL_law 709 = .ok (.ireturn, 1) := by decide +kernel
theorem dL_law_710 : decode cL_law 710 = .ok (.aload_n 1, 1) := by decide +kernel
theorem dL_law_711 : decode cL_law 711 = .ok (.invokevirtual 113, 3) := by decide +kernel
theorem dL_law_714 : decode cL_law 714 = .ok (.aload_n 2, 1) := by decide +kernel
theorem dL_law_715 : decode cL_law 715 = .ok (.invokevirtual 116, 3) := by decide +kernel
theorem dL_law_718 : decode cL_law 718 = .ok (.if_icmp .eq 111, 3) := by decide +kernel
theorem dL_law_721 : decode cL_law 721 = .ok (.iconst 0, 1) := by decide +kernel
theorem dL_law_722 : decode cL_law 722 = .ok (.ireturn, 1) := by decide +kernel
theorem dL_law_723 : decode cL_law 723 = .ok (.aload_n 1, 1) := by decide +kernel
theorem dL_law_724 : decode cL_law 724 = .ok (.aload_n 0, 1) := by decide +kernel
theorem dL_law_725 : decode cL_law 725 = .ok (.iload_n 3, 1) := by decide +kernel
theorem dL_law_726 : decode cL_law 726 = .ok (.iconst 1, 1) := by decide +kernel
theorem dL_law_727 : decode cL_law 727 = .ok (.iadd, 1) := by decide +kernel
theorem dL_law_728 : decode cL_law 728 = .ok (.iaload, 1) := by decide +kernel
theorem dL_law_729 : decode cL_law 729 = .ok (.invokevirtual 117, 3) := by decide +kernel
theorem dL_law_732 : decode cL_law 732 = .ok (.aload_n 2, 1) := by decide +kernel
theorem dL_law_733 : decode cL_law 733 = .ok (.aload_n 0, 1) := by decide +kernel
theorem dL_law_734 : decode cL_law 734 = .ok (.iload_n 3, 1) := by decide +kernel
theorem dL_law_735 : decode cL_law 735 = .ok (.iconst 1, 1) := by decide +kernel
theorem dL_law_736 : decode cL_law 736 = .ok (.iadd, 1) := by decide +kernel
theorem dL_law_737 : decode cL_law 737 = .ok (.iaload, 1) := by decide +kernel
theorem dL_law_738 : decode cL_law 738 = .ok (.invokevirtual 121, 3) := by decide +kernel
theorem dL_law_741 : decode cL_law 741 = .ok (.lcmp, 1) := by decide +kernel
theorem dL_law_742 : decode cL_law 742 = .ok (.ifCond .eq 87, 3) := by decide +kernel
theorem dL_law_745 : decode cL_law 745 = .ok (.iconst 0, 1) := by decide +kernel
theorem dL_law_746 : decode cL_law 746 = .ok (.ireturn, 1) := by decide +kernel
theorem dL_law_747 : decode cL_law 747 = .ok (.aload_n 1, 1) := by decide +kernel
theorem dL_law_748 : decode cL_law 748 = .ok (.aload_n 0, 1) := by decide +kernel
theorem dL_law_749 : decode cL_law 749 = .ok (.iload_n 3, 1) := by decide +kernel
theorem dL_law_750 : decode cL_law 750 = .ok (.iconst 1, 1) := by decide +kernel
theorem dL_law_751 : decode cL_law 751 = .ok (.iadd, 1) := by decide +kernel
theorem dL_law_752 : decode cL_law 752 = .ok (.iaload, 1) := by decide +kernel
theorem dL_law_753 : decode cL_law 753 = .ok (.aload_n 0, 1) := by decide +kernel
theorem dL_law_754 : decode cL_law 754 = .ok (.iload_n 3, 1) := by decide +kernel
theorem dL_law_755 : decode cL_law 755 = .ok (.iconst 2, 1) := by decide +kernel
theorem dL_law_756 : decode cL_law 756 = .ok (.iadd, 1) := by decide +kernel
theorem dL_law_757 : decode cL_law 757 = .ok (.iaload, 1) := by decide +kernel
theorem dL_law_758 : decode cL_law 758 = .ok (.invokevirtual 122, 3) := by decide +kernel
theorem dL_law_761 : decode cL_law 761 = .ok (.aload_n 2, 1) := by decide +kernel
theorem dL_law_762 : decode cL_law 762 = .ok (.aload_n 0, 1) := by decide +kernel
theorem dL_law_763 : decode cL_law 763 = .ok (.iload_n 3, 1) := by decide +kernel
theorem dL_law_764 : decode cL_law 764 = .ok (.iconst 1, 1) := by decide +kernel
theorem dL_law_765 : decode cL_law 765 = .ok (.iadd, 1) := by decide +kernel
theorem dL_law_766 : decode cL_law 766 = .ok (.iaload, 1) := by decide +kernel
theorem dL_law_767 : decode cL_law 767 = .ok (.aload_n 0, 1) := by decide +kernel
theorem dL_law_768 : decode cL_law 768 = .ok (.iload_n 3, 1) := by decide +kernel
theorem dL_law_769 : decode cL_law 769 = .ok (.iconst 2, 1) := by decide +kernel
theorem dL_law_770 : decode cL_law 770 = .ok (.iadd, 1) := by decide +kernel
theorem dL_law_771 : decode cL_law 771 = .ok (.iaload, 1) := by decide +kernel
theorem dL_law_772 : decode cL_law 772 = .ok (.invokevirtual 125, 3) := by decide +kernel
theorem dL_law_775 : decode cL_law 775 = .ok (.if_icmp .eq 54, 3) := by decide +kernel
theorem dL_law_778 : decode cL_law 778 = .ok (.iconst 0, 1) := by decide +kernel
theorem dL_law_779 : decode cL_law 779 = .ok (.ireturn, 1) := by decide +kernel
theorem dL_law_780 : decode cL_law 780 = .ok (.aload_n 1, 1) := by decide +kernel
theorem dL_law_781 : decode cL_law 781 = .ok (.invokevirtual 126, 3) := by decide +kernel
theorem dL_law_784 : decode cL_law 784 = .ok (.aload_n 2, 1) := by decide +kernel
theorem dL_law_785 : decode cL_law 785 = .ok (.invokevirtual 129, 3) := by decide +kernel
theorem dL_law_788 : decode cL_law 788 = .ok (.if_icmp .eq 41, 3) := by decide +kernel
theorem dL_law_791 : decode cL_law 791 = .ok (.iconst 0, 1) := by decide +kernel
theorem dL_law_792 : decode cL_law 792 = .ok (.ireturn, 1) := by decide +kernel
theorem dL_law_793 : decode cL_law 793 = .ok (.aload_n 1, 1) := by decide +kernel
theorem dL_law_794 : decode cL_law 794 = .ok (.invokevirtual 130, 3) := by decide +kernel
theorem dL_law_797 : decode cL_law 797 = .ok (.aload_n 2, 1) := by decide +kernel
theorem dL_law_798 : decode cL_law 798 = .ok (.invokevirtual 133, 3) := by decide +kernel
theorem dL_law_801 : decode cL_law 801 = .ok (.if_icmp .eq 28, 3) := by decide +kernel
theorem dL_law_804 : decode cL_law 804 = .ok (.iconst 0, 1) := by decide +kernel
theorem dL_law_805 : decode cL_law 805 = .ok (.ireturn, 1) := by decide +kernel
theorem dL_law_806 : decode cL_law 806 = .ok (.aload_n 1, 1) := by decide +kernel
theorem dL_law_807 : decode cL_law 807 = .ok (.aload_n 0, 1) := by decide +kernel
theorem dL_law_808 : decode cL_law 808 = .ok (.iload_n 3, 1) := by decide +kernel
theorem dL_law_809 : decode cL_law 809 = .ok (.iconst 1, 1) := by decide +kernel
theorem dL_law_810 : decode cL_law 810 = .ok (.iadd, 1) := by decide +kernel
theorem dL_law_811 : decode cL_law 811 = .ok (.iaload, 1) := by decide +kernel
theorem dL_law_812 : decode cL_law 812 = .ok (.invokevirtual 134, 3) := by decide +kernel
theorem dL_law_815 : decode cL_law 815 = .ok (.aload_n 2, 1) := by decide +kernel
theorem dL_law_816 : decode cL_law 816 = .ok (.aload_n 0, 1) := by decide +kernel
theorem dL_law_817 : decode cL_law 817 = .ok (.iload_n 3, 1) := by decide +kernel
theorem dL_law_818 : decode cL_law 818 = .ok (.iconst 1, 1) := by decide +kernel
theorem dL_law_819 : decode cL_law 819 = .ok (.iadd, 1) := by decide +kernel
theorem dL_law_820 : decode cL_law 820 = .ok (.iaload, 1) := by decide +kernel
theorem dL_law_821 : decode cL_law 821 = .ok (.invokevirtual 137, 3) := by decide +kernel
theorem dL_law_824 : decode cL_law 824 = .ok (.if_icmp .eq 5, 3) := by decide +kernel
theorem dL_law_827 : decode cL_law 827 = .ok (.iconst 0, 1) := by decide +kernel
theorem dL_law_828 : decode cL_law 828 = .ok (.ireturn, 1) := by decide +kernel
theorem dL_law_829 : decode cL_law 829 = .ok (.iinc 3 4, 3) := by decide +kernel
theorem dL_law_832 : decode cL_law 832 = .ok (.goto (-814), 3) := by decide +kernel
theorem dL_law_835 : decode cL_law 835 = .ok (.iconst 1, 1) := by decide +kernel
theorem dL_law_836 : decode cL_law 836 = .ok (.ireturn, 1) := by decide +kernel
end
section
/-! the system's memory as ints by cell and slot; references never change behind the constructors -/
abbrev wMem : Type := Nat → Nat → Int32
def wup (M : wMem) (k j : Nat) (v : Int32) : wMem := fun a => if a = k then upd (M k) j v else M a
/-- dC and dI; the address of each cell; the four kinds of arrays; the addresses of the four tables; the least address of the system -/
abbrev wE : Type := va_G × (Nat → Nat) × (Nat → ClassId) × (Nat → Nat) × Nat
def wD (E : wE) : va_G := E.1
def wad (E : wE) : Nat → Nat := E.2.1
def wcy (E : wE) : Nat → ClassId := E.2.2.1
def wst (E : wE) : Nat → Nat := E.2.2.2.1
def wbs (E : wE) : Nat := E.2.2.2.2
def wA (E : wE) : Nat → Prop := fun q => wbs E ≤ q
def wkL : List Nat := [8, 4, 22, 21, 0, 0, 0, 0, 0, 0, 0, 0, 0, 0, 0, 0, 4, 22, 21, 0, 0, 0, 0, 0, 0, 0, 0, 0, 0, 0, 0, 3, 4, 22, 21, 0, 0, 0, 0, 0, 0, 0, 0, 0, 0, 0, 0, 1, 20, 6, 2, 21, 21, 5, 23, 21, 21, 21, 21, 21, 21, 21, 21, 21, 21, 21, 21, 7, 21, 21, 9, 21, 21, 21, 21, 21, 21, 21, 21, 21, 21, 21, 21, 21, 21, 21, 21, 21, 21, 21, 21]
def wlL : List Nat := [0, 0, 12, 4, 0, 0, 0, 0, 0, 0, 0, 0, 0, 0, 0, 0, 0, 12, 4, 0, 0, 0, 0, 0, 0, 0, 0, 0, 0, 0, 0, 0, 0, 12, 4, 0, 0, 0, 0, 0, 0, 0, 0, 0, 0, 0, 0, 0, 64, 0, 0, 6, 6, 0, 12, 12, 12, 12, 12, 12, 12, 12, 12, 12, 12, 12, 12, 0, 12, 6, 0, 7, 12, 12, 12, 12, 12, 4, 64, 32, 32, 96, 160, 12, 144, 144, 144, 144, 12, 6, 6]
def wkd (k : Nat) : Nat := wkL.getD k 99
def wln (k : Nat) : Nat := wlL.getD k 0
def wen (E : wE) (k : Nat) (m : Nat → Int32) : va_E := match wkd k with
  | 0 => .inr (0, [.int (m 0), .int (m 1), .int (m 2), .int (m 3), .int (m 4)])
  | 1 => .inr (1, [.ref (wad E (k + 1)), .int (m 1)])
  | 2 => .inr (2, [.ref (wad E (k + 1)), .ref (wad E (k + 2)), .int (m 2)])
  | 3 => .inr (3, [.ref (wad E (k + 1))])
  | 4 => .inr (4, [.ref (wad E (k + 1)), .ref (wad E (k + 2)), .int (m 2), .int (m 3)])
  | 5 => .inr (5, [.ref (wad E (k + 1))])
  | 6 => .inr (6, [.int (m 0), .int (m 1), .int (m 2), .int (m 3), .int (m 4), .int (m 5)])
  | 7 => .inr (7, [.ref (wad E (k + 1))])
  | 8 => .inr (8, [.ref (wad E 1), .ref (wad E 16), .ref (wad E 31), .ref (wad E 47), .ref (wad E 49), .ref (wad E 50), .ref (wad E 53), .ref (wad E 67), .ref (wad E 69), .int (m 9)])
  | 9 => .inr (9, [.ref (wad E 71), .ref (wad E 72), .ref (wad E 73), .ref (wad E 74), .ref (wad E 75), .ref (wad E 76), .ref (wad E 77), .int (m 7), .int (m 8), .ref (wad E 78), .ref (wad E 79), .ref (wad E 80), .ref (wad E 81), .int (m 13), .int (m 14), .int (m 15), .ref (wad E 82), .int (m 17), .int (m 18), .int (m 19), .ref (wad E 83), .ref (wad E 84), .ref (wad E 85), .ref (wad E 86), .ref (wad E 87), .ref (wad E 88), .ref (wad E 89), .ref (wad E 90), .int (m 28), .int (m 29), .int (m 30)])
  | 20 => .inl (wcy E 0, wln k, .inl m)
  | 21 => .inl (wcy E 1, wln k, .inl m)
  | 22 => .inl (wcy E 2, wln k, .inr (.inr (.inr (.inr (fun i => some (wad E (k + 2 + i)))))))
  | _ => .inl (wcy E 3, wln k, .inr (.inr (.inr (.inr (fun i => some (wad E (k + 1 + i)))))))
theorem wen_0 {E : wE} {k : Nat} {m : Nat → Int32} (h : wkd k = 0) : wen E k m = .inr (0, [.int (m 0), .int (m 1), .int (m 2), .int (m 3), .int (m 4)]) := by simp only [wen, h]
theorem wen_1 {E : wE} {k : Nat} {m : Nat → Int32} (h : wkd k = 1) : wen E k m = .inr (1, [.ref (wad E (k + 1)), .int (m 1)]) := by simp only [wen, h]
theorem wen_2 {E : wE} {k : Nat} {m : Nat → Int32} (h : wkd k = 2) : wen E k m = .inr (2, [.ref (wad E (k + 1)), .ref (wad E (k + 2)), .int (m 2)]) := by simp only [wen, h]
theorem wen_3 {E : wE} {k : Nat} {m : Nat → Int32} (h : wkd k = 3) : wen E k m = .inr (3, [.ref (wad E (k + 1))]) := by simp only [wen, h]
theorem wen_4 {E : wE} {k : Nat} {m : Nat → Int32} (h : wkd k = 4) : wen E k m = .inr (4, [.ref (wad E (k + 1)), .ref (wad E (k + 2)), .int (m 2), .int (m 3)]) := by simp only [wen, h]
theorem wen_5 {E : wE} {k : Nat} {m : Nat → Int32} (h : wkd k = 5) : wen E k m = .inr (5, [.ref (wad E (k + 1))]) := by simp only [wen, h]
theorem wen_6 {E : wE} {k : Nat} {m : Nat → Int32} (h : wkd k = 6) : wen E k m = .inr (6, [.int (m 0), .int (m 1), .int (m 2), .int (m 3), .int (m 4), .int (m 5)]) := by simp only [wen, h]
theorem wen_7 {E : wE} {k : Nat} {m : Nat → Int32} (h : wkd k = 7) : wen E k m = .inr (7, [.ref (wad E (k + 1))]) := by simp only [wen, h]
theorem wen_8 {E : wE} {k : Nat} {m : Nat → Int32} (h : wkd k = 8) : wen E k m = .inr (8, [.ref (wad E 1), .ref (wad E 16), .ref (wad E 31), .ref (wad E 47), .ref (wad E 49), .ref (wad E 50), .ref (wad E 53), .ref (wad E 67), .ref (wad E 69), .int (m 9)]) := by simp only [wen, h]
theorem wen_9 {E : wE} {k : Nat} {m : Nat → Int32} (h : wkd k = 9) : wen E k m = .inr (9, [.ref (wad E 71), .ref (wad E 72), .ref (wad E 73), .ref (wad E 74), .ref (wad E 75), .ref (wad E 76), .ref (wad E 77), .int (m 7), .int (m 8), .ref (wad E 78), .ref (wad E 79), .ref (wad E 80), .ref (wad E 81), .int (m 13), .int (m 14), .int (m 15), .ref (wad E 82), .int (m 17), .int (m 18), .int (m 19), .ref (wad E 83), .ref (wad E 84), .ref (wad E 85), .ref (wad E 86), .ref (wad E 87), .ref (wad E 88), .ref (wad E 89), .ref (wad E 90), .int (m 28), .int (m 29), .int (m 30)]) := by simp only [wen, h]
theorem wen_20 {E : wE} {k : Nat} {m : Nat → Int32} (h : wkd k = 20) : wen E k m = .inl (wcy E 0, wln k, .inl m) := by simp only [wen, h]
theorem wen_21 {E : wE} {k : Nat} {m : Nat → Int32} (h : wkd k = 21) : wen E k m = .inl (wcy E 1, wln k, .inl m) := by simp only [wen, h]
theorem wen_22 {E : wE} {k : Nat} {m : Nat → Int32} (h : wkd k = 22) : wen E k m = .inl (wcy E 2, wln k, .inr (.inr (.inr (.inr (fun i => some (wad E (k + 2 + i))))))) := by simp only [wen, h]
theorem wen_23 {E : wE} {k : Nat} {m : Nat → Int32} (h : wkd k = 23) : wen E k m = .inl (wcy E 3, wln k, .inr (.inr (.inr (.inr (fun i => some (wad E (k + 1 + i))))))) := by simp only [wen, h]
theorem wkd_lt {k n : Nat} (h : wkd k = n) (hn : n ≠ 99) : k < 91 := Nat.lt_of_not_le fun hle => hn (by rw [← h]; unfold wkd; rw [List.getD_eq_getElem?_getD, List.getElem?_eq_none (show wkL.length ≤ k from hle)]; rfl)
theorem wlt_0 {k : Nat} (h : wkd k = 0) : k < 91 := wkd_lt h (by decide)
theorem wlt_1 {k : Nat} (h : wkd k = 1) : k < 91 := wkd_lt h (by decide)
theorem wlt_2 {k : Nat} (h : wkd k = 2) : k < 91 := wkd_lt h (by decide)
theorem wlt_3 {k : Nat} (h : wkd k = 3) : k < 91 := wkd_lt h (by decide)
theorem wlt_4 {k : Nat} (h : wkd k = 4) : k < 91 := wkd_lt h (by decide)
theorem wlt_5 {k : Nat} (h : wkd k = 5) : k < 91 := wkd_lt h (by decide)
theorem wlt_6 {k : Nat} (h : wkd k = 6) : k < 91 := wkd_lt h (by decide)
theorem wlt_7 {k : Nat} (h : wkd k = 7) : k < 91 := wkd_lt h (by decide)
theorem wlt_8 {k : Nat} (h : wkd k = 8) : k < 91 := wkd_lt h (by decide)
theorem wlt_9 {k : Nat} (h : wkd k = 9) : k < 91 := wkd_lt h (by decide)
theorem wlt_20 {k : Nat} (h : wkd k = 20) : k < 91 := wkd_lt h (by decide)
theorem wlt_21 {k : Nat} (h : wkd k = 21) : k < 91 := wkd_lt h (by decide)
theorem wlt_22 {k : Nat} (h : wkd k = 22) : k < 91 := wkd_lt h (by decide)
theorem wlt_23 {k : Nat} (h : wkd k = 23) : k < 91 := wkd_lt h (by decide)
theorem wpt_0_0 {E : wE} {k : Nat} {m : Nat → Int32} {v : Int32} (h : wkd k = 0) : (Sum.inr (0, ([.int (m 0), .int (m 1), .int (m 2), .int (m 3), .int (m 4)] : List Value).set 0 (.int v)) : va_E) = wen E k (upd m 0 v) := by rw [wen_0 h]; rfl
theorem wpt_0_1 {E : wE} {k : Nat} {m : Nat → Int32} {v : Int32} (h : wkd k = 0) : (Sum.inr (0, ([.int (m 0), .int (m 1), .int (m 2), .int (m 3), .int (m 4)] : List Value).set 1 (.int v)) : va_E) = wen E k (upd m 1 v) := by rw [wen_0 h]; rfl
theorem wpt_0_2 {E : wE} {k : Nat} {m : Nat → Int32} {v : Int32} (h : wkd k = 0) : (Sum.inr (0, ([.int (m 0), .int (m 1), .int (m 2), .int (m 3), .int (m 4)] : List Value).set 2 (.int v)) : va_E) = wen E k (upd m 2 v) := by rw [wen_0 h]; rfl
theorem wpt_0_3 {E : wE} {k : Nat} {m : Nat → Int32} {v : Int32} (h : wkd k = 0) : (Sum.inr (0, ([.int (m 0), .int (m 1), .int (m 2), .int (m 3), .int (m 4)] : List Value).set 3 (.int v)) : va_E) = wen E k (upd m 3 v) := by rw [wen_0 h]; rfl
theorem wpt_0_4 {E : wE} {k : Nat} {m : Nat → Int32} {v : Int32} (h : wkd k = 0) : (Sum.inr (0, ([.int (m 0), .int (m 1), .int (m 2), .int (m 3), .int (m 4)] : List Value).set 4 (.int v)) : va_E) = wen E k (upd m 4 v) := by rw [wen_0 h]; rfl
theorem wpt_1_1 {E : wE} {k : Nat} {m : Nat → Int32} {v : Int32} (h : wkd k = 1) : (Sum.inr (1, ([.ref (wad E (k + 1)), .int (m 1)] : List Value).set 1 (.int v)) : va_E) = wen E k (upd m 1 v) := by rw [wen_1 h]; rfl
theorem wpt_2_2 {E : wE} {k : Nat} {m : Nat → Int32} {v : Int32} (h : wkd k = 2) : (Sum.inr (2, ([.ref (wad E (k + 1)), .ref (wad E (k + 2)), .int (m 2)] : List Value).set 2 (.int v)) : va_E) = wen E k (upd m 2 v) := by rw [wen_2 h]; rfl
theorem wpt_4_2 {E : wE} {k : Nat} {m : Nat → Int32} {v : Int32} (h : wkd k = 4) : (Sum.inr (4, ([.ref (wad E (k + 1)), .ref (wad E (k + 2)), .int (m 2), .int (m 3)] : List Value).set 2 (.int v)) : va_E) = wen E k (upd m 2 v) := by rw [wen_4 h]; rfl
theorem wpt_4_3 {E : wE} {k : Nat} {m : Nat → Int32} {v : Int32} (h : wkd k = 4) : (Sum.inr (4, ([.ref (wad E (k + 1)), .ref (wad E (k + 2)), .int (m 2), .int (m 3)] : List Value).set 3 (.int v)) : va_E) = wen E k (upd m 3 v) := by rw [wen_4 h]; rfl
theorem wpt_6_0 {E : wE} {k : Nat} {m : Nat → Int32} {v : Int32} (h : wkd k = 6) : (Sum.inr (6, ([.int (m 0), .int (m 1), .int (m 2), .int (m 3), .int (m 4), .int (m 5)] : List Value).set 0 (.int v)) : va_E) = wen E k (upd m 0 v) := by rw [wen_6 h]; rfl
theorem wpt_6_1 {E : wE} {k : Nat} {m : Nat → Int32} {v : Int32} (h : wkd k = 6) : (Sum.inr (6, ([.int (m 0), .int (m 1), .int (m 2), .int (m 3), .int (m 4), .int (m 5)] : List Value).set 1 (.int v)) : va_E) = wen E k (upd m 1 v) := by rw [wen_6 h]; rfl
theorem wpt_6_2 {E : wE} {k : Nat} {m : Nat → Int32} {v : Int32} (h : wkd k = 6) : (Sum.inr (6, ([.int (m 0), .int (m 1), .int (m 2), .int (m 3), .int (m 4), .int (m 5)] : List Value).set 2 (.int v)) : va_E) = wen E k (upd m 2 v) := by rw [wen_6 h]; rfl
theorem wpt_6_3 {E : wE} {k : Nat} {m : Nat → Int32} {v : Int32} (h : wkd k = 6) : (Sum.inr (6, ([.int (m 0), .int (m 1), .int (m 2), .int (m 3), .int (m 4), .int (m 5)] : List Value).set 3 (.int v)) : va_E) = wen E k (upd m 3 v) := by rw [wen_6 h]; rfl
theorem wpt_6_4 {E : wE} {k : Nat} {m : Nat → Int32} {v : Int32} (h : wkd k = 6) : (Sum.inr (6, ([.int (m 0), .int (m 1), .int (m 2), .int (m 3), .int (m 4), .int (m 5)] : List Value).set 4 (.int v)) : va_E) = wen E k (upd m 4 v) := by rw [wen_6 h]; rfl
theorem wpt_6_5 {E : wE} {k : Nat} {m : Nat → Int32} {v : Int32} (h : wkd k = 6) : (Sum.inr (6, ([.int (m 0), .int (m 1), .int (m 2), .int (m 3), .int (m 4), .int (m 5)] : List Value).set 5 (.int v)) : va_E) = wen E k (upd m 5 v) := by rw [wen_6 h]; rfl
theorem wpt_8_9 {E : wE} {k : Nat} {m : Nat → Int32} {v : Int32} (h : wkd k = 8) : (Sum.inr (8, ([.ref (wad E 1), .ref (wad E 16), .ref (wad E 31), .ref (wad E 47), .ref (wad E 49), .ref (wad E 50), .ref (wad E 53), .ref (wad E 67), .ref (wad E 69), .int (m 9)] : List Value).set 9 (.int v)) : va_E) = wen E k (upd m 9 v) := by rw [wen_8 h]; rfl
theorem wpt_9_7 {E : wE} {k : Nat} {m : Nat → Int32} {v : Int32} (h : wkd k = 9) : (Sum.inr (9, ([.ref (wad E 71), .ref (wad E 72), .ref (wad E 73), .ref (wad E 74), .ref (wad E 75), .ref (wad E 76), .ref (wad E 77), .int (m 7), .int (m 8), .ref (wad E 78), .ref (wad E 79), .ref (wad E 80), .ref (wad E 81), .int (m 13), .int (m 14), .int (m 15), .ref (wad E 82), .int (m 17), .int (m 18), .int (m 19), .ref (wad E 83), .ref (wad E 84), .ref (wad E 85), .ref (wad E 86), .ref (wad E 87), .ref (wad E 88), .ref (wad E 89), .ref (wad E 90), .int (m 28), .int (m 29), .int (m 30)] : List Value).set 7 (.int v)) : va_E) = wen E k (upd m 7 v) := by rw [wen_9 h]; rfl
theorem wpt_9_8 {E : wE} {k : Nat} {m : Nat → Int32} {v : Int32} (h : wkd k = 9) : (Sum.inr (9, ([.ref (wad E 71), .ref (wad E 72), .ref (wad E 73), .ref (wad E 74), .ref (wad E 75), .ref (wad E 76), .ref (wad E 77), .int (m 7), .int (m 8), .ref (wad E 78), .ref (wad E 79), .ref (wad E 80), .ref (wad E 81), .int (m 13), .int (m 14), .int (m 15), .ref (wad E 82), .int (m 17), .int (m 18), .int (m 19), .ref (wad E 83), .ref (wad E 84), .ref (wad E 85), .ref (wad E 86), .ref (wad E 87), .ref (wad E 88), .ref (wad E 89), .ref (wad E 90), .int (m 28), .int (m 29), .int (m 30)] : List Value).set 8 (.int v)) : va_E) = wen E k (upd m 8 v) := by rw [wen_9 h]; rfl
theorem wpt_9_13 {E : wE} {k : Nat} {m : Nat → Int32} {v : Int32} (h : wkd k = 9) : (Sum.inr (9, ([.ref (wad E 71), .ref (wad E 72), .ref (wad E 73), .ref (wad E 74), .ref (wad E 75), .ref (wad E 76), .ref (wad E 77), .int (m 7), .int (m 8), .ref (wad E 78), .ref (wad E 79), .ref (wad E 80), .ref (wad E 81), .int (m 13), .int (m 14), .int (m 15), .ref (wad E 82), .int (m 17), .int (m 18), .int (m 19), .ref (wad E 83), .ref (wad E 84), .ref (wad E 85), .ref (wad E 86), .ref (wad E 87), .ref (wad E 88), .ref (wad E 89), .ref (wad E 90), .int (m 28), .int (m 29), .int (m 30)] : List Value).set 13 (.int v)) : va_E) = wen E k (upd m 13 v) := by rw [wen_9 h]; rfl
theorem wpt_9_14 {E : wE} {k : Nat} {m : Nat → Int32} {v : Int32} (h : wkd k = 9) : (Sum.inr (9, ([.ref (wad E 71), .ref (wad E 72), .ref (wad E 73), .ref (wad E 74), .ref (wad E 75), .ref (wad E 76), .ref (wad E 77), .int (m 7), .int (m 8), .ref (wad E 78), .ref (wad E 79), .ref (wad E 80), .ref (wad E 81), .int (m 13), .int (m 14), .int (m 15), .ref (wad E 82), .int (m 17), .int (m 18), .int (m 19), .ref (wad E 83), .ref (wad E 84), .ref (wad E 85), .ref (wad E 86), .ref (wad E 87), .ref (wad E 88), .ref (wad E 89), .ref (wad E 90), .int (m 28), .int (m 29), .int (m 30)] : List Value).set 14 (.int v)) : va_E) = wen E k (upd m 14 v) := by rw [wen_9 h]; rfl
theorem wpt_9_15 {E : wE} {k : Nat} {m : Nat → Int32} {v : Int32} (h : wkd k = 9) : (Sum.inr (9, ([.ref (wad E 71), .ref (wad E 72), .ref (wad E 73), .ref (wad E 74), .ref (wad E 75), .ref (wad E 76), .ref (wad E 77), .int (m 7), .int (m 8), .ref (wad E 78), .ref (wad E 79), .ref (wad E 80), .ref (wad E 81), .int (m 13), .int (m 14), .int (m 15), .ref (wad E 82), .int (m 17), .int (m 18), .int (m 19), .ref (wad E 83), .ref (wad E 84), .ref (wad E 85), .ref (wad E 86), .ref (wad E 87), .ref (wad E 88), .ref (wad E 89), .ref (wad E 90), .int (m 28), .int (m 29), .int (m 30)] : List Value).set 15 (.int v)) : va_E) = wen E k (upd m 15 v) := by rw [wen_9 h]; rfl
theorem wpt_9_17 {E : wE} {k : Nat} {m : Nat → Int32} {v : Int32} (h : wkd k = 9) : (Sum.inr (9, ([.ref (wad E 71), .ref (wad E 72), .ref (wad E 73), .ref (wad E 74), .ref (wad E 75), .ref (wad E 76), .ref (wad E 77), .int (m 7), .int (m 8), .ref (wad E 78), .ref (wad E 79), .ref (wad E 80), .ref (wad E 81), .int (m 13), .int (m 14), .int (m 15), .ref (wad E 82), .int (m 17), .int (m 18), .int (m 19), .ref (wad E 83), .ref (wad E 84), .ref (wad E 85), .ref (wad E 86), .ref (wad E 87), .ref (wad E 88), .ref (wad E 89), .ref (wad E 90), .int (m 28), .int (m 29), .int (m 30)] : List Value).set 17 (.int v)) : va_E) = wen E k (upd m 17 v) := by rw [wen_9 h]; rfl
theorem wpt_9_18 {E : wE} {k : Nat} {m : Nat → Int32} {v : Int32} (h : wkd k = 9) : (Sum.inr (9, ([.ref (wad E 71), .ref (wad E 72), .ref (wad E 73), .ref (wad E 74), .ref (wad E 75), .ref (wad E 76), .ref (wad E 77), .int (m 7), .int (m 8), .ref (wad E 78), .ref (wad E 79), .ref (wad E 80), .ref (wad E 81), .int (m 13), .int (m 14), .int (m 15), .ref (wad E 82), .int (m 17), .int (m 18), .int (m 19), .ref (wad E 83), .ref (wad E 84), .ref (wad E 85), .ref (wad E 86), .ref (wad E 87), .ref (wad E 88), .ref (wad E 89), .ref (wad E 90), .int (m 28), .int (m 29), .int (m 30)] : List Value).set 18 (.int v)) : va_E) = wen E k (upd m 18 v) := by rw [wen_9 h]; rfl
theorem wpt_9_19 {E : wE} {k : Nat} {m : Nat → Int32} {v : Int32} (h : wkd k = 9) : (Sum.inr (9, ([.ref (wad E 71), .ref (wad E 72), .ref (wad E 73), .ref (wad E 74), .ref (wad E 75), .ref (wad E 76), .ref (wad E 77), .int (m 7), .int (m 8), .ref (wad E 78), .ref (wad E 79), .ref (wad E 80), .ref (wad E 81), .int (m 13), .int (m 14), .int (m 15), .ref (wad E 82), .int (m 17), .int (m 18), .int (m 19), .ref (wad E 83), .ref (wad E 84), .ref (wad E 85), .ref (wad E 86), .ref (wad E 87), .ref (wad E 88), .ref (wad E 89), .ref (wad E 90), .int (m 28), .int (m 29), .int (m 30)] : List Value).set 19 (.int v)) : va_E) = wen E k (upd m 19 v) := by rw [wen_9 h]; rfl
theorem wpt_9_28 {E : wE} {k : Nat} {m : Nat → Int32} {v : Int32} (h : wkd k = 9) : (Sum.inr (9, ([.ref (wad E 71), .ref (wad E 72), .ref (wad E 73), .ref (wad E 74), .ref (wad E 75), .ref (wad E 76), .ref (wad E 77), .int (m 7), .int (m 8), .ref (wad E 78), .ref (wad E 79), .ref (wad E 80), .ref (wad E 81), .int (m 13), .int (m 14), .int (m 15), .ref (wad E 82), .int (m 17), .int (m 18), .int (m 19), .ref (wad E 83), .ref (wad E 84), .ref (wad E 85), .ref (wad E 86), .ref (wad E 87), .ref (wad E 88), .ref (wad E 89), .ref (wad E 90), .int (m 28), .int (m 29), .int (m 30)] : List Value).set 28 (.int v)) : va_E) = wen E k (upd m 28 v) := by rw [wen_9 h]; rfl
theorem wpt_9_29 {E : wE} {k : Nat} {m : Nat → Int32} {v : Int32} (h : wkd k = 9) : (Sum.inr (9, ([.ref (wad E 71), .ref (wad E 72), .ref (wad E 73), .ref (wad E 74), .ref (wad E 75), .ref (wad E 76), .ref (wad E 77), .int (m 7), .int (m 8), .ref (wad E 78), .ref (wad E 79), .ref (wad E 80), .ref (wad E 81), .int (m 13), .int (m 14), .int (m 15), .ref (wad E 82), .int (m 17), .int (m 18), .int (m 19), .ref (wad E 83), .ref (wad E 84), .ref (wad E 85), .ref (wad E 86), .ref (wad E 87), .ref (wad E 88), .ref (wad E 89), .ref (wad E 90), .int (m 28), .int (m 29), .int (m 30)] : List Value).set 29 (.int v)) : va_E) = wen E k (upd m 29 v) := by rw [wen_9 h]; rfl
theorem wpt_9_30 {E : wE} {k : Nat} {m : Nat → Int32} {v : Int32} (h : wkd k = 9) : (Sum.inr (9, ([.ref (wad E 71), .ref (wad E 72), .ref (wad E 73), .ref (wad E 74), .ref (wad E 75), .ref (wad E 76), .ref (wad E 77), .int (m 7), .int (m 8), .ref (wad E 78), .ref (wad E 79), .ref (wad E 80), .ref (wad E 81), .int (m 13), .int (m 14), .int (m 15), .ref (wad E 82), .int (m 17), .int (m 18), .int (m 19), .ref (wad E 83), .ref (wad E 84), .ref (wad E 85), .ref (wad E 86), .ref (wad E 87), .ref (wad E 88), .ref (wad E 89), .ref (wad E 90), .int (m 28), .int (m 29), .int (m 30)] : List Value).set 30 (.int v)) : va_E) = wen E k (upd m 30 v) := by rw [wen_9 h]; rfl
theorem wk_row0 : ∀ k, k < 91 → wkd k = 4 → (wkd (k + 1) = 22 ∧ wkd (k + 2) = 21 ∧ wln (k + 1) = 12 ∧ wln (k + 2) = 4) := by decide +kernel
theorem wk_lmp0 : ∀ k, k < 91 → wkd k = 22 → (wln k = 12 ∧ ∀ i, i < 12 → wkd (k + 2 + i) = 0) := by decide +kernel
theorem wk_lst0 : ∀ k, k < 91 → wkd k = 23 → (wln k = 12 ∧ ∀ i, i < 12 → (wkd (k + 1 + i) = 21 ∧ wln (k + 1 + i) = 12)) := by decide +kernel
theorem wk4_1 {k : Nat} (h : wkd k = 4) : wkd (k + 1) = 22 := (wk_row0 k (wkd_lt h (by decide)) h).1
theorem wk4_2 {k : Nat} (h : wkd k = 4) : wkd (k + 2) = 21 := (wk_row0 k (wkd_lt h (by decide)) h).2.1
theorem wl4_2 {k : Nat} (h : wkd k = 4) : wln (k + 2) = 4 := (wk_row0 k (wkd_lt h (by decide)) h).2.2.2
theorem wl22 {k : Nat} (h : wkd k = 22) : wln k = 12 := (wk_lmp0 k (wkd_lt h (by decide)) h).1
theorem wl23 {k : Nat} (h : wkd k = 23) : wln k = 12 := (wk_lst0 k (wkd_lt h (by decide)) h).1
theorem wix_lt {i : Int32} {n : Nat} (h : vp_in i n) : i.toNatClampNeg < n := Nat.not_le.mp fun q => h (Or.inr q)
theorem wk22_i {k : Nat} {i : Int32} (h : wkd k = 22) (hi : vp_in i 12) : wkd (k + 2 + i.toNatClampNeg) = 0 := (wk_lmp0 k (wkd_lt h (by decide)) h).2 _ (wix_lt hi)
theorem wk23_i {k : Nat} {i : Int32} (h : wkd k = 23) (hi : vp_in i 12) : wkd (k + 1 + i.toNatClampNeg) = 21 := ((wk_lst0 k (wkd_lt h (by decide)) h).2 _ (wix_lt hi)).1
theorem wl23_i {k : Nat} {i : Int32} (h : wkd k = 23) (hi : vp_in i 12) : wln (k + 1 + i.toNatClampNeg) = 12 := ((wk_lst0 k (wkd_lt h (by decide)) h).2 _ (wix_lt hi)).2
/-! the words of the pure functions that the methods are: a name for a value, a look at an index, at a divisor, at a truth value, a loop -/
def wlet {α β : Type} (e : α) (f : α → Option β) : Option β := f e
theorem wlet_y {α β : Type} {x e : α} {f : α → Option β} {r : β} (ex : x = e) (h : wlet e f = some r) : f x = some r := by subst ex; exact h
def wpr {α β γ : Type} (f : α → β → Option γ) : α × β → Option γ := fun q => f q.1 q.2
theorem wbind_p {α β γ : Type} {o : Option (α × β)} {f : α → β → Option γ} {r : γ} (h : o.bind (wpr f) = some r) : ∃ a b, o = some (a, b) ∧ f a b = some r := by
  obtain ⟨⟨a, b⟩, h1, h2⟩ := Option.bind_eq_some_iff.mp h
  exact ⟨a, b, h1, h2⟩
theorem wlet_e {α β : Type} {e : α} {f : α → Option β} {r : β} (h : wlet e f = some r) : ∃ x, x = e ∧ f x = some r := ⟨e, rfl, h⟩
theorem wbind_e {α β : Type} {o : Option α} {f : α → Option β} {r : β} (h : o.bind f = some r) : ∃ x, o = some x ∧ f x = some r := Option.bind_eq_some_iff.mp h
def wgi {β : Type} (i : Int32) (n : Nat) (a : Option β) : Option β := if 0 ≤ i.toInt ∧ i.toInt < n then a else none
theorem wgi_e {β : Type} {i : Int32} {n : Nat} {a : Option β} {r : β} (h : wgi i n a = some r) : vp_in i n ∧ a = some r := by
  unfold wgi at h
  by_cases q : 0 ≤ i.toInt ∧ i.toInt < n
  · rw [if_pos q] at h
    exact ⟨vp_in_iff.mpr q, h⟩
  · rw [if_neg q] at h
    cases h
def wgz {β : Type} (y : Int32) (a : Option β) : Option β := if y = 0 then none else a
theorem wgz_e {β : Type} {y : Int32} {a : Option β} {r : β} (h : wgz y a = some r) : ¬ y = 0 ∧ a = some r := by
  unfold wgz at h
  by_cases q : y = 0
  · rw [if_pos q] at h
    cases h
  · rw [if_neg q] at h
    exact ⟨q, h⟩
def wgzl {β : Type} (y : Int64) (a : Option β) : Option β := if y = 0 then none else a
theorem wgzl_e {β : Type} {y : Int64} {a : Option β} {r : β} (h : wgzl y a = some r) : ¬ y = 0 ∧ a = some r := by
  unfold wgzl at h
  by_cases q : y = 0
  · rw [if_pos q] at h
    cases h
  · rw [if_neg q] at h
    exact ⟨q, h⟩
def wb (b : Bool) : Int32 := if b then 1 else 0
theorem wb_n (b : Bool) : narrow .boolean (.int (wb b)) = .int (wb b) := by cases b <;> rfl
theorem wb_f (b : Bool) : fits .boolean (.int (wb b)) = true := by cases b <;> rfl
def wrb {β : Type} (x : Int32) (f : Bool → Option β) : Option β := if x = 0 then f false else if x = 1 then f true else none
theorem wrb_e {β : Type} {x : Int32} {f : Bool → Option β} {r : β} (h : wrb x f = some r) : ∃ b, x = wb b ∧ f b = some r := by
  unfold wrb at h
  by_cases q : x = 0
  · rw [if_pos q] at h
    exact ⟨false, q, h⟩
  · rw [if_neg q] at h
    by_cases q1 : x = 1
    · rw [if_pos q1] at h
      exact ⟨true, q1, h⟩
    · rw [if_neg q1] at h
      cases h
theorem wif_e {β : Type} {c : Prop} {_ : Decidable c} {a b : Option β} {r : β} (h : (if c then a else b) = some r) : (c ∧ a = some r) ∨ (¬ c ∧ b = some r) := by
  by_cases q : c
  · rw [if_pos q] at h
    exact Or.inl ⟨q, h⟩
  · rw [if_neg q] at h
    exact Or.inr ⟨q, h⟩
def wloop {S β : Type} (b : (S → Option β) → S → Option β) : Nat → S → Option β
  | 0 => fun _ => none
  | n + 1 => b (wloop b n)
theorem wloop_W {S β : Type} {b : (S → Option β) → S → Option β} {P : S → Prop} {r : β} (h : ∀ rec : S → Option β, (∀ s, rec s = some r → P s) → ∀ s, b rec s = some r → P s) : ∀ (n : Nat) (s : S), wloop b n s = some r → P s
  | 0, _, hf => by cases hf
  | n + 1, s, hf => h (wloop b n) (fun s hs => wloop_W h n s hs) s hf
def wfuel : Nat := 2000
/-! the world -/
def wws (E : wE) (M : wMem) : va_W := (List.range 91).map fun k => (wad E k, wen E k (M k))
def wH (E : wE) (M : wMem) (H : Heap) : Prop := va_P (wD E) vwCl (wws E M) H
def wtys (E : wE) : List (ClassId × FieldType) := [(wcy E 0, .char), (wcy E 1, .int), (wcy E 2, .object RX1), (wcy E 3, .array .int)]
def wV (E : wE) (U : State) : Prop := va_K (wD E) vwCl (wtys E) U
def wG (E : wE) : Prop := (∀ i j, i < 91 → j < 91 → wad E i = wad E j → i = j) ∧ ∀ k, k < 91 → wbs E ≤ wad E k
def wtab (t : Nat) (j : Nat) : Int32 := match t with
  | 0 => ([1, 0, 1, 1] : List Int32).getD j 0
  | 1 => ([999, 99, 999, 9] : List Int32).getD j 0
  | 2 => ([1, 0, 1, 1] : List Int32).getD j 0
  | _ => ([999, 99, 999, 9] : List Int32).getD j 0
def wZ (E : wE) (U : State) (H : Heap) : Prop := (va_Z RX9 "LEAST_SETTING" "[I" (.ref (wst E 0)) (wA E) U H ∧ va_T .int (wst E 0) 4 (fun j => .int (wtab 0 j)) (wA E) U H) ∧ (va_Z RX9 "GREATEST_SETTING" "[I" (.ref (wst E 1)) (wA E) U H ∧ va_T .int (wst E 1) 4 (fun j => .int (wtab 1 j)) (wA E) U H) ∧ (va_Z RX10 "LEAST_SET" "[I" (.ref (wst E 2)) (wA E) U H ∧ va_T .int (wst E 2) 4 (fun j => .int (wtab 2 j)) (wA E) U H) ∧ (va_Z RX10 "MOST_SET" "[I" (.ref (wst E 3)) (wA E) U H ∧ va_T .int (wst E 3) 4 (fun j => .int (wtab 3 j)) (wA E) U H) ∧ va_Nw (.fieldLinkNest RX5 66 "OneLampAllOut" "LEAST_SETTING" "[I" "OneLampAllOut") U ∧ va_Nw (.fieldLinkNest RX5 69 "OneLampAllOut" "GREATEST_SETTING" "[I" "OneLampAllOut") U
theorem wZ.same {E : wE} {u U : State} {H : Heap} (hv : u.vm = U.vm) (h : wZ E u H) : wZ E U H := by
  have hvm : u.vm.Alike U.vm := by rw [hv]; exact Vm.Alike.refl U.vm
  exact ⟨⟨h.1.1.moved hvm, h.1.2.moved hvm⟩, ⟨h.2.1.1.moved hvm, h.2.1.2.moved hvm⟩, ⟨h.2.2.1.1.moved hvm, h.2.2.1.2.moved hvm⟩, ⟨h.2.2.2.1.1.moved hvm, h.2.2.2.1.2.moved hvm⟩, va_Nw.same rfl hv h.2.2.2.2.1, va_Nw.same rfl hv h.2.2.2.2.2⟩
theorem wZ.warm {E : wE} {u U : State} {H : Heap} (hw : u.WarmedH U.vm) (h : wZ E u H) : wZ E U H := by
  have hvm : u.vm.Alike U.vm := hw.alike
  exact ⟨⟨h.1.1.moved hvm, h.1.2.moved hvm⟩, ⟨h.2.1.1.moved hvm, h.2.1.2.moved hvm⟩, ⟨h.2.2.1.1.moved hvm, h.2.2.1.2.moved hvm⟩, ⟨h.2.2.2.1.1.moved hvm, h.2.2.2.1.2.moved hvm⟩, va_Nw.warmF hw h.2.2.2.2.1, va_Nw.warmF hw h.2.2.2.2.2⟩
theorem wZ.kept {E : wE} {U : State} {H H1 : Heap} (h : wZ E U H) (hq : ∀ a : Nat, a < H.size → ¬ wA E a → H1[a]? = H[a]?) : wZ E U H1 := ⟨⟨h.1.1.kept hq, h.1.2.kept hq⟩, ⟨h.2.1.1.kept hq, h.2.1.2.kept hq⟩, ⟨h.2.2.1.1.kept hq, h.2.2.1.2.kept hq⟩, ⟨h.2.2.2.1.1.kept hq, h.2.2.2.1.2.kept hq⟩, h.2.2.2.2.1, h.2.2.2.2.2⟩
theorem wws_at (E : wE) (M : wMem) {k : Nat} (hk : k < 91) : (wws E M)[k]? = some (wad E k, wen E k (M k)) := by
  unfold wws
  rw [List.getElem?_map, List.getElem?_range hk]
  rfl
theorem wws_get {E : wE} {M : wMem} {k : Nat} {q : Nat × va_E} (h : (wws E M)[k]? = some q) : k < 91 ∧ q = (wad E k, wen E k (M k)) := by
  have hk : k < 91 := by
    have := (List.getElem?_eq_some_iff.mp h).1
    simpa [wws] using this
  rw [wws_at E M hk] at h
  exact ⟨hk, (Option.some.inj h).symm⟩
theorem wws_D {E : wE} (hG : wG E) (M : wMem) : va_D (wA E) (wws E M) := by
  refine ⟨fun i j p q hi hj h => ?_, fun k q hk => ?_⟩
  · obtain ⟨h1, rfl⟩ := wws_get hi
    obtain ⟨h2, rfl⟩ := wws_get hj
    exact hG.1 i j h1 h2 h
  · obtain ⟨h1, rfl⟩ := wws_get hk
    exact hG.2 k h1
theorem wup_at (M : wMem) (k j : Nat) (v : Int32) : wup M k j v k = upd (M k) j v := by simp [wup]
theorem wup_ne {M : wMem} {k j a : Nat} {v : Int32} (h : a ≠ k) : wup M k j v a = M a := by simp [wup, h]
theorem wws_set {E : wE} {M : wMem} {k j : Nat} {v : Int32} {e : va_E} (hk : k < 91) (he : e = wen E k (upd (M k) j v)) : (wws E M).set k (wad E k, e) = wws E (wup M k j v) := by
  subst he
  apply List.ext_getElem?
  intro a
  by_cases ha : a = k
  · subst ha
    rw [List.getElem?_set_self (by simp [wws]; exact hk), wws_at E _ hk, wup_at]
  · rw [List.getElem?_set_ne (fun q => ha q.symm)]
    by_cases h9 : a < 91
    · rw [wws_at E M h9, wws_at E _ h9, wup_ne ha]
    · rw [List.getElem?_eq_none (by simp [wws]; omega), List.getElem?_eq_none (by simp [wws]; omega)]
/-- a method's start and end -/
def wP (E : wE) (M : wMem) (U : State) : Prop := wG E ∧ wV E U ∧ wZ E U U.heap ∧ wH E M U.heap
def wQ (E : wE) (v : Option Value) (M' : wMem) : Array Value → State → Outcome → State → Prop := fun _ st oc t => (oc = .returned v ∧ wP E M' t) ∧ va_F (wA E) st t
def wMet (l : Launch) (y : MethodName) (ws : List Cond) (rm : Room) (E : wE) (M : wMem) (As : List Value) (v : Option Value) (M' : wMem) : Prop := Met l y ws rm (va_Pc As (wP E M)) (wQ E v M') 0 0 (wA E)
theorem wP_blind (E : wE) (M : wMem) (As : List Value) : FrameBlind (va_Pc As (wP E M)) := fun _ U g mk q => ⟨q.1, q.2.1, va_K.moved (u := U) (U := U.calling g mk _) (Vm.Alike.refl U.vm) q.2.2.1, wZ.same (u := U) (U := U.calling g mk _) rfl q.2.2.2.1, q.2.2.2.2⟩
/-- what holds all through a method -/
def wB (E : wE) (p : Program) (s : State) (m : MethodId) (args : Array Value) (meth : Method) (c : Code) (cc : ByteArray) (nL : Nat) (own : String) (ret : Option FieldType) : Prop := p.tables.exec = Jvm.exec ∧ c.code = cc ∧ meth.sig.returnType = ret ∧ c.maxLocals = nL ∧ s.vm.findClass own = some m.cls ∧ (∀ w ∈ wsA, w.before args s = true) ∧ meth.locks = false ∧ wG E ∧ wV E s ∧ wZ E s s.heap
theorem wc_of {l : Launch} {y : MethodName} {rm : Room} {E : wE} {M M' : wMem} {As : List Value} {v : Option Value} {cc : ByteArray} {maxL : Nat} {ret : Option FieldType} (hy : plainName y.cls = true) (hlen : (lg_sl As).length ≤ maxL)
    (body : ∀ (p : Program) (e : Env) (s : State) (m : MethodId) (below : List Frame) (meth : Method) (c : Code) (ls : Array Slot), wB E p s m As.toArray meth c cc maxL y.cls ret → wH E M s.heap → lv_has ls maxL (lv_args 0 As) → W p l e rm s m As.toArray below meth c s.heap [] 0 0 (MQ below (wQ E v M') As.toArray s 0 0 (wA E)) (F0 m 0 ls [])) : wMet l y (wsM y cc maxL ret) rm E M As v M' := by
  refine Met.ofW (cc := cc) (maxL := maxL) (ret := ret) hy rfl ?_
  intro p e s m args below meth c s₁ B hml hv
  obtain ⟨rfl, hG, hV, hZ, hH⟩ := hv
  have hts := atoms_spec (ws := wsM y cc maxL ret) B.pre
  have hown : s.vm.findClass y.cls = some m.cls := findClass_of_methodNamed B.named
  have hl := lv_entry As (n := maxL) hlen
  rw [lg_entry_eq]
  generalize (lg_sl As ++ List.replicate (maxL - (lg_sl As).length) Slot.unset).toArray = ls at hl ⊢
  exact body p e s m below meth c ls ⟨B.exec, B.bytes, B.returns, hml, hown, fun w h => hts w (List.mem_cons_of_mem _ h), B.notSynchronized, hG, hV, hZ⟩ hH hl
section
variable {p : Program} {l : Launch} {e : Env} {R : Room} {s : State} {m : MethodId} {args : Array Value} {below : List Frame} {meth : Method} {c : Code} {H : Heap} {locs : List Loc} {cells slots : Nat} {Q : State → Prop}
variable {cc : ByteArray} {pc : Nat} {ls : Array Slot} {rest : List Value} {E : wE} {M : wMem} {H0 : Heap}
theorem wm_get (hexec : p.tables.exec = Jvm.exec) (hb : c.code = cc) {own C : String} {T : u_T} {N ci index : Nat} {Ts : List Cond} (hts : ∀ w ∈ Ts, w.before args s = true) (hin : ∀ w ∈ u_ws C T N, w ∈ Ts) (hown : s.vm.findClass own = some m.cls) (hV : wV E s) (hW : wH E M H) {k : Nat} (hk : k < 91) {fs : List Value} (he : wen E k (M k) = .inr (ci, fs)) (hc : vwCl[ci]? = some (C, T, N)) (j : Nat) (hj : j < N) (hlink : (Cond.fieldLink own index (T j).1 (T j).2.1 (T j).2.2.1).before args s = true) {v : Value} (hv : fs[j]? = some v) (hdg : decode cc pc = .ok (.getfield index, 3))
    (kk : W p l e R s m args below meth c H locs cells slots Q (F0 m (pc + 3) ls (v :: rest))) : W p l e R s m args below meth c H locs cells slots Q (F0 m pc ls (.ref (wad E k) :: rest)) :=
  va_get hexec hb hts hin hown hV hW k (by rw [wws_at E M hk, he]) hc j hj hlink (fun _ h => h) hv hdg kk
theorem wm_put (hexec : p.tables.exec = Jvm.exec) (hb : c.code = cc) {own C : String} {T : u_T} {N ci index : Nat} {Ts : List Cond} (hts : ∀ w ∈ Ts, w.before args s = true) (hin : ∀ w ∈ u_ws C T N, w ∈ Ts) (ty0 : Nat → FieldType) (hty : ∀ k, k < N → parseFieldDescriptor (T k).2.2.1 = some (ty0 k)) (hnm : ∀ a, a < N → ∀ b, b < N → a ≠ b → (T a).2.1 ≠ (T b).2.1) (hown : s.vm.findClass own = some m.cls) (hG : wG E) (hV : wV E s) (hW : wH E M H) (hS : va_S (wA E) H0 H locs) {k : Nat} (hk : k < 91) {fs : List Value} (he : wen E k (M k) = .inr (ci, fs)) (hc : vwCl[ci]? = some (C, T, N)) (j : Nat) (hj : j < N) (hlink : (Cond.fieldLink own index (T j).1 (T j).2.1 (T j).2.2.1).before args s = true) (hfin : (T j).2.2.2 = false) (ty : FieldType) (v : Int32) (hd : parseFieldDescriptor (T j).2.2.1 = some ty) (hn : narrow ty (.int v) = .int v) (hfit : fits ty (.int v) = true) (hl : j < fs.length) (he2 : .inr (ci, fs.set j (.int v)) = wen E k (upd (M k) j v)) (hdg : decode cc pc = .ok (.putfield index, 3))
    (kk : ∀ (H1 : Heap) (locs1 : List Loc), wH E (wup M k j v) H1 → va_S (wA E) H0 H1 locs1 → W p l e R s m args below meth c H1 locs1 cells slots Q (F0 m (pc + 3) ls rest)) : W p l e R s m args below meth c H locs cells slots Q (F0 m pc ls (.int v :: .ref (wad E k) :: rest)) := by
  refine va_put (ty := ty) (v := .int v) hexec hb hts hin ty0 hty hnm hown hV hW (wws_D hG M) hS k (by rw [wws_at E M hk, he]) hc j hj hlink (fun _ h => h) hfin hd hn hfit hl hdg (fun H1 locs1 hP _ hS1 => kk H1 locs1 ?_ hS1)
  rw [wws_set hk he2] at hP
  exact hP
theorem wm_iald (hexec : p.tables.exec = Jvm.exec) (hb : c.code = cc) (hV : wV E s) (hW : wH E M H) {k : Nat} (hk : wkd k = 21) {n : Nat} (hn : wln k = n) {i : Int32} (hin : vp_in i n) (hdg : decode cc pc = .ok (.iaload, 1))
    (kk : W p l e R s m args below meth c H locs cells slots Q (F0 m (pc + 1) ls (.int (M k i.toNatClampNeg) :: rest))) : W p l e R s m args below meth c H locs cells slots Q (F0 m pc ls (.int i :: .ref (wad E k) :: rest)) := by
  subst hn
  exact va_iald hexec hb hV hW k 1 (by rw [wws_at E M (wkd_lt hk (by decide)), wen_21 hk]) rfl hin hdg kk
theorem wm_cald (hexec : p.tables.exec = Jvm.exec) (hb : c.code = cc) (hV : wV E s) (hW : wH E M H) {k : Nat} (hk : wkd k = 20) {n : Nat} (hn : wln k = n) {i : Int32} (hin : vp_in i n) (hdg : decode cc pc = .ok (.caload, 1))
    (kk : W p l e R s m args below meth c H locs cells slots Q (F0 m (pc + 1) ls (.int (M k i.toNatClampNeg) :: rest))) : W p l e R s m args below meth c H locs cells slots Q (F0 m pc ls (.int i :: .ref (wad E k) :: rest)) := by
  subst hn
  exact va_cald hexec hb hV hW k 0 (by rw [wws_at E M (wkd_lt hk (by decide)), wen_20 hk]) rfl hin hdg kk
theorem wm_iast (hexec : p.tables.exec = Jvm.exec) (hb : c.code = cc) (hG : wG E) (hV : wV E s) (hW : wH E M H) (hS : va_S (wA E) H0 H locs) {k : Nat} (hk : wkd k = 21) {n : Nat} (hn : wln k = n) {i x : Int32} (hin : vp_in i n) (hdg : decode cc pc = .ok (.iastore, 1))
    (kk : ∀ (H1 : Heap) (locs1 : List Loc), wH E (wup M k i.toNatClampNeg x) H1 → va_S (wA E) H0 H1 locs1 → W p l e R s m args below meth c H1 locs1 cells slots Q (F0 m (pc + 1) ls rest)) : W p l e R s m args below meth c H locs cells slots Q (F0 m pc ls (.int x :: .int i :: .ref (wad E k) :: rest)) := by
  subst hn
  refine va_iast hexec hb hV hW (wws_D hG M) hS k 1 (by rw [wws_at E M (wkd_lt hk (by decide)), wen_21 hk]) rfl hin hdg (fun H1 locs1 hP _ hS1 => kk H1 locs1 ?_ hS1)
  rw [wws_set (j := i.toNatClampNeg) (v := x) (wkd_lt hk (by decide)) (by rw [wen_21 hk])] at hP
  exact hP
theorem wm_cast (hexec : p.tables.exec = Jvm.exec) (hb : c.code = cc) (hG : wG E) (hV : wV E s) (hW : wH E M H) (hS : va_S (wA E) H0 H locs) {k : Nat} (hk : wkd k = 20) {n : Nat} (hn : wln k = n) {i x : Int32} (hin : vp_in i n) (hdg : decode cc pc = .ok (.castore, 1))
    (kk : ∀ (H1 : Heap) (locs1 : List Loc), wH E (wup M k i.toNatClampNeg (vp_nar .char x)) H1 → va_S (wA E) H0 H1 locs1 → W p l e R s m args below meth c H1 locs1 cells slots Q (F0 m (pc + 1) ls rest)) : W p l e R s m args below meth c H locs cells slots Q (F0 m pc ls (.int x :: .int i :: .ref (wad E k) :: rest)) := by
  subst hn
  refine va_cast hexec hb hV hW (wws_D hG M) hS k 0 (by rw [wws_at E M (wkd_lt hk (by decide)), wen_20 hk]) rfl hin hdg (fun H1 locs1 hP _ hS1 => kk H1 locs1 ?_ hS1)
  rw [wws_set (j := i.toNatClampNeg) (v := vp_nar .char x) (wkd_lt hk (by decide)) (by rw [wen_20 hk])] at hP
  exact hP
theorem wm_aldL (hexec : p.tables.exec = Jvm.exec) (hb : c.code = cc) (hV : wV E s) (hW : wH E M H) {k : Nat} (hk : wkd k = 22) {i : Int32} (hin : vp_in i 12) (hdg : decode cc pc = .ok (.aaload, 1))
    (kk : W p l e R s m args below meth c H locs cells slots Q (F0 m (pc + 1) ls (.ref (wad E (k + 2 + i.toNatClampNeg)) :: rest))) : W p l e R s m args below meth c H locs cells slots Q (F0 m pc ls (.int i :: .ref (wad E k) :: rest)) := by
  refine va_aldq (n := 12) (f := fun i => some (wad E (k + 2 + i))) hexec hb hV hW k 2 ?_ rfl hin hdg kk
  rw [wws_at E M (wkd_lt hk (by decide)), wen_22 hk, wl22 hk]
theorem wm_aldA (hexec : p.tables.exec = Jvm.exec) (hb : c.code = cc) (hV : wV E s) (hW : wH E M H) {k : Nat} (hk : wkd k = 23) {i : Int32} (hin : vp_in i 12) (hdg : decode cc pc = .ok (.aaload, 1))
    (kk : W p l e R s m args below meth c H locs cells slots Q (F0 m (pc + 1) ls (.ref (wad E (k + 1 + i.toNatClampNeg)) :: rest))) : W p l e R s m args below meth c H locs cells slots Q (F0 m pc ls (.int i :: .ref (wad E k) :: rest)) := by
  have hlt : i.toNatClampNeg < 12 := wix_lt hin
  have ha : (wws E M)[k]? = some (wad E k, .inl (wcy E 3, 12, .inr (.inr (.inr (.inr (fun i => some (wad E (k + 1 + i)))))))) := by rw [wws_at E M (wkd_lt hk (by decide)), wen_23 hk, wl23 hk]
  exact W.aald (v := va_rf (some (wad E (k + 1 + i.toNatClampNeg)))) (ty := .array .int) hexec hb (hW k _ ha) ((hV.2 3 _ rfl).1 12 (fun j => va_rf (some (wad E (k + 1 + j))))) rfl (fun q => by cases q) (by show ¬ (i < 0 ∨ (arrV _ _ _).slots.size ≤ _); rw [arrV_size]; exact hin) (by show (arrV _ _ _).slots[_]? = _; rw [arrV_read _ _ hlt]) rfl rfl hdg kk
theorem wm_alen (hexec : p.tables.exec = Jvm.exec) (hb : c.code = cc) (hV : wV E s) (hW : wH E M H) {k : Nat} (hk : wkd k = 21) (hdg : decode cc pc = .ok (.arraylength, 1))
    (kk : W p l e R s m args below meth c H locs cells slots Q (F0 m (pc + 1) ls (.int (nI (wln k)) :: rest))) : W p l e R s m args below meth c H locs cells slots Q (F0 m pc ls (.ref (wad E k) :: rest)) :=
  va_alen hexec hb hV hW k 1 (x := (wln k, .inl (M k))) (by rw [wws_at E M (wkd_lt hk (by decide)), wen_21 hk]) rfl rfl hdg kk
theorem wlet_M {β : Type} {M' : wMem} {f : wMem → Option β} {r : β} (hW : wH E M' H) (h : wlet M' f = some r) : ∃ M2, wH E M2 H ∧ f M2 = some r := ⟨M', hW, h⟩
/-- behind a call -/
theorem wc_go {v : Option Value} {M' : wMem} {st0 st1 : List Value} {a : Array Value} (hr : va_Run p l e R s m args below meth c H locs cells slots 0 0 (F0 m pc ls st0) rest (wQ E v M' a) (wA E)) (hS : va_S (wA E) H0 H locs) (hst : v.toList ++ rest = st1)
    (kk : ∀ (H1 : Heap) (locs1 : List Loc), wH E M' H1 → va_S (wA E) H0 H1 locs1 → W p l e R s m args below meth c H1 locs1 cells slots Q (F0 m (pc + 3) ls st1)) : W p l e R s m args below meth c H locs cells slots Q (F0 m pc ls st0) := by
  intro T hT X
  obtain ⟨v', st₀, t, T', L, h0, X', hL, e1, e2, ⟨⟨hv, hp⟩, hz, hk⟩, st⟩ := hr T hT X
  cases hv
  rw [h0] at hz hk
  subst hst
  obtain ⟨t2, a1, b1⟩ := kk T'.heap (locs ++ L) (by rw [e1]; exact hp.2.2.2)
    ⟨Nat.le_trans hS.1 (by rw [e1]; exact hz), fun q h1 h2 => by rw [e1, hk q (Nat.lt_of_lt_of_le h1 hS.1) h2]; exact hS.2.1 q h1 h2, fun q hq => by
      rcases List.mem_append.mp hq with h | h
      · exact hS.2.2 q h
      · exact hL q h⟩ T' rfl X'
  exact ⟨t2, st t2 a1, b1⟩
/-- what a callee is given -/
theorem wc_pre {As : List Value} (hG : wG E) (hV : wV E s) (hZ : wZ E s s.heap) (hW : wH E M H) (hS : va_S (wA E) s.heap H locs) : PreS s H (va_Pc As (wP E M)) As := ⟨wP_blind E M As, fun U hU hw => ⟨rfl, hG, va_K.moved hw.alike hV, (hZ.kept (fun a h1 h2 => by rw [hU]; exact hS.2.1 a h1 h2)).warm hw, by rw [hU]; exact hW⟩⟩
section
variable {y : MethodName} {bytes : ByteArray} {maxL nL n index : Nat} {ret : Option FieldType} {ws : List Cond} {rm : Room} {own C : String} {As : List Value} {v : Option Value} {M' : wMem} {st0 st1 : List Value}
theorem wc_V (hx : p.tables.exec = Jvm.exec) (hb : c.code = cc) (hml : c.maxLocals = nL) (hown : s.vm.findClass own = some m.cls) (hts : ∀ w ∈ wsA, w.before args s = true) (hG : wG E) (hV : wV E s) (hZ : wZ E s s.heap) {k : Nat} (hk : k < 91) {ci : Nat} {fs : List Value} {q : vw_C} (he : wen E k (M k) = .inr (ci, fs)) (hc : vwCl[ci]? = some q) (hM : wMet l y ws rm E M (.ref (wad E k) :: As) v M') (cw : CallW R s args own q.1 index y bytes maxL ret ws rm 0 0 n) (hn : As.length = n) (hsize : ls.size = nL) (hst0 : st0 = As.reverse ++ .ref (wad E k) :: rest) (hcat : (rest.map fun v => v.category).sum ≤ 8) (hdg : decode cc pc = .ok (.invokevirtual index, 3)) (hf : cells ≤ R.cells ∧ slots ≤ R.slots) (hW : wH E M H) (hS : va_S (wA E) s.heap H locs) (hst : v.toList ++ rest = st1)
    (kk : ∀ (H1 : Heap) (locs1 : List Loc), wH E M' H1 → va_S (wA E) s.heap H1 locs1 → W p l e R s m args below meth c H1 locs1 cells slots Q (F0 m (pc + 3) ls st1)) : W p l e R s m args below meth c H locs cells slots Q (F0 m pc ls st0) := by
  have hp := wc_pre (As := .ref (wad E k) :: As) hG hV hZ hW hS
  exact wc_go (va_runV (As := As) (rest := rest) ⟨hx, hb, hml, hown, hts⟩ hM cw ⟨hp.1, va_recv hV hW hc (q0 := k) (by rw [wws_at E M hk, he]), hp.2⟩ rfl hn hsize hst0 (lv_room hcat) hdg hf) hS hst kk
theorem wc_S (hx : p.tables.exec = Jvm.exec) (hb : c.code = cc) (hml : c.maxLocals = nL) (hown : s.vm.findClass own = some m.cls) (hts : ∀ w ∈ wsA, w.before args s = true) (hG : wG E) (hV : wV E s) (hZ : wZ E s s.heap) (hM : wMet l y ws rm E M As v M') (cw : CallB R s args own index y bytes maxL ret ws rm 0 0 n ∧ (Cond.static y).before args s = true) (hn : As.length = n) (hsize : ls.size = nL) (hst0 : st0 = As.reverse ++ rest) (hcat : (rest.map fun v => v.category).sum ≤ 8) (hdg : decode cc pc = .ok (.invokestatic index, 3)) (hf : cells ≤ R.cells ∧ slots ≤ R.slots) (hW : wH E M H) (hS : va_S (wA E) s.heap H locs) (hst : v.toList ++ rest = st1)
    (kk : ∀ (H1 : Heap) (locs1 : List Loc), wH E M' H1 → va_S (wA E) s.heap H1 locs1 → W p l e R s m args below meth c H1 locs1 cells slots Q (F0 m (pc + 3) ls st1)) : W p l e R s m args below meth c H locs cells slots Q (F0 m pc ls st0) :=
  wc_go (va_runS (As := As) (rest := rest) ⟨hx, hb, hml, hown, hts⟩ hM cw (wc_pre hG hV hZ hW hS) rfl hn hsize hst0 (lv_room hcat) hdg hf) hS hst kk
end
/-- the end of a method -/
theorem wr_q {v : Option Value} (hG : wG E) (hV : wV E s) (hZ : wZ E s s.heap) (hW : wH E M H) (hS : va_S (wA E) s.heap H locs) : ∀ t : State, t.heap = H → s.WarmedH t.vm → wQ E v M args s (.returned v) t := fun t ht hw => ⟨⟨rfl, hG, va_K.moved hw.alike hV, (hZ.kept (fun a h1 h2 => by rw [ht]; exact hS.2.1 a h1 h2)).warm hw, by rw [ht]; exact hW⟩, hS.F ht⟩
end
end
