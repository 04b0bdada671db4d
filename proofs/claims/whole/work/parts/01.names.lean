/-- a private method of a class that the tables say can be made, by its rows of tables_1 -/
def lw_okq (q : MethodName × Nat) : Prop := (q.1.cls ≠ "java/lang/invoke/MethodHandle" ∧ q.1.cls ≠ "java/lang/invoke/VarHandle") ∧ Cond.instantiable q.1.cls q.2 ∈ tables_1 ∧ Cond.privateMethod q.1 ∈ tables_1 ∧ Cond.instanceMethod q.1 ∈ tables_1
theorem lw_p0 : lw_okq (⟨"AheadOfPerson$Reader", "readsClause", "()Z"⟩, 7) := ⟨⟨by decide +kernel, by decide +kernel⟩, List.mem_of_getElem? (i := 210) (by decide +kernel), List.mem_of_getElem? (i := 349) (by decide +kernel), List.mem_of_getElem? (i := 350) (by decide +kernel)⟩
theorem lw_p1 : lw_okq (⟨"AheadOfPerson$Reader", "next", "()I"⟩, 7) := ⟨⟨by decide +kernel, by decide +kernel⟩, List.mem_of_getElem? (i := 210) (by decide +kernel), List.mem_of_getElem? (i := 353) (by decide +kernel), List.mem_of_getElem? (i := 354) (by decide +kernel)⟩
theorem lw_p2 : lw_okq (⟨"AheadOfPerson$Reader", "takesAll", "(Ljava/lang/String;)Z"⟩, 7) := ⟨⟨by decide +kernel, by decide +kernel⟩, List.mem_of_getElem? (i := 210) (by decide +kernel), List.mem_of_getElem? (i := 360) (by decide +kernel), List.mem_of_getElem? (i := 361) (by decide +kernel)⟩
theorem lw_p3 : lw_okq (⟨"AheadOfPerson$Reader", "takes", "(C)Z"⟩, 7) := ⟨⟨by decide +kernel, by decide +kernel⟩, List.mem_of_getElem? (i := 210) (by decide +kernel), List.mem_of_getElem? (i := 412) (by decide +kernel), List.mem_of_getElem? (i := 413) (by decide +kernel)⟩
theorem lw_p4 : lw_okq (⟨"AheadOfPerson$Reader", "takesNumber", "()I"⟩, 7) := ⟨⟨by decide +kernel, by decide +kernel⟩, List.mem_of_getElem? (i := 210) (by decide +kernel), List.mem_of_getElem? (i := 416) (by decide +kernel), List.mem_of_getElem? (i := 417) (by decide +kernel)⟩
theorem lw_p5 : lw_okq (⟨"AheadOfPerson$Reader", "takesOneOf", "(Ljava/lang/String;)I"⟩, 7) := ⟨⟨by decide +kernel, by decide +kernel⟩, List.mem_of_getElem? (i := 210) (by decide +kernel), List.mem_of_getElem? (i := 421) (by decide +kernel), List.mem_of_getElem? (i := 422) (by decide +kernel)⟩
theorem lw_p6 : lw_okq (⟨"AheadOfPerson$Reader", "readsExpression", "()Z"⟩, 7) := ⟨⟨by decide +kernel, by decide +kernel⟩, List.mem_of_getElem? (i := 210) (by decide +kernel), List.mem_of_getElem? (i := 486) (by decide +kernel), List.mem_of_getElem? (i := 487) (by decide +kernel)⟩
theorem lw_p7 : lw_okq (⟨"AheadOfPerson$Reader", "takesOpening", "()V"⟩, 7) := ⟨⟨by decide +kernel, by decide +kernel⟩, List.mem_of_getElem? (i := 210) (by decide +kernel), List.mem_of_getElem? (i := 490) (by decide +kernel), List.mem_of_getElem? (i := 491) (by decide +kernel)⟩
theorem lw_p8 : lw_okq (⟨"AheadOfPerson$Reader", "push", "(I)V"⟩, 7) := ⟨⟨by decide +kernel, by decide +kernel⟩, List.mem_of_getElem? (i := 210) (by decide +kernel), List.mem_of_getElem? (i := 494) (by decide +kernel), List.mem_of_getElem? (i := 495) (by decide +kernel)⟩
theorem lw_p9 : lw_okq (⟨"AheadOfPerson$Reader", "readsTest", "()Z"⟩, 7) := ⟨⟨by decide +kernel, by decide +kernel⟩, List.mem_of_getElem? (i := 210) (by decide +kernel), List.mem_of_getElem? (i := 498) (by decide +kernel), List.mem_of_getElem? (i := 499) (by decide +kernel)⟩
theorem lw_p10 : lw_okq (⟨"AheadOfPerson$Reader", "takesClosing", "()V"⟩, 7) := ⟨⟨by decide +kernel, by decide +kernel⟩, List.mem_of_getElem? (i := 210) (by decide +kernel), List.mem_of_getElem? (i := 513) (by decide +kernel), List.mem_of_getElem? (i := 514) (by decide +kernel)⟩
theorem lw_p11 : lw_okq (⟨"AheadOfPerson$Reader", "settle", "(I)V"⟩, 7) := ⟨⟨by decide +kernel, by decide +kernel⟩, List.mem_of_getElem? (i := 210) (by decide +kernel), List.mem_of_getElem? (i := 517) (by decide +kernel), List.mem_of_getElem? (i := 518) (by decide +kernel)⟩
theorem lw_p12 : lw_okq (⟨"AheadOfPerson$Course", "phase", "()I"⟩, 6) := ⟨⟨by decide +kernel, by decide +kernel⟩, List.mem_of_getElem? (i := 244) (by decide +kernel), List.mem_of_getElem? (i := 588) (by decide +kernel), List.mem_of_getElem? (i := 589) (by decide +kernel)⟩
theorem lw_p13 : lw_okq (⟨"AheadOfPerson$Town", "whereHolds", "(ILAheadOfPerson$Folk;II)I"⟩, 11) := ⟨⟨by decide +kernel, by decide +kernel⟩, List.mem_of_getElem? (i := 62) (by decide +kernel), List.mem_of_getElem? (i := 602) (by decide +kernel), List.mem_of_getElem? (i := 603) (by decide +kernel)⟩
theorem lw_p14 : lw_okq (⟨"AheadOfPerson$Town", "whereTest", "(ILAheadOfPerson$Folk;II)I"⟩, 11) := ⟨⟨by decide +kernel, by decide +kernel⟩, List.mem_of_getElem? (i := 62) (by decide +kernel), List.mem_of_getElem? (i := 606) (by decide +kernel), List.mem_of_getElem? (i := 607) (by decide +kernel)⟩
theorem lw_p15 : lw_okq (⟨"AheadOfPerson$Acts", "run", "(IIII)I"⟩, 5) := ⟨⟨by decide +kernel, by decide +kernel⟩, List.mem_of_getElem? (i := 277) (by decide +kernel), List.mem_of_getElem? (i := 790) (by decide +kernel), List.mem_of_getElem? (i := 791) (by decide +kernel)⟩
def lw_privs_1 : List (MethodName × Nat) := [(⟨"AheadOfPerson$Reader", "readsClause", "()Z"⟩, 7), (⟨"AheadOfPerson$Reader", "next", "()I"⟩, 7), (⟨"AheadOfPerson$Reader", "takesAll", "(Ljava/lang/String;)Z"⟩, 7), (⟨"AheadOfPerson$Reader", "takes", "(C)Z"⟩, 7), (⟨"AheadOfPerson$Reader", "takesNumber", "()I"⟩, 7), (⟨"AheadOfPerson$Reader", "takesOneOf", "(Ljava/lang/String;)I"⟩, 7), (⟨"AheadOfPerson$Reader", "readsExpression", "()Z"⟩, 7), (⟨"AheadOfPerson$Reader", "takesOpening", "()V"⟩, 7), (⟨"AheadOfPerson$Reader", "push", "(I)V"⟩, 7), (⟨"AheadOfPerson$Reader", "readsTest", "()Z"⟩, 7), (⟨"AheadOfPerson$Reader", "takesClosing", "()V"⟩, 7), (⟨"AheadOfPerson$Reader", "settle", "(I)V"⟩, 7), (⟨"AheadOfPerson$Course", "phase", "()I"⟩, 6), (⟨"AheadOfPerson$Town", "whereHolds", "(ILAheadOfPerson$Folk;II)I"⟩, 11), (⟨"AheadOfPerson$Town", "whereTest", "(ILAheadOfPerson$Folk;II)I"⟩, 11), (⟨"AheadOfPerson$Acts", "run", "(IIII)I"⟩, 5)]
theorem lw_r1 : ∀ q ∈ lw_privs_1, lw_okq q := List.forall_mem_cons.mpr ⟨lw_p0, List.forall_mem_cons.mpr ⟨lw_p1, List.forall_mem_cons.mpr ⟨lw_p2, List.forall_mem_cons.mpr ⟨lw_p3, List.forall_mem_cons.mpr ⟨lw_p4, List.forall_mem_cons.mpr ⟨lw_p5, List.forall_mem_cons.mpr ⟨lw_p6, List.forall_mem_cons.mpr ⟨lw_p7, List.forall_mem_cons.mpr ⟨lw_p8, List.forall_mem_cons.mpr ⟨lw_p9, List.forall_mem_cons.mpr ⟨lw_p10, List.forall_mem_cons.mpr ⟨lw_p11, List.forall_mem_cons.mpr ⟨lw_p12, List.forall_mem_cons.mpr ⟨lw_p13, List.forall_mem_cons.mpr ⟨lw_p14, List.forall_mem_cons.mpr ⟨lw_p15, fun _ h => absurd h List.not_mem_nil⟩⟩⟩⟩⟩⟩⟩⟩⟩⟩⟩⟩⟩⟩⟩⟩
theorem lw_p16 : lw_okq (⟨"AheadOfPerson$Acts", "note", "(I)V"⟩, 5) := ⟨⟨by decide +kernel, by decide +kernel⟩, List.mem_of_getElem? (i := 277) (by decide +kernel), List.mem_of_getElem? (i := 798) (by decide +kernel), List.mem_of_getElem? (i := 799) (by decide +kernel)⟩
theorem lw_p17 : lw_okq (⟨"AheadOfPersonModel", "clauseHere", "()V"⟩, 17) := ⟨⟨by decide +kernel, by decide +kernel⟩, List.mem_of_getElem? (i := 836) (by decide +kernel), List.mem_of_getElem? (i := 905) (by decide +kernel), List.mem_of_getElem? (i := 906) (by decide +kernel)⟩
theorem lw_p18 : lw_okq (⟨"AheadOfPersonModel", "here", "()I"⟩, 17) := ⟨⟨by decide +kernel, by decide +kernel⟩, List.mem_of_getElem? (i := 836) (by decide +kernel), List.mem_of_getElem? (i := 909) (by decide +kernel), List.mem_of_getElem? (i := 910) (by decide +kernel)⟩
theorem lw_p19 : lw_okq (⟨"AheadOfPersonModel", "tellsHere", "(ILjava/lang/String;)V"⟩, 17) := ⟨⟨by decide +kernel, by decide +kernel⟩, List.mem_of_getElem? (i := 836) (by decide +kernel), List.mem_of_getElem? (i := 914) (by decide +kernel), List.mem_of_getElem? (i := 915) (by decide +kernel)⟩
theorem lw_p20 : lw_okq (⟨"AheadOfPersonModel", "spells", "(Ljava/lang/String;)V"⟩, 17) := ⟨⟨by decide +kernel, by decide +kernel⟩, List.mem_of_getElem? (i := 836) (by decide +kernel), List.mem_of_getElem? (i := 918) (by decide +kernel), List.mem_of_getElem? (i := 919) (by decide +kernel)⟩
theorem lw_p21 : lw_okq (⟨"AheadOfPersonModel", "must", "(I)V"⟩, 17) := ⟨⟨by decide +kernel, by decide +kernel⟩, List.mem_of_getElem? (i := 836) (by decide +kernel), List.mem_of_getElem? (i := 924) (by decide +kernel), List.mem_of_getElem? (i := 925) (by decide +kernel)⟩
theorem lw_p22 : lw_okq (⟨"AheadOfPersonModel", "figures", "()I"⟩, 17) := ⟨⟨by decide +kernel, by decide +kernel⟩, List.mem_of_getElem? (i := 836) (by decide +kernel), List.mem_of_getElem? (i := 928) (by decide +kernel), List.mem_of_getElem? (i := 929) (by decide +kernel)⟩
theorem lw_p23 : lw_okq (⟨"AheadOfPersonModel", "much", "(ILjava/lang/String;)V"⟩, 17) := ⟨⟨by decide +kernel, by decide +kernel⟩, List.mem_of_getElem? (i := 836) (by decide +kernel), List.mem_of_getElem? (i := 933) (by decide +kernel), List.mem_of_getElem? (i := 934) (by decide +kernel)⟩
theorem lw_p24 : lw_okq (⟨"AheadOfPersonModel", "some", "()V"⟩, 17) := ⟨⟨by decide +kernel, by decide +kernel⟩, List.mem_of_getElem? (i := 836) (by decide +kernel), List.mem_of_getElem? (i := 937) (by decide +kernel), List.mem_of_getElem? (i := 938) (by decide +kernel)⟩
theorem lw_p25 : lw_okq (⟨"AheadOfPersonModel", "every", "()V"⟩, 17) := ⟨⟨by decide +kernel, by decide +kernel⟩, List.mem_of_getElem? (i := 836) (by decide +kernel), List.mem_of_getElem? (i := 941) (by decide +kernel), List.mem_of_getElem? (i := 942) (by decide +kernel)⟩
theorem lw_p26 : lw_okq (⟨"AheadOfPersonModel", "factor", "()V"⟩, 17) := ⟨⟨by decide +kernel, by decide +kernel⟩, List.mem_of_getElem? (i := 836) (by decide +kernel), List.mem_of_getElem? (i := 945) (by decide +kernel), List.mem_of_getElem? (i := 946) (by decide +kernel)⟩
theorem lw_p27 : lw_okq (⟨"AheadOfPersonModel", "emits", "(I)V"⟩, 17) := ⟨⟨by decide +kernel, by decide +kernel⟩, List.mem_of_getElem? (i := 836) (by decide +kernel), List.mem_of_getElem? (i := 949) (by decide +kernel), List.mem_of_getElem? (i := 950) (by decide +kernel)⟩
theorem lw_p28 : lw_okq (⟨"AheadOfPersonModel", "among", "(Ljava/lang/String;)I"⟩, 17) := ⟨⟨by decide +kernel, by decide +kernel⟩, List.mem_of_getElem? (i := 836) (by decide +kernel), List.mem_of_getElem? (i := 954) (by decide +kernel), List.mem_of_getElem? (i := 955) (by decide +kernel)⟩
theorem lw_p29 : lw_okq (⟨"AheadOfPersonModel", "isPerson", "(I)Z"⟩, 17) := ⟨⟨by decide +kernel, by decide +kernel⟩, List.mem_of_getElem? (i := 836) (by decide +kernel), List.mem_of_getElem? (i := 971) (by decide +kernel), List.mem_of_getElem? (i := 972) (by decide +kernel)⟩
theorem lw_p30 : lw_okq (⟨"AheadOfPersonModel", "lureOf", "(II)I"⟩, 17) := ⟨⟨by decide +kernel, by decide +kernel⟩, List.mem_of_getElem? (i := 836) (by decide +kernel), List.mem_of_getElem? (i := 976) (by decide +kernel), List.mem_of_getElem? (i := 977) (by decide +kernel)⟩
theorem lw_p31 : lw_okq (⟨"AheadOfPersonModel", "tellsOf", "(II)I"⟩, 17) := ⟨⟨by decide +kernel, by decide +kernel⟩, List.mem_of_getElem? (i := 836) (by decide +kernel), List.mem_of_getElem? (i := 986) (by decide +kernel), List.mem_of_getElem? (i := 987) (by decide +kernel)⟩
def lw_privs_2 : List (MethodName × Nat) := [(⟨"AheadOfPerson$Acts", "note", "(I)V"⟩, 5), (⟨"AheadOfPersonModel", "clauseHere", "()V"⟩, 17), (⟨"AheadOfPersonModel", "here", "()I"⟩, 17), (⟨"AheadOfPersonModel", "tellsHere", "(ILjava/lang/String;)V"⟩, 17), (⟨"AheadOfPersonModel", "spells", "(Ljava/lang/String;)V"⟩, 17), (⟨"AheadOfPersonModel", "must", "(I)V"⟩, 17), (⟨"AheadOfPersonModel", "figures", "()I"⟩, 17), (⟨"AheadOfPersonModel", "much", "(ILjava/lang/String;)V"⟩, 17), (⟨"AheadOfPersonModel", "some", "()V"⟩, 17), (⟨"AheadOfPersonModel", "every", "()V"⟩, 17), (⟨"AheadOfPersonModel", "factor", "()V"⟩, 17), (⟨"AheadOfPersonModel", "emits", "(I)V"⟩, 17), (⟨"AheadOfPersonModel", "among", "(Ljava/lang/String;)I"⟩, 17), (⟨"AheadOfPersonModel", "isPerson", "(I)Z"⟩, 17), (⟨"AheadOfPersonModel", "lureOf", "(II)I"⟩, 17), (⟨"AheadOfPersonModel", "tellsOf", "(II)I"⟩, 17)]
theorem lw_r2 : ∀ q ∈ lw_privs_2, lw_okq q := List.forall_mem_cons.mpr ⟨lw_p16, List.forall_mem_cons.mpr ⟨lw_p17, List.forall_mem_cons.mpr ⟨lw_p18, List.forall_mem_cons.mpr ⟨lw_p19, List.forall_mem_cons.mpr ⟨lw_p20, List.forall_mem_cons.mpr ⟨lw_p21, List.forall_mem_cons.mpr ⟨lw_p22, List.forall_mem_cons.mpr ⟨lw_p23, List.forall_mem_cons.mpr ⟨lw_p24, List.forall_mem_cons.mpr ⟨lw_p25, List.forall_mem_cons.mpr ⟨lw_p26, List.forall_mem_cons.mpr ⟨lw_p27, List.forall_mem_cons.mpr ⟨lw_p28, List.forall_mem_cons.mpr ⟨lw_p29, List.forall_mem_cons.mpr ⟨lw_p30, List.forall_mem_cons.mpr ⟨lw_p31, fun _ h => absurd h List.not_mem_nil⟩⟩⟩⟩⟩⟩⟩⟩⟩⟩⟩⟩⟩⟩⟩⟩
theorem lw_p32 : lw_okq (⟨"AheadOfPersonModel", "tugOf", "(II)I"⟩, 17) := ⟨⟨by decide +kernel, by decide +kernel⟩, List.mem_of_getElem? (i := 836) (by decide +kernel), List.mem_of_getElem? (i := 990) (by decide +kernel), List.mem_of_getElem? (i := 991) (by decide +kernel)⟩
theorem lw_p33 : lw_okq (⟨"AheadOfPersonModel", "becomes", "(II)I"⟩, 17) := ⟨⟨by decide +kernel, by decide +kernel⟩, List.mem_of_getElem? (i := 836) (by decide +kernel), List.mem_of_getElem? (i := 1002) (by decide +kernel), List.mem_of_getElem? (i := 1003) (by decide +kernel)⟩
theorem lw_p34 : lw_okq (⟨"AheadOfPersonModel", "manyLain", "()I"⟩, 17) := ⟨⟨by decide +kernel, by decide +kernel⟩, List.mem_of_getElem? (i := 836) (by decide +kernel), List.mem_of_getElem? (i := 1018) (by decide +kernel), List.mem_of_getElem? (i := 1019) (by decide +kernel)⟩
theorem lw_p35 : lw_okq (⟨"AheadOfPersonModel", "drawOf", "(I)I"⟩, 17) := ⟨⟨by decide +kernel, by decide +kernel⟩, List.mem_of_getElem? (i := 836) (by decide +kernel), List.mem_of_getElem? (i := 1022) (by decide +kernel), List.mem_of_getElem? (i := 1023) (by decide +kernel)⟩
theorem lw_p36 : lw_okq (⟨"AheadOfPersonModel", "goes", "()V"⟩, 17) := ⟨⟨by decide +kernel, by decide +kernel⟩, List.mem_of_getElem? (i := 836) (by decide +kernel), List.mem_of_getElem? (i := 1030) (by decide +kernel), List.mem_of_getElem? (i := 1031) (by decide +kernel)⟩
theorem lw_p37 : lw_okq (⟨"AheadOfPersonModel", "keeps", "()V"⟩, 17) := ⟨⟨by decide +kernel, by decide +kernel⟩, List.mem_of_getElem? (i := 836) (by decide +kernel), List.mem_of_getElem? (i := 1038) (by decide +kernel), List.mem_of_getElem? (i := 1039) (by decide +kernel)⟩
theorem lw_p38 : lw_okq (⟨"AheadOfPersonModel", "goesOn", "(I)V"⟩, 17) := ⟨⟨by decide +kernel, by decide +kernel⟩, List.mem_of_getElem? (i := 836) (by decide +kernel), List.mem_of_getElem? (i := 1042) (by decide +kernel), List.mem_of_getElem? (i := 1043) (by decide +kernel)⟩
theorem lw_p39 : lw_okq (⟨"AheadOfPersonModel", "goesBack", "()V"⟩, 17) := ⟨⟨by decide +kernel, by decide +kernel⟩, List.mem_of_getElem? (i := 836) (by decide +kernel), List.mem_of_getElem? (i := 1046) (by decide +kernel), List.mem_of_getElem? (i := 1047) (by decide +kernel)⟩
theorem lw_p40 : lw_okq (⟨"AheadOfPersonModel", "stepsTo", "(II)I"⟩, 17) := ⟨⟨by decide +kernel, by decide +kernel⟩, List.mem_of_getElem? (i := 836) (by decide +kernel), List.mem_of_getElem? (i := 1054) (by decide +kernel), List.mem_of_getElem? (i := 1055) (by decide +kernel)⟩
theorem lw_p41 : lw_okq (⟨"AheadOfPersonModel", "isKept", "(II)Z"⟩, 17) := ⟨⟨by decide +kernel, by decide +kernel⟩, List.mem_of_getElem? (i := 836) (by decide +kernel), List.mem_of_getElem? (i := 1074) (by decide +kernel), List.mem_of_getElem? (i := 1075) (by decide +kernel)⟩
theorem lw_p42 : lw_okq (⟨"AheadOfPersonModel", "areAsSeen", "()Z"⟩, 17) := ⟨⟨by decide +kernel, by decide +kernel⟩, List.mem_of_getElem? (i := 836) (by decide +kernel), List.mem_of_getElem? (i := 1094) (by decide +kernel), List.mem_of_getElem? (i := 1095) (by decide +kernel)⟩
theorem lw_p43 : lw_okq (⟨"AheadOfPersonModel", "isAsSeen", "(I)Z"⟩, 17) := ⟨⟨by decide +kernel, by decide +kernel⟩, List.mem_of_getElem? (i := 836) (by decide +kernel), List.mem_of_getElem? (i := 1098) (by decide +kernel), List.mem_of_getElem? (i := 1099) (by decide +kernel)⟩
theorem lw_p44 : lw_okq (⟨"AheadOfPersonModel", "goesBy", "(II)V"⟩, 17) := ⟨⟨by decide +kernel, by decide +kernel⟩, List.mem_of_getElem? (i := 836) (by decide +kernel), List.mem_of_getElem? (i := 1130) (by decide +kernel), List.mem_of_getElem? (i := 1131) (by decide +kernel)⟩
theorem lw_p45 : lw_okq (⟨"AheadOfPersonModel", "standsActs", "(I)I"⟩, 17) := ⟨⟨by decide +kernel, by decide +kernel⟩, List.mem_of_getElem? (i := 836) (by decide +kernel), List.mem_of_getElem? (i := 1146) (by decide +kernel), List.mem_of_getElem? (i := 1147) (by decide +kernel)⟩
theorem lw_p46 : lw_okq (⟨"AheadOfPersonModel", "ranBody", "(I)V"⟩, 17) := ⟨⟨by decide +kernel, by decide +kernel⟩, List.mem_of_getElem? (i := 836) (by decide +kernel), List.mem_of_getElem? (i := 1153) (by decide +kernel), List.mem_of_getElem? (i := 1154) (by decide +kernel)⟩
theorem lw_p47 : lw_okq (⟨"AheadOfPersonModel", "plainStands", "(I)I"⟩, 17) := ⟨⟨by decide +kernel, by decide +kernel⟩, List.mem_of_getElem? (i := 836) (by decide +kernel), List.mem_of_getElem? (i := 1157) (by decide +kernel), List.mem_of_getElem? (i := 1158) (by decide +kernel)⟩
def lw_privs_3 : List (MethodName × Nat) := [(⟨"AheadOfPersonModel", "tugOf", "(II)I"⟩, 17), (⟨"AheadOfPersonModel", "becomes", "(II)I"⟩, 17), (⟨"AheadOfPersonModel", "manyLain", "()I"⟩, 17), (⟨"AheadOfPersonModel", "drawOf", "(I)I"⟩, 17), (⟨"AheadOfPersonModel", "goes", "()V"⟩, 17), (⟨"AheadOfPersonModel", "keeps", "()V"⟩, 17), (⟨"AheadOfPersonModel", "goesOn", "(I)V"⟩, 17), (⟨"AheadOfPersonModel", "goesBack", "()V"⟩, 17), (⟨"AheadOfPersonModel", "stepsTo", "(II)I"⟩, 17), (⟨"AheadOfPersonModel", "isKept", "(II)Z"⟩, 17), (⟨"AheadOfPersonModel", "areAsSeen", "()Z"⟩, 17), (⟨"AheadOfPersonModel", "isAsSeen", "(I)Z"⟩, 17), (⟨"AheadOfPersonModel", "goesBy", "(II)V"⟩, 17), (⟨"AheadOfPersonModel", "standsActs", "(I)I"⟩, 17), (⟨"AheadOfPersonModel", "ranBody", "(I)V"⟩, 17), (⟨"AheadOfPersonModel", "plainStands", "(I)I"⟩, 17)]
theorem lw_r3 : ∀ q ∈ lw_privs_3, lw_okq q := List.forall_mem_cons.mpr ⟨lw_p32, List.forall_mem_cons.mpr ⟨lw_p33, List.forall_mem_cons.mpr ⟨lw_p34, List.forall_mem_cons.mpr ⟨lw_p35, List.forall_mem_cons.mpr ⟨lw_p36, List.forall_mem_cons.mpr ⟨lw_p37, List.forall_mem_cons.mpr ⟨lw_p38, List.forall_mem_cons.mpr ⟨lw_p39, List.forall_mem_cons.mpr ⟨lw_p40, List.forall_mem_cons.mpr ⟨lw_p41, List.forall_mem_cons.mpr ⟨lw_p42, List.forall_mem_cons.mpr ⟨lw_p43, List.forall_mem_cons.mpr ⟨lw_p44, List.forall_mem_cons.mpr ⟨lw_p45, List.forall_mem_cons.mpr ⟨lw_p46, List.forall_mem_cons.mpr ⟨lw_p47, fun _ h => absurd h List.not_mem_nil⟩⟩⟩⟩⟩⟩⟩⟩⟩⟩⟩⟩⟩⟩⟩⟩
theorem lw_p48 : lw_okq (⟨"AheadOfPersonModel", "looksActs", "(I)I"⟩, 17) := ⟨⟨by decide +kernel, by decide +kernel⟩, List.mem_of_getElem? (i := 836) (by decide +kernel), List.mem_of_getElem? (i := 1161) (by decide +kernel), List.mem_of_getElem? (i := 1162) (by decide +kernel)⟩
theorem lw_p49 : lw_okq (⟨"AheadOfPersonModel", "plainLooks", "(I)I"⟩, 17) := ⟨⟨by decide +kernel, by decide +kernel⟩, List.mem_of_getElem? (i := 836) (by decide +kernel), List.mem_of_getElem? (i := 1165) (by decide +kernel), List.mem_of_getElem? (i := 1166) (by decide +kernel)⟩
theorem lw_p50 : lw_okq (⟨"AheadOfPersonModel", "tellsActs", "(I)I"⟩, 17) := ⟨⟨by decide +kernel, by decide +kernel⟩, List.mem_of_getElem? (i := 836) (by decide +kernel), List.mem_of_getElem? (i := 1169) (by decide +kernel), List.mem_of_getElem? (i := 1170) (by decide +kernel)⟩
theorem lw_p51 : lw_okq (⟨"AheadOfPersonModel", "plainTelling", "(I)I"⟩, 17) := ⟨⟨by decide +kernel, by decide +kernel⟩, List.mem_of_getElem? (i := 836) (by decide +kernel), List.mem_of_getElem? (i := 1173) (by decide +kernel), List.mem_of_getElem? (i := 1174) (by decide +kernel)⟩
def lw_privs_4 : List (MethodName × Nat) := [(⟨"AheadOfPersonModel", "looksActs", "(I)I"⟩, 17), (⟨"AheadOfPersonModel", "plainLooks", "(I)I"⟩, 17), (⟨"AheadOfPersonModel", "tellsActs", "(I)I"⟩, 17), (⟨"AheadOfPersonModel", "plainTelling", "(I)I"⟩, 17)]
theorem lw_r4 : ∀ q ∈ lw_privs_4, lw_okq q := List.forall_mem_cons.mpr ⟨lw_p48, List.forall_mem_cons.mpr ⟨lw_p49, List.forall_mem_cons.mpr ⟨lw_p50, List.forall_mem_cons.mpr ⟨lw_p51, fun _ h => absurd h List.not_mem_nil⟩⟩⟩⟩
def lw_privs : List (MethodName × Nat) := lw_privs_1 ++ (lw_privs_2 ++ (lw_privs_3 ++ (lw_privs_4)))
def lw_tbl : List Cond := k2_sels lw_privs ++ tables_1
theorem lw_privs_ok : ∀ q ∈ lw_privs, lw_okq q := by
  show ∀ q ∈ lw_privs_1 ++ (lw_privs_2 ++ (lw_privs_3 ++ (lw_privs_4))), lw_okq q
  exact List.forall_mem_append.mpr ⟨lw_r1, List.forall_mem_append.mpr ⟨lw_r2, List.forall_mem_append.mpr ⟨lw_r3, lw_r4⟩⟩⟩

def RX0 : String := "AheadOfPerson$Acts"
def RX1 : String := "AheadOfPerson$Carpet"
def RX2 : String := "AheadOfPerson$Course"
def RX3 : String := "AheadOfPerson$Folk"
def RX4 : String := "AheadOfPerson$Reader"
def RX5 : String := "AheadOfPerson$Rows"
def RX6 : String := "AheadOfPerson$Scene"
def RX7 : String := "AheadOfPerson$Town"
def RX8 : String := "AheadOfPerson"
def RX9 : String := "AheadOfPersonModel"
def RJ0 : String := "java/lang/String"
def RJ1 : String := "java/lang/StringLatin1"
def RJ10 : String := "java/lang/System"
def RJ11 : String := "java/lang/Character"
def RJ2 : String := "java/lang/StringUTF16"
def RJ3 : String := "jdk/internal/util/Preconditions"
def RJ6 : String := "java/lang/Integer"
def RJ9 : String := "java/lang/Math"
def TX0 : u_T := fun k => match k with
  | 0 => ("AheadOfPerson$Acts", "bodies", "[I", true)
  | 1 => ("AheadOfPerson$Acts", "ran", "I", false)
  | 2 => ("AheadOfPerson$Acts", "kind", "I", false)
  | 3 => ("AheadOfPerson$Acts", "v", "I", false)
  | _ => ("AheadOfPerson$Acts", "number", "I", false)
def tyX0 : Nat → FieldType := fun k => match k with
  | 0 => .array .int
  | 1 => .int
  | 2 => .int
  | 3 => .int
  | _ => .int
theorem nmX0 : ∀ a, a < 5 → ∀ b, b < 5 → a ≠ b → (TX0 a).2.1 ≠ (TX0 b).2.1 := by decide +kernel
theorem tyX0_ok : ∀ k, k < 5 → parseFieldDescriptor (TX0 k).2.2.1 = some (tyX0 k) := by decide +kernel
def TX1 : u_T := fun k => match k with
  | 0 => ("AheadOfPerson$Carpet", "lain", "[I", true)
  | 1 => ("AheadOfPerson$Carpet", "cell", "I", false)
  | _ => ("AheadOfPerson$Carpet", "step", "I", false)
def tyX1 : Nat → FieldType := fun k => match k with
  | 0 => .array .int
  | 1 => .int
  | _ => .int
theorem nmX1 : ∀ a, a < 3 → ∀ b, b < 3 → a ≠ b → (TX1 a).2.1 ≠ (TX1 b).2.1 := by decide +kernel
theorem tyX1_ok : ∀ k, k < 3 → parseFieldDescriptor (TX1 k).2.2.1 = some (tyX1 k) := by decide +kernel
def TX2 : u_T := fun k => match k with
  | 0 => ("AheadOfPerson$Course", "folk", "LAheadOfPerson$Folk;", true)
  | 1 => ("AheadOfPerson$Course", "carpet", "LAheadOfPerson$Carpet;", true)
  | 2 => ("AheadOfPerson$Course", "start", "LAheadOfPerson$Carpet;", true)
  | 3 => ("AheadOfPerson$Course", "town", "LAheadOfPerson$Town;", true)
  | 4 => ("AheadOfPerson$Course", "tugs", "[I", true)
  | _ => ("AheadOfPerson$Course", "reckoned", "[I", true)
def tyX2 : Nat → FieldType := fun k => match k with
  | 0 => .object "AheadOfPerson$Folk"
  | 1 => .object "AheadOfPerson$Carpet"
  | 2 => .object "AheadOfPerson$Carpet"
  | 3 => .object "AheadOfPerson$Town"
  | 4 => .array .int
  | _ => .array .int
theorem nmX2 : ∀ a, a < 6 → ∀ b, b < 6 → a ≠ b → (TX2 a).2.1 ≠ (TX2 b).2.1 := by decide +kernel
theorem tyX2_ok : ∀ k, k < 6 → parseFieldDescriptor (TX2 k).2.2.1 = some (tyX2 k) := by decide +kernel
def TX3 : u_T := fun k => match k with
  | 0 => ("AheadOfPerson$Folk", "kind", "[I", true)
  | 1 => ("AheadOfPerson$Folk", "v", "[I", true)
  | 2 => ("AheadOfPerson$Folk", "cell", "[I", true)
  | 3 => ("AheadOfPerson$Folk", "line", "[I", true)
  | 4 => ("AheadOfPerson$Folk", "away", "I", false)
  | _ => ("AheadOfPerson$Folk", "size", "I", false)
def tyX3 : Nat → FieldType := fun k => match k with
  | 0 => .array .int
  | 1 => .array .int
  | 2 => .array .int
  | 3 => .array .int
  | 4 => .int
  | _ => .int
theorem nmX3 : ∀ a, a < 6 → ∀ b, b < 6 → a ≠ b → (TX3 a).2.1 ≠ (TX3 b).2.1 := by decide +kernel
theorem tyX3_ok : ∀ k, k < 6 → parseFieldDescriptor (TX3 k).2.2.1 = some (tyX3 k) := by decide +kernel
def TX4 : u_T := fun k => match k with
  | 0 => ("AheadOfPerson$Reader", "draft", "LAheadOfPerson$Town;", true)
  | 1 => ("AheadOfPerson$Reader", "at", "I", false)
  | 2 => ("AheadOfPerson$Reader", "tape", "LAheadOfPerson$Rows;", true)
  | 3 => ("AheadOfPerson$Reader", "pending", "[I", true)
  | 4 => ("AheadOfPerson$Reader", "top", "I", false)
  | 5 => ("AheadOfPerson$Reader", "open", "I", false)
  | _ => ("AheadOfPerson$Reader", "brackets", "I", false)
def tyX4 : Nat → FieldType := fun k => match k with
  | 0 => .object "AheadOfPerson$Town"
  | 1 => .int
  | 2 => .object "AheadOfPerson$Rows"
  | 3 => .array .int
  | 4 => .int
  | 5 => .int
  | _ => .int
theorem nmX4 : ∀ a, a < 7 → ∀ b, b < 7 → a ≠ b → (TX4 a).2.1 ≠ (TX4 b).2.1 := by decide +kernel
theorem tyX4_ok : ∀ k, k < 7 → parseFieldDescriptor (TX4 k).2.2.1 = some (tyX4 k) := by decide +kernel
def TX5 : u_T := fun k => match k with
  | 0 => ("AheadOfPerson$Rows", "first", "[I", true)
  | 1 => ("AheadOfPerson$Rows", "second", "[I", true)
  | _ => ("AheadOfPerson$Rows", "size", "I", false)
def tyX5 : Nat → FieldType := fun k => match k with
  | 0 => .array .int
  | 1 => .array .int
  | _ => .int
theorem nmX5 : ∀ a, a < 3 → ∀ b, b < 3 → a ≠ b → (TX5 a).2.1 ≠ (TX5 b).2.1 := by decide +kernel
theorem tyX5_ok : ∀ k, k < 3 → parseFieldDescriptor (TX5 k).2.2.1 = some (tyX5 k) := by decide +kernel
def TX6 : u_T := fun k => match k with
  | 0 => ("AheadOfPerson$Scene", "tape", "LAheadOfPerson$Rows;", true)
  | 1 => ("AheadOfPerson$Scene", "town", "LAheadOfPerson$Town;", true)
  | 2 => ("AheadOfPerson$Scene", "towns", "I", false)
  | 3 => ("AheadOfPerson$Scene", "folk", "LAheadOfPerson$Folk;", true)
  | 4 => ("AheadOfPerson$Scene", "carpet", "LAheadOfPerson$Carpet;", true)
  | 5 => ("AheadOfPerson$Scene", "walk", "LAheadOfPerson$Rows;", true)
  | 6 => ("AheadOfPerson$Scene", "seen", "LAheadOfPerson$Rows;", true)
  | 7 => ("AheadOfPerson$Scene", "plan", "LAheadOfPerson$Rows;", true)
  | _ => ("AheadOfPerson$Scene", "book", "LAheadOfPerson$Rows;", true)
def tyX6 : Nat → FieldType := fun k => match k with
  | 0 => .object "AheadOfPerson$Rows"
  | 1 => .object "AheadOfPerson$Town"
  | 2 => .int
  | 3 => .object "AheadOfPerson$Folk"
  | 4 => .object "AheadOfPerson$Carpet"
  | 5 => .object "AheadOfPerson$Rows"
  | 6 => .object "AheadOfPerson$Rows"
  | 7 => .object "AheadOfPerson$Rows"
  | _ => .object "AheadOfPerson$Rows"
theorem nmX6 : ∀ a, a < 9 → ∀ b, b < 9 → a ≠ b → (TX6 a).2.1 ≠ (TX6 b).2.1 := by decide +kernel
theorem tyX6_ok : ∀ k, k < 9 → parseFieldDescriptor (TX6 k).2.2.1 = some (tyX6 k) := by decide +kernel
def TX7 : u_T := fun k => match k with
  | 0 => ("AheadOfPerson$Town", "word", "[I", true)
  | 1 => ("AheadOfPerson$Town", "n", "[I", true)
  | 2 => ("AheadOfPerson$Town", "from", "[I", true)
  | 3 => ("AheadOfPerson$Town", "code", "[I", true)
  | 4 => ("AheadOfPerson$Town", "clauses", "I", false)
  | 5 => ("AheadOfPerson$Town", "size", "I", false)
  | 6 => ("AheadOfPerson$Town", "bored", "I", false)
  | 7 => ("AheadOfPerson$Town", "asksStep", "Z", false)
  | 8 => ("AheadOfPerson$Town", "waiting", "[I", true)
  | 9 => ("AheadOfPerson$Town", "lure", "[I", true)
  | _ => ("AheadOfPerson$Town", "fars", "[I", true)
def tyX7 : Nat → FieldType := fun k => match k with
  | 0 => .array .int
  | 1 => .array .int
  | 2 => .array .int
  | 3 => .array .int
  | 4 => .int
  | 5 => .int
  | 6 => .int
  | 7 => .boolean
  | 8 => .array .int
  | 9 => .array .int
  | _ => .array .int
theorem nmX7 : ∀ a, a < 11 → ∀ b, b < 11 → a ≠ b → (TX7 a).2.1 ≠ (TX7 b).2.1 := by decide +kernel
theorem tyX7_ok : ∀ k, k < 11 → parseFieldDescriptor (TX7 k).2.2.1 = some (tyX7 k) := by decide +kernel
def TX8 : u_T := fun k => match k with
  | 0 => ("AheadOfPerson", "now", "LAheadOfPerson$Scene;", true)
  | 1 => ("AheadOfPerson", "taken", "LAheadOfPerson$Scene;", true)
  | 2 => ("AheadOfPerson", "isTaken", "Z", false)
  | 3 => ("AheadOfPerson", "reader", "LAheadOfPerson$Reader;", true)
  | 4 => ("AheadOfPerson", "course", "LAheadOfPerson$Course;", true)
  | _ => ("AheadOfPerson", "acts", "LAheadOfPerson$Acts;", true)
def tyX8 : Nat → FieldType := fun k => match k with
  | 0 => .object "AheadOfPerson$Scene"
  | 1 => .object "AheadOfPerson$Scene"
  | 2 => .boolean
  | 3 => .object "AheadOfPerson$Reader"
  | 4 => .object "AheadOfPerson$Course"
  | _ => .object "AheadOfPerson$Acts"
theorem nmX8 : ∀ a, a < 6 → ∀ b, b < 6 → a ≠ b → (TX8 a).2.1 ≠ (TX8 b).2.1 := by decide +kernel
theorem tyX8_ok : ∀ k, k < 6 → parseFieldDescriptor (TX8 k).2.2.1 = some (tyX8 k) := by decide +kernel
def TX9 : u_T := fun k => match k with
  | 0 => ("AheadOfPersonModel", "thrown", "I", false)
  | 1 => ("AheadOfPersonModel", "s", "[I", true)
  | 2 => ("AheadOfPersonModel", "image", "[I", true)
  | 3 => ("AheadOfPersonModel", "frame", "[I", true)
  | 4 => ("AheadOfPersonModel", "hasImage", "Z", false)
  | 5 => ("AheadOfPersonModel", "act", "I", false)
  | 6 => ("AheadOfPersonModel", "spot", "I", false)
  | 7 => ("AheadOfPersonModel", "end", "I", false)
  | 8 => ("AheadOfPersonModel", "isWrong", "Z", false)
  | 9 => ("AheadOfPersonModel", "open", "I", false)
  | 10 => ("AheadOfPersonModel", "by", "[I", true)
  | 11 => ("AheadOfPersonModel", "truths", "[Z", true)
  | 12 => ("AheadOfPersonModel", "bodies", "[I", true)
  | 13 => ("AheadOfPersonModel", "ran", "I", false)
  | 14 => ("AheadOfPersonModel", "kind", "I", false)
  | 15 => ("AheadOfPersonModel", "number", "I", false)
  | _ => ("AheadOfPersonModel", "tellsV", "I", false)
def tyX9 : Nat → FieldType := fun k => match k with
  | 0 => .int
  | 1 => .array .int
  | 2 => .array .int
  | 3 => .array .int
  | 4 => .boolean
  | 5 => .int
  | 6 => .int
  | 7 => .int
  | 8 => .boolean
  | 9 => .int
  | 10 => .array .int
  | 11 => .array .boolean
  | 12 => .array .int
  | 13 => .int
  | 14 => .int
  | 15 => .int
  | _ => .int
theorem nmX9 : ∀ a, a < 17 → ∀ b, b < 17 → a ≠ b → (TX9 a).2.1 ≠ (TX9 b).2.1 := by decide +kernel
theorem tyX9_ok : ∀ k, k < 17 → parseFieldDescriptor (TX9 k).2.2.1 = some (tyX9 k) := by decide +kernel
def yX0_init : MethodName := ⟨RX0, "<init>", "()V"⟩
def yX0_inTrace : MethodName := ⟨RX0, "inTrace", "()I"⟩
def yX0_start : MethodName := ⟨RX0, "start", "(LAheadOfPerson$Folk;III)I"⟩
def yX0_run : MethodName := ⟨RX0, "run", "(IIII)I"⟩
def yX0_note : MethodName := ⟨RX0, "note", "(I)V"⟩
def yX1_init : MethodName := ⟨RX1, "<init>", "()V"⟩
def yX1_cellsLainOn : MethodName := ⟨RX1, "cellsLainOn", "()I"⟩
def yX1_copyFrom : MethodName := ⟨RX1, "copyFrom", "(LAheadOfPerson$Carpet;)V"⟩
def yX2_init : MethodName := ⟨RX2, "<init>", "()V"⟩
def yX2_begin : MethodName := ⟨RX2, "begin", "(LAheadOfPerson$Scene;)V"⟩
def yX2_again : MethodName := ⟨RX2, "again", "()V"⟩
def yX2_putPerson : MethodName := ⟨RX2, "putPerson", "(II)V"⟩
def yX2_makePerson : MethodName := ⟨RX2, "makePerson", "(II)V"⟩
def yX2_follow : MethodName := ⟨RX2, "follow", "(II)V"⟩
def yX2_goSteps : MethodName := ⟨RX2, "goSteps", "(I)V"⟩
def yX2_comesTo : MethodName := ⟨RX2, "comesTo", "(II)I"⟩
def yX2_isAsSeen : MethodName := ⟨RX2, "isAsSeen", "(LAheadOfPerson$Rows;)Z"⟩
def yX2_go : MethodName := ⟨RX2, "go", "(I)V"⟩
def yX2_lure : MethodName := ⟨RX2, "lure", "(II)I"⟩
def yX2_draw : MethodName := ⟨RX2, "draw", "(I)I"⟩
def yX2_tug : MethodName := ⟨RX2, "tug", "(II)I"⟩
def yX2_reckon : MethodName := ⟨RX2, "reckon", "()V"⟩
def yX2_phase : MethodName := ⟨RX2, "phase", "()I"⟩
def yX2_tugBut : MethodName := ⟨RX2, "tugBut", "(IIII)I"⟩
def yX3_init : MethodName := ⟨RX3, "<init>", "()V"⟩
def yX3_has : MethodName := ⟨RX3, "has", "(I)Z"⟩
def yX3_isAway : MethodName := ⟨RX3, "isAway", "(I)Z"⟩
def yX3_setAway : MethodName := ⟨RX3, "setAway", "(IZ)V"⟩
def yX3_add : MethodName := ⟨RX3, "add", "(III)I"⟩
def yX3_copyFrom : MethodName := ⟨RX3, "copyFrom", "(LAheadOfPerson$Folk;)V"⟩
def yX4_init : MethodName := ⟨RX4, "<init>", "()V"⟩
def yX4_reads : MethodName := ⟨RX4, "reads", "(LAheadOfPerson$Rows;)Z"⟩
def yX4_readsClause : MethodName := ⟨RX4, "readsClause", "()Z"⟩
def yX4_readsExpression : MethodName := ⟨RX4, "readsExpression", "()Z"⟩
def yX4_takesOpening : MethodName := ⟨RX4, "takesOpening", "()V"⟩
def yX4_takesClosing : MethodName := ⟨RX4, "takesClosing", "()V"⟩
def yX4_push : MethodName := ⟨RX4, "push", "(I)V"⟩
def yX4_settle : MethodName := ⟨RX4, "settle", "(I)V"⟩
def yX4_readsTest : MethodName := ⟨RX4, "readsTest", "()Z"⟩
def yX4_takesNumber : MethodName := ⟨RX4, "takesNumber", "()I"⟩
def yX4_takesAll : MethodName := ⟨RX4, "takesAll", "(Ljava/lang/String;)Z"⟩
def yX4_takesOneOf : MethodName := ⟨RX4, "takesOneOf", "(Ljava/lang/String;)I"⟩
def yX4_takes : MethodName := ⟨RX4, "takes", "(C)Z"⟩
def yX4_next : MethodName := ⟨RX4, "next", "()I"⟩
def yX5_init : MethodName := ⟨RX5, "<init>", "(I)V"⟩
def yX5_add : MethodName := ⟨RX5, "add", "(II)I"⟩
def yX5_clear : MethodName := ⟨RX5, "clear", "()I"⟩
def yX5_copyFrom : MethodName := ⟨RX5, "copyFrom", "(LAheadOfPerson$Rows;)V"⟩
def yX6_init : MethodName := ⟨RX6, "<init>", "()V"⟩
def yX6_copyFrom : MethodName := ⟨RX6, "copyFrom", "(LAheadOfPerson$Scene;)V"⟩
def yX7_init : MethodName := ⟨RX7, "<init>", "()V"⟩
def yX7_clear : MethodName := ⟨RX7, "clear", "()V"⟩
def yX7_begin : MethodName := ⟨RX7, "begin", "(II)V"⟩
def yX7_put : MethodName := ⟨RX7, "put", "(I)V"⟩
def yX7_putTest : MethodName := ⟨RX7, "putTest", "(III)V"⟩
def yX7_copyFrom : MethodName := ⟨RX7, "copyFrom", "(LAheadOfPerson$Town;)V"⟩
def yX7_weigh : MethodName := ⟨RX7, "weigh", "(LAheadOfPerson$Folk;II)V"⟩
def yX7_whereHolds : MethodName := ⟨RX7, "whereHolds", "(ILAheadOfPerson$Folk;II)I"⟩
def yX7_whereTest : MethodName := ⟨RX7, "whereTest", "(ILAheadOfPerson$Folk;II)I"⟩
def yX8_init : MethodName := ⟨RX8, "<init>", "()V"⟩
def yX8_feed : MethodName := ⟨RX8, "feed", "(I)I"⟩
def yX8_town : MethodName := ⟨RX8, "town", "()I"⟩
def yX8_person : MethodName := ⟨RX8, "person", "(III)I"⟩
def yX8_of : MethodName := ⟨RX8, "of", "(II)I"⟩
def yX8_line : MethodName := ⟨RX8, "line", "(III)I"⟩
def yX8_move : MethodName := ⟨RX8, "move", "(II)I"⟩
def yX8_away : MethodName := ⟨RX8, "away", "(IZ)I"⟩
def yX8_lay : MethodName := ⟨RX8, "lay", "(I)I"⟩
def yX8_told : MethodName := ⟨RX8, "told", "(I)I"⟩
def yX8_pass : MethodName := ⟨RX8, "pass", "(I)I"⟩
def yX8_on : MethodName := ⟨RX8, "on", "(II)I"⟩
def yX8_finds : MethodName := ⟨RX8, "finds", "(I)I"⟩
def yX8_soonest : MethodName := ⟨RX8, "soonest", "(II)I"⟩
def yX8_call : MethodName := ⟨RX8, "call", "(I)I"⟩
def yX8_kept : MethodName := ⟨RX8, "kept", "(I)I"⟩
def yX8_walk : MethodName := ⟨RX8, "walk", "(I)I"⟩
def yX8_met : MethodName := ⟨RX8, "met", "(I)I"⟩
def yX8_see : MethodName := ⟨RX8, "see", "(II)I"⟩
def yX8_doors : MethodName := ⟨RX8, "doors", "(I)I"⟩
def yX8_firm : MethodName := ⟨RX8, "firm", "(II)I"⟩
def yX8_sought : MethodName := ⟨RX8, "sought", "()I"⟩
def yX8_odds : MethodName := ⟨RX8, "odds", "(III)J"⟩
def yX8_mean : MethodName := ⟨RX8, "mean", "(II)J"⟩
def yX8_plan : MethodName := ⟨RX8, "plan", "(II)I"⟩
def yX8_done : MethodName := ⟨RX8, "done", "(I)I"⟩
def yX8_book : MethodName := ⟨RX8, "book", "(II)I"⟩
def yX8_looked : MethodName := ⟨RX8, "looked", "()I"⟩
def yX8_act : MethodName := ⟨RX8, "act", "(III)I"⟩
def yX8_trace : MethodName := ⟨RX8, "trace", "(I)I"⟩
def yX8_as : MethodName := ⟨RX8, "as", "(II)I"⟩
def yX8_image : MethodName := ⟨RX8, "image", "()I"⟩
def yX8_undo : MethodName := ⟨RX8, "undo", "()I"⟩
def yX8_count : MethodName := ⟨RX8, "count", "(I)I"⟩
def yX8_isCell : MethodName := ⟨RX8, "isCell", "(I)Z"⟩
def yX8_isKind : MethodName := ⟨RX8, "isKind", "(I)Z"⟩
def yX8_isDigit : MethodName := ⟨RX8, "isDigit", "(I)Z"⟩
def yX8_isFuture : MethodName := ⟨RX8, "isFuture", "(I)Z"⟩
def yX8_isEither : MethodName := ⟨RX8, "isEither", "(I)Z"⟩
def yX8_far : MethodName := ⟨RX8, "far", "(II)I"⟩
def yX8_inLowestTerms : MethodName := ⟨RX8, "inLowestTerms", "(III)J"⟩
def yX9_init : MethodName := ⟨RX9, "<init>", "()V"⟩
def yX9_in : MethodName := ⟨RX9, "in", "(III)Z"⟩
def yX9_size : MethodName := ⟨RX9, "size", "(I)I"⟩
def yX9_isCell : MethodName := ⟨RX9, "isCell", "(I)Z"⟩
def yX9_far : MethodName := ⟨RX9, "far", "(II)I"⟩
def yX9_isPerson : MethodName := ⟨RX9, "isPerson", "(I)Z"⟩
def yX9_keeps : MethodName := ⟨RX9, "keeps", "()V"⟩
def yX9_goesBack : MethodName := ⟨RX9, "goesBack", "()V"⟩
def yX9_feed : MethodName := ⟨RX9, "feed", "(I)I"⟩
def yX9_here : MethodName := ⟨RX9, "here", "()I"⟩
def yX9_must : MethodName := ⟨RX9, "must", "(I)V"⟩
def yX9_spells : MethodName := ⟨RX9, "spells", "(Ljava/lang/String;)V"⟩
def yX9_figures : MethodName := ⟨RX9, "figures", "()I"⟩
def yX9_among : MethodName := ⟨RX9, "among", "(Ljava/lang/String;)I"⟩
def yX9_emits : MethodName := ⟨RX9, "emits", "(I)V"⟩
def yX9_factor : MethodName := ⟨RX9, "factor", "()V"⟩
def yX9_every : MethodName := ⟨RX9, "every", "()V"⟩
def yX9_some : MethodName := ⟨RX9, "some", "()V"⟩
def yX9_much : MethodName := ⟨RX9, "much", "(ILjava/lang/String;)V"⟩
def yX9_tellsHere : MethodName := ⟨RX9, "tellsHere", "(ILjava/lang/String;)V"⟩
def yX9_clauseHere : MethodName := ⟨RX9, "clauseHere", "()V"⟩
def yX9_town : MethodName := ⟨RX9, "town", "()I"⟩
def yX9_tellsOf : MethodName := ⟨RX9, "tellsOf", "(II)I"⟩
def yX9_lureOf : MethodName := ⟨RX9, "lureOf", "(II)I"⟩
def yX9_tugOf : MethodName := ⟨RX9, "tugOf", "(II)I"⟩
def yX9_drawOf : MethodName := ⟨RX9, "drawOf", "(I)I"⟩
def yX9_manyLain : MethodName := ⟨RX9, "manyLain", "()I"⟩
def yX9_person : MethodName := ⟨RX9, "person", "(III)I"⟩
def yX9_of : MethodName := ⟨RX9, "of", "(II)I"⟩
def yX9_line : MethodName := ⟨RX9, "line", "(III)I"⟩
def yX9_becomes : MethodName := ⟨RX9, "becomes", "(II)I"⟩
def yX9_move : MethodName := ⟨RX9, "move", "(II)I"⟩
def yX9_away : MethodName := ⟨RX9, "away", "(IZ)I"⟩
def yX9_lay : MethodName := ⟨RX9, "lay", "(I)I"⟩
def yX9_told : MethodName := ⟨RX9, "told", "(I)I"⟩
def yX9_goes : MethodName := ⟨RX9, "goes", "()V"⟩
def yX9_goesOn : MethodName := ⟨RX9, "goesOn", "(I)V"⟩
def yX9_pass : MethodName := ⟨RX9, "pass", "(I)I"⟩
def yX9_on : MethodName := ⟨RX9, "on", "(II)I"⟩
def yX9_stepsTo : MethodName := ⟨RX9, "stepsTo", "(II)I"⟩
def yX9_finds : MethodName := ⟨RX9, "finds", "(I)I"⟩
def yX9_soonest : MethodName := ⟨RX9, "soonest", "(II)I"⟩
def yX9_call : MethodName := ⟨RX9, "call", "(I)I"⟩
def yX9_countOf : MethodName := ⟨RX9, "countOf", "(I)I"⟩
def yX9_isKept : MethodName := ⟨RX9, "isKept", "(II)Z"⟩
def yX9_kept : MethodName := ⟨RX9, "kept", "(I)I"⟩
def yX9_walk : MethodName := ⟨RX9, "walk", "(I)I"⟩
def yX9_met : MethodName := ⟨RX9, "met", "(I)I"⟩
def yX9_see : MethodName := ⟨RX9, "see", "(II)I"⟩
def yX9_isAsSeen : MethodName := ⟨RX9, "isAsSeen", "(I)Z"⟩
def yX9_areAsSeen : MethodName := ⟨RX9, "areAsSeen", "()Z"⟩
def yX9_doors : MethodName := ⟨RX9, "doors", "(I)I"⟩
def yX9_firm : MethodName := ⟨RX9, "firm", "(II)I"⟩
def yX9_sought : MethodName := ⟨RX9, "sought", "()I"⟩
def yX9_lowest : MethodName := ⟨RX9, "lowest", "(JJI)J"⟩
def yX9_odds : MethodName := ⟨RX9, "odds", "(III)J"⟩
def yX9_mean : MethodName := ⟨RX9, "mean", "(II)J"⟩
def yX9_plan : MethodName := ⟨RX9, "plan", "(II)I"⟩
def yX9_goesBy : MethodName := ⟨RX9, "goesBy", "(II)V"⟩
def yX9_done : MethodName := ⟨RX9, "done", "(I)I"⟩
def yX9_book : MethodName := ⟨RX9, "book", "(II)I"⟩
def yX9_looked : MethodName := ⟨RX9, "looked", "()I"⟩
def yX9_ranBody : MethodName := ⟨RX9, "ranBody", "(I)V"⟩
def yX9_isUnder : MethodName := ⟨RX9, "isUnder", "(II)Z"⟩
def yX9_plainStands : MethodName := ⟨RX9, "plainStands", "(I)I"⟩
def yX9_standsActs : MethodName := ⟨RX9, "standsActs", "(I)I"⟩
def yX9_plainLooks : MethodName := ⟨RX9, "plainLooks", "(I)I"⟩
def yX9_looksActs : MethodName := ⟨RX9, "looksActs", "(I)I"⟩
def yX9_plainTelling : MethodName := ⟨RX9, "plainTelling", "(I)I"⟩
def yX9_tellsActs : MethodName := ⟨RX9, "tellsActs", "(I)I"⟩
def yX9_act : MethodName := ⟨RX9, "act", "(III)I"⟩
def yX9_trace : MethodName := ⟨RX9, "trace", "(I)I"⟩
def yX9_as : MethodName := ⟨RX9, "as", "(II)I"⟩
def yX9_image : MethodName := ⟨RX9, "image", "()I"⟩
def yX9_undo : MethodName := ⟨RX9, "undo", "()I"⟩
def yX9_count : MethodName := ⟨RX9, "count", "(I)I"⟩
def yJ11_isValidCodePoint_9a6ad : MethodName := ⟨RJ11, "isValidCodePoint", "(I)Z"⟩
def yJ11_highSurrogate_5068e : MethodName := ⟨RJ11, "highSurrogate", "(I)C"⟩
def yJ11_lowSurrogate_5068e : MethodName := ⟨RJ11, "lowSurrogate", "(I)C"⟩
def yJ6_bitCount_0f7a4 : MethodName := ⟨RJ6, "bitCount", "(I)I"⟩
def yJ9_abs_0f7a4 : MethodName := ⟨RJ9, "abs", "(I)I"⟩
def yJ9_max_7cf53 : MethodName := ⟨RJ9, "max", "(II)I"⟩
def yJ9_min_7cf53 : MethodName := ⟨RJ9, "min", "(II)I"⟩
def yJ0_length_8abf5 : MethodName := ⟨RJ0, "length", "()I"⟩
def yJ0_charAt_5068e : MethodName := ⟨RJ0, "charAt", "(I)C"⟩
def yJ0_indexOf_0f7a4 : MethodName := ⟨RJ0, "indexOf", "(I)I"⟩
def yJ0_indexOf_7cf53 : MethodName := ⟨RJ0, "indexOf", "(II)I"⟩
def yJ0_coder_7d493 : MethodName := ⟨RJ0, "coder", "()B"⟩
def yJ0_isLatin1_aae02 : MethodName := ⟨RJ0, "isLatin1", "()Z"⟩
def yJ0_checkIndex_df160 : MethodName := ⟨RJ0, "checkIndex", "(II)V"⟩
def yJ0_checkBoundsBeginEnd_23922 : MethodName := ⟨RJ0, "checkBoundsBeginEnd", "(III)V"⟩
def yJ1_charAt_3b067 : MethodName := ⟨RJ1, "charAt", "([BI)C"⟩
def yJ1_canEncode_9a6ad : MethodName := ⟨RJ1, "canEncode", "(I)Z"⟩
def yJ1_indexOf_4cfef : MethodName := ⟨RJ1, "indexOf", "([BIII)I"⟩
def yJ1_indexOfChar_4cfef : MethodName := ⟨RJ1, "indexOfChar", "([BIII)I"⟩
def yJ2_getChar_3b067 : MethodName := ⟨RJ2, "getChar", "([BI)C"⟩
def yJ2_length_9d52b : MethodName := ⟨RJ2, "length", "([B)I"⟩
def yJ2_indexOf_4cfef : MethodName := ⟨RJ2, "indexOf", "([BIII)I"⟩
def yJ2_indexOfChar_4cfef : MethodName := ⟨RJ2, "indexOfChar", "([BIII)I"⟩
def yJ2_indexOfCharUnsafe_4cfef : MethodName := ⟨RJ2, "indexOfCharUnsafe", "([BIII)I"⟩
def yJ2_indexOfSupplementary_4cfef : MethodName := ⟨RJ2, "indexOfSupplementary", "([BIII)I"⟩
def yJ2_charAt_3b067 : MethodName := ⟨RJ2, "charAt", "([BI)C"⟩
def yJ2_checkIndex_2214a : MethodName := ⟨RJ2, "checkIndex", "(I[B)V"⟩
def yJ2_checkBoundsBeginEnd_d044e : MethodName := ⟨RJ2, "checkBoundsBeginEnd", "(II[B)V"⟩
def yJ3_checkIndex_8e157 : MethodName := ⟨RJ3, "checkIndex", "(IILjava/util/function/BiFunction;)I"⟩
def yJ3_checkFromToIndex_8c36e : MethodName := ⟨RJ3, "checkFromToIndex", "(IIILjava/util/function/BiFunction;)I"⟩
abbrev cX0_init : ByteArray := prog_2_method_1_code
abbrev cX0_inTrace : ByteArray := prog_2_method_2_code
abbrev cX0_start : ByteArray := prog_2_method_3_code
abbrev cX0_run : ByteArray := prog_2_method_4_code
abbrev cX0_note : ByteArray := prog_2_method_5_code
abbrev cX1_init : ByteArray := prog_3_method_1_code
abbrev cX1_cellsLainOn : ByteArray := prog_3_method_2_code
abbrev cX1_copyFrom : ByteArray := prog_3_method_3_code
abbrev cX2_init : ByteArray := prog_4_method_1_code
abbrev cX2_begin : ByteArray := prog_4_method_2_code
abbrev cX2_again : ByteArray := prog_4_method_3_code
abbrev cX2_putPerson : ByteArray := prog_4_method_4_code
abbrev cX2_makePerson : ByteArray := prog_4_method_5_code
abbrev cX2_follow : ByteArray := prog_4_method_6_code
abbrev cX2_goSteps : ByteArray := prog_4_method_7_code
abbrev cX2_comesTo : ByteArray := prog_4_method_8_code
abbrev cX2_isAsSeen : ByteArray := prog_4_method_9_code
abbrev cX2_go : ByteArray := prog_4_method_10_code
abbrev cX2_lure : ByteArray := prog_4_method_11_code
abbrev cX2_draw : ByteArray := prog_4_method_12_code
abbrev cX2_tug : ByteArray := prog_4_method_13_code
abbrev cX2_reckon : ByteArray := prog_4_method_14_code
abbrev cX2_phase : ByteArray := prog_4_method_15_code
abbrev cX2_tugBut : ByteArray := prog_4_method_16_code
abbrev cX3_init : ByteArray := prog_5_method_1_code
abbrev cX3_has : ByteArray := prog_5_method_2_code
abbrev cX3_isAway : ByteArray := prog_5_method_3_code
abbrev cX3_setAway : ByteArray := prog_5_method_4_code
abbrev cX3_add : ByteArray := prog_5_method_5_code
abbrev cX3_copyFrom : ByteArray := prog_5_method_6_code
abbrev cX4_init : ByteArray := prog_6_method_1_code
abbrev cX4_reads : ByteArray := prog_6_method_2_code
abbrev cX4_readsClause : ByteArray := prog_6_method_3_code
abbrev cX4_readsExpression : ByteArray := prog_6_method_4_code
abbrev cX4_takesOpening : ByteArray := prog_6_method_5_code
abbrev cX4_takesClosing : ByteArray := prog_6_method_6_code
abbrev cX4_push : ByteArray := prog_6_method_7_code
abbrev cX4_settle : ByteArray := prog_6_method_8_code
abbrev cX4_readsTest : ByteArray := prog_6_method_9_code
abbrev cX4_takesNumber : ByteArray := prog_6_method_10_code
abbrev cX4_takesAll : ByteArray := prog_6_method_11_code
abbrev cX4_takesOneOf : ByteArray := prog_6_method_12_code
abbrev cX4_takes : ByteArray := prog_6_method_13_code
abbrev cX4_next : ByteArray := prog_6_method_14_code
abbrev cX5_init : ByteArray := prog_7_method_1_code
abbrev cX5_add : ByteArray := prog_7_method_2_code
abbrev cX5_clear : ByteArray := prog_7_method_3_code
abbrev cX5_copyFrom : ByteArray := prog_7_method_4_code
abbrev cX6_init : ByteArray := prog_8_method_1_code
abbrev cX6_copyFrom : ByteArray := prog_8_method_2_code
abbrev cX7_init : ByteArray := prog_9_method_1_code
abbrev cX7_clear : ByteArray := prog_9_method_2_code
abbrev cX7_begin : ByteArray := prog_9_method_3_code
abbrev cX7_put : ByteArray := prog_9_method_4_code
abbrev cX7_putTest : ByteArray := prog_9_method_5_code
abbrev cX7_copyFrom : ByteArray := prog_9_method_6_code
abbrev cX7_weigh : ByteArray := prog_9_method_7_code
abbrev cX7_whereHolds : ByteArray := prog_9_method_8_code
abbrev cX7_whereTest : ByteArray := prog_9_method_9_code
abbrev cX8_init : ByteArray := prog_1_method_1_code
abbrev cX8_feed : ByteArray := prog_1_method_2_code
abbrev cX8_town : ByteArray := prog_1_method_3_code
abbrev cX8_person : ByteArray := prog_1_method_4_code
abbrev cX8_of : ByteArray := prog_1_method_5_code
abbrev cX8_line : ByteArray := prog_1_method_6_code
abbrev cX8_move : ByteArray := prog_1_method_7_code
abbrev cX8_away : ByteArray := prog_1_method_8_code
abbrev cX8_lay : ByteArray := prog_1_method_9_code
abbrev cX8_told : ByteArray := prog_1_method_10_code
abbrev cX8_pass : ByteArray := prog_1_method_11_code
abbrev cX8_on : ByteArray := prog_1_method_12_code
abbrev cX8_finds : ByteArray := prog_1_method_13_code
abbrev cX8_soonest : ByteArray := prog_1_method_14_code
abbrev cX8_call : ByteArray := prog_1_method_15_code
abbrev cX8_kept : ByteArray := prog_1_method_16_code
abbrev cX8_walk : ByteArray := prog_1_method_17_code
abbrev cX8_met : ByteArray := prog_1_method_18_code
abbrev cX8_see : ByteArray := prog_1_method_19_code
abbrev cX8_doors : ByteArray := prog_1_method_20_code
abbrev cX8_firm : ByteArray := prog_1_method_21_code
abbrev cX8_sought : ByteArray := prog_1_method_22_code
abbrev cX8_odds : ByteArray := prog_1_method_23_code
abbrev cX8_mean : ByteArray := prog_1_method_24_code
abbrev cX8_plan : ByteArray := prog_1_method_25_code
abbrev cX8_done : ByteArray := prog_1_method_26_code
abbrev cX8_book : ByteArray := prog_1_method_27_code
abbrev cX8_looked : ByteArray := prog_1_method_28_code
abbrev cX8_act : ByteArray := prog_1_method_29_code
abbrev cX8_trace : ByteArray := prog_1_method_30_code
abbrev cX8_as : ByteArray := prog_1_method_31_code
abbrev cX8_image : ByteArray := prog_1_method_32_code
abbrev cX8_undo : ByteArray := prog_1_method_33_code
abbrev cX8_count : ByteArray := prog_1_method_34_code
abbrev cX8_isCell : ByteArray := prog_1_method_35_code
abbrev cX8_isKind : ByteArray := prog_1_method_36_code
abbrev cX8_isDigit : ByteArray := prog_1_method_37_code
abbrev cX8_isFuture : ByteArray := prog_1_method_38_code
abbrev cX8_isEither : ByteArray := prog_1_method_39_code
abbrev cX8_far : ByteArray := prog_1_method_40_code
abbrev cX8_inLowestTerms : ByteArray := prog_1_method_41_code
abbrev cX9_init : ByteArray := prog_11_method_1_code
abbrev cX9_in : ByteArray := prog_11_method_3_code
abbrev cX9_size : ByteArray := prog_11_method_4_code
abbrev cX9_isCell : ByteArray := prog_11_method_5_code
abbrev cX9_far : ByteArray := prog_11_method_6_code
abbrev cX9_isPerson : ByteArray := prog_11_method_7_code
abbrev cX9_keeps : ByteArray := prog_11_method_8_code
abbrev cX9_goesBack : ByteArray := prog_11_method_9_code
abbrev cX9_feed : ByteArray := prog_11_method_10_code
abbrev cX9_here : ByteArray := prog_11_method_11_code
abbrev cX9_must : ByteArray := prog_11_method_12_code
abbrev cX9_spells : ByteArray := prog_11_method_13_code
abbrev cX9_figures : ByteArray := prog_11_method_14_code
abbrev cX9_among : ByteArray := prog_11_method_15_code
abbrev cX9_emits : ByteArray := prog_11_method_16_code
abbrev cX9_factor : ByteArray := prog_11_method_17_code
abbrev cX9_every : ByteArray := prog_11_method_18_code
abbrev cX9_some : ByteArray := prog_11_method_19_code
abbrev cX9_much : ByteArray := prog_11_method_20_code
abbrev cX9_tellsHere : ByteArray := prog_11_method_21_code
abbrev cX9_clauseHere : ByteArray := prog_11_method_22_code
abbrev cX9_town : ByteArray := prog_11_method_23_code
abbrev cX9_tellsOf : ByteArray := prog_11_method_24_code
abbrev cX9_lureOf : ByteArray := prog_11_method_25_code
abbrev cX9_tugOf : ByteArray := prog_11_method_26_code
abbrev cX9_drawOf : ByteArray := prog_11_method_27_code
abbrev cX9_manyLain : ByteArray := prog_11_method_28_code
abbrev cX9_person : ByteArray := prog_11_method_29_code
abbrev cX9_of : ByteArray := prog_11_method_30_code
abbrev cX9_line : ByteArray := prog_11_method_31_code
abbrev cX9_becomes : ByteArray := prog_11_method_32_code
abbrev cX9_move : ByteArray := prog_11_method_33_code
abbrev cX9_away : ByteArray := prog_11_method_34_code
abbrev cX9_lay : ByteArray := prog_11_method_35_code
abbrev cX9_told : ByteArray := prog_11_method_36_code
abbrev cX9_goes : ByteArray := prog_11_method_37_code
abbrev cX9_goesOn : ByteArray := prog_11_method_38_code
abbrev cX9_pass : ByteArray := prog_11_method_39_code
abbrev cX9_on : ByteArray := prog_11_method_40_code
abbrev cX9_stepsTo : ByteArray := prog_11_method_41_code
abbrev cX9_finds : ByteArray := prog_11_method_42_code
abbrev cX9_soonest : ByteArray := prog_11_method_43_code
abbrev cX9_call : ByteArray := prog_11_method_44_code
abbrev cX9_countOf : ByteArray := prog_11_method_45_code
abbrev cX9_isKept : ByteArray := prog_11_method_46_code
abbrev cX9_kept : ByteArray := prog_11_method_47_code
abbrev cX9_walk : ByteArray := prog_11_method_48_code
abbrev cX9_met : ByteArray := prog_11_method_49_code
abbrev cX9_see : ByteArray := prog_11_method_50_code
abbrev cX9_isAsSeen : ByteArray := prog_11_method_51_code
abbrev cX9_areAsSeen : ByteArray := prog_11_method_52_code
abbrev cX9_doors : ByteArray := prog_11_method_53_code
abbrev cX9_firm : ByteArray := prog_11_method_54_code
abbrev cX9_sought : ByteArray := prog_11_method_55_code
abbrev cX9_lowest : ByteArray := prog_11_method_56_code
abbrev cX9_odds : ByteArray := prog_11_method_57_code
abbrev cX9_mean : ByteArray := prog_11_method_58_code
abbrev cX9_plan : ByteArray := prog_11_method_59_code
abbrev cX9_goesBy : ByteArray := prog_11_method_60_code
abbrev cX9_done : ByteArray := prog_11_method_61_code
abbrev cX9_book : ByteArray := prog_11_method_62_code
abbrev cX9_looked : ByteArray := prog_11_method_63_code
abbrev cX9_ranBody : ByteArray := prog_11_method_64_code
abbrev cX9_isUnder : ByteArray := prog_11_method_65_code
abbrev cX9_plainStands : ByteArray := prog_11_method_66_code
abbrev cX9_standsActs : ByteArray := prog_11_method_67_code
abbrev cX9_plainLooks : ByteArray := prog_11_method_68_code
abbrev cX9_looksActs : ByteArray := prog_11_method_69_code
abbrev cX9_plainTelling : ByteArray := prog_11_method_70_code
abbrev cX9_tellsActs : ByteArray := prog_11_method_71_code
abbrev cX9_act : ByteArray := prog_11_method_72_code
abbrev cX9_trace : ByteArray := prog_11_method_73_code
abbrev cX9_as : ByteArray := prog_11_method_74_code
abbrev cX9_image : ByteArray := prog_11_method_75_code
abbrev cX9_undo : ByteArray := prog_11_method_76_code
abbrev cX9_count : ByteArray := prog_11_method_77_code
abbrev cJ11_isValidCodePoint_9a6ad : ByteArray := prog_12_method_11_code
abbrev cJ11_highSurrogate_5068e : ByteArray := prog_12_method_28_code
abbrev cJ11_lowSurrogate_5068e : ByteArray := prog_12_method_29_code
abbrev cJ6_bitCount_0f7a4 : ByteArray := prog_13_method_49_code
abbrev cJ9_abs_0f7a4 : ByteArray := prog_14_method_59_code
abbrev cJ9_max_7cf53 : ByteArray := prog_14_method_65_code
abbrev cJ9_min_7cf53 : ByteArray := prog_14_method_69_code
abbrev cJ0_length_8abf5 : ByteArray := prog_15_method_54_code
abbrev cJ0_charAt_5068e : ByteArray := prog_15_method_56_code
abbrev cJ0_indexOf_0f7a4 : ByteArray := prog_15_method_79_code
abbrev cJ0_indexOf_7cf53 : ByteArray := prog_15_method_80_code
abbrev cJ0_coder_7d493 : ByteArray := prog_15_method_152_code
abbrev cJ0_isLatin1_aae02 : ByteArray := prog_15_method_154_code
abbrev cJ0_checkIndex_df160 : ByteArray := prog_15_method_155_code
abbrev cJ0_checkBoundsBeginEnd_23922 : ByteArray := prog_15_method_158_code
abbrev cJ1_charAt_3b067 : ByteArray := prog_16_method_2_code
abbrev cJ1_canEncode_9a6ad : ByteArray := prog_16_method_4_code
abbrev cJ1_indexOf_4cfef : ByteArray := prog_16_method_22_code
abbrev cJ1_indexOfChar_4cfef : ByteArray := prog_16_method_23_code
abbrev cJ2_getChar_3b067 : ByteArray := prog_17_method_5_code
abbrev cJ2_length_9d52b : ByteArray := prog_17_method_6_code
abbrev cJ2_indexOf_4cfef : ByteArray := prog_17_method_40_code
abbrev cJ2_indexOfChar_4cfef : ByteArray := prog_17_method_47_code
abbrev cJ2_indexOfCharUnsafe_4cfef : ByteArray := prog_17_method_48_code
abbrev cJ2_indexOfSupplementary_4cfef : ByteArray := prog_17_method_49_code
abbrev cJ2_charAt_3b067 : ByteArray := prog_17_method_83_code
abbrev cJ2_checkIndex_2214a : ByteArray := prog_17_method_91_code
abbrev cJ2_checkBoundsBeginEnd_d044e : ByteArray := prog_17_method_93_code
abbrev cJ3_checkIndex_8e157 : ByteArray := prog_19_method_11_code
abbrev cJ3_checkFromToIndex_8c36e : ByteArray := prog_19_method_12_code
/-! the cells of the system, numbered: the class under proof from 0 on, the reference from 98 on; 105 in all. kd: 0..9 objects of the classes RX0..RX9; 20 a row of ints, 21 of booleans -/
def ap_kdL : List Nat := [8, 6, 5, 20, 20, 7, 20, 20, 20, 20, 20, 20, 20, 3, 20, 20, 20, 20, 1, 20, 5, 20, 20, 5, 20, 20, 5, 20, 20, 5, 20, 20, 6, 5, 20, 20, 7, 20, 20, 20, 20, 20, 20, 20, 3, 20, 20, 20, 20, 1, 20, 5, 20, 20, 5, 20, 20, 5, 20, 20, 5, 20, 20, 4, 7, 20, 20, 20, 20, 20, 20, 20, 5, 20, 20, 20, 2, 3, 20, 20, 20, 20, 1, 20, 1, 20, 7, 20, 20, 20, 20, 20, 20, 20, 20, 20, 0, 20, 9, 20, 20, 20, 20, 21, 20]
def ap_lnL : List Nat := [0, 0, 0, 100, 100, 0, 10, 10, 10, 100, 13, 16, 16, 0, 6, 6, 6, 24, 0, 16, 0, 10, 10, 0, 5, 5, 0, 8, 8, 0, 8, 8, 0, 0, 100, 100, 0, 10, 10, 10, 100, 13, 16, 16, 0, 6, 6, 6, 24, 0, 16, 0, 10, 10, 0, 5, 5, 0, 8, 8, 0, 8, 8, 0, 0, 10, 10, 10, 100, 13, 16, 16, 0, 100, 100, 17, 0, 0, 6, 6, 6, 24, 0, 16, 0, 16, 0, 10, 10, 10, 100, 13, 16, 16, 960, 6, 0, 20, 0, 936, 936, 30, 6, 64, 20]
def ap_foL : List (List Nat) := [[1, 0, 0, 0, 0], [1, 0, 0], [1, 6, 8, 10, 18, 19], [1, 2, 3, 4, 0, 0], [1, 0, 9, 12, 0, 0, 0], [1, 2, 0], [1, 4, 0, 12, 17, 19, 22, 25, 28], [1, 2, 3, 4, 0, 0, 0, 0, 5, 6, 7], [1, 32, 0, 63, 76, 96], [0, 1, 2, 3, 0, 0, 0, 0, 0, 0, 4, 5, 6, 0, 0, 0, 0]]
def ap_nfL : List Nat := [5, 3, 6, 6, 7, 3, 9, 11, 6, 17]
abbrev ap_NM : Nat := 105
def ap_classes : List vw_C := [(RX0, TX0, 5), (RX1, TX1, 3), (RX2, TX2, 6), (RX3, TX3, 6), (RX4, TX4, 7), (RX5, TX5, 3), (RX6, TX6, 9), (RX7, TX7, 11), (RX8, TX8, 6), (RX9, TX9, 17)]
def ap_kT (j : Nat) (i : Nat) : Int32 := (([[0, 0, 0, 0, 1, 2, 3], [(-4), (-1), 1, 4], [1, 2, 3, 11, 0, 0, 0, 21, 0, 0, 0, 31, 0, 0, 41, 51, 0, 0, 0, 61, 0]] : List (List Int32)).getD j []).getD i 0
def ap_kN (j : Nat) : Nat := ([7, 4, 21] : List Nat).getD j 0
def ap_sl : List Nat := [6, 5, 4, 10, 6, 3]
def ap_sb : List (List Int32) := [[98, 111, 114, 101, 100, 32], [104, 111, 112, 101, 32], [115, 104, 121, 32], [48, 49, 50, 51, 52, 53, 54, 55, 56, 57], [112, 107, 118, 102, 99, 115], [60, 61, 62]]
def ap_sref : List (String × Nat × String × Nat) := [("AheadOfPerson$Reader", 66, "bored ", 0), ("AheadOfPerson$Reader", 68, "hope ", 1), ("AheadOfPerson$Reader", 70, "shy ", 2), ("AheadOfPerson$Reader", 122, "0123456789", 3), ("AheadOfPerson$Reader", 104, "pkvfcs", 4), ("AheadOfPerson$Reader", 110, "<=>", 5), ("AheadOfPersonModel", 103, "bored ", 0), ("AheadOfPersonModel", 109, "hope ", 1), ("AheadOfPersonModel", 85, "pkvfcs", 4), ("AheadOfPersonModel", 91, "<=>", 5), ("AheadOfPersonModel", 114, "shy ", 2)]
