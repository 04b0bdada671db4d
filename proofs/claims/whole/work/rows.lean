section
/-- a private method of a class that the tables say can be made, by its rows of tables_1 -/
def lw_okq (q : MethodName × Nat) : Prop := (q.1.cls ≠ "java/lang/invoke/MethodHandle" ∧ q.1.cls ≠ "java/lang/invoke/VarHandle") ∧ Cond.instantiable q.1.cls q.2 ∈ tables_1 ∧ Cond.privateMethod q.1 ∈ tables_1 ∧ Cond.instanceMethod q.1 ∈ tables_1
theorem lw_p0 : lw_okq (⟨"AheadOfPerson$Reader", "readsClause", "()Z"⟩, 7) := ⟨⟨by decide +kernel, by decide +kernel⟩, List.mem_of_getElem? (i := 210) (by decide +kernel), List.mem_of_getElem? (i := 349) (by decide +kernel), List.mem_of_getElem? (i := 350) (by decide +kernel)⟩
theorem lw_p1 : lw_okq (⟨"AheadOfPerson$Reader", "next", "()I"⟩, 7) := ⟨⟨by decide +kernel, by decide +kernel⟩, List.mem_of_getElem? (i := 210) (by decide +kernel), List.mem_of_getElem? (i := 353) (by decide +kernel), List.mem_of_getElem? (i := 354) (by decide +kernel)⟩
theorem lw_p2 : lw_okq (⟨"AheadOfPerson$Reader", "takesAll", "(Ljava/lang/String;)Z"⟩, 7) := ⟨⟨by decide +kernel, by decide +kernel⟩, List.mem_of_getElem? (i := 210) (by decide +kernel), List.mem_of_getElem? (i := 360) (by decide +kernel), List.mem_of_getElem? (i := 361) (by decide +kernel)⟩
theorem lw_p3 : lw_okq (⟨"AheadOfPerson$Reader", "takes", "(C)Z"⟩, 7) := ⟨⟨by decide +kernel, by decide +kernel⟩, List.mem_of_getElem? (i := 210) (by decide +kernel), List.mem_of_getElem? (i := 412) (by decide +kernel), List.mem_of_getElem? (i := 413) (by decide +kernel)⟩
theorem lw_p4 : lw_okq (⟨"AheadOfPerson$Reader", "takesNumber", "()I"⟩, 7) := ⟨⟨by decide +kernel, by decide +kernel⟩, List.mem_of_getElem? (i := 210) (by decide +kernel), List.mem_of_getElem? (i := 416) (by decide +kernel), List.mem_of_getElem? (i := 417) (by decide +kernel)⟩
theorem lw_p5 : lw_okq (⟨"AheadOfPerson$Reader", "takesOneOf", "(Ljava/lang/String;)I"⟩, 7) := ⟨⟨by decide +kernel, by decide +kernel⟩, List.mem_of_getElem? (i := 210) (by decide +kernel), List.mem_of_getElem? (i := 421) (by decide +kernel), List.mem_of_getElem? (i := 422) (by decide +kernel)⟩
theorem lw_p6 : lw_okq (⟨"AheadOfPerson$Reader", "readsExpression", "()Z"⟩, 7) := ⟨⟨by decide +kernel, by decide +kernel⟩, List.mem_of_getElem? (i := 210) (by decide +kernel), List.mem_of_getElem? (i := 486) (by decide +kernel), List.mem_of_getElem? (i := 487) (by decide +kernel)⟩
theorem lw_p7 : lw_okq (⟨"AheadOfPerson$Reader", "takesOpening", "()V"⟩, 7) := ⟨⟨by decide +kernel, by decide +kernel⟩, List.mem_of_getElem? (i := 210) (by decide +kernel), List.mem_of_getElem? (i := 490) (by decide +kernel), List.mem_of_getElem? (i := 491) (by decide +kernel)⟩
theorem lw_p8 : lw_okq (⟨"AheadOfPerson$Reader", "push", "(I)V"⟩, 7) := ⟨⟨by decide +kernel, by decide +kernel⟩, List.mem_of_getElem? (i := 210) (by decide +kernel), List.mem_of_getElem? (i := 494) (by decide +kernel), List.mem_of_getElem? (i := 495) (by decide +kernel)⟩
theorem lw_p9 : lw_okq (⟨"AheadOfPerson$Reader", "readsTest", "()Z"⟩, 7) := ⟨⟨by decide +kernel, by decide +kernel⟩, List.mem_of_getElem? (i := 210) (by decide +kernel), List.mem_of_getElem? (i := 498) (by decide +kernel), List.mem_of_getElem? (i := 499) (by decide +kernel)⟩
theorem lw_p10 : lw_okq (⟨"AheadOfPerson$Reader", "takesClosing", "()V"⟩, 7) := ⟨⟨by decide +kernel, by decide +kernel⟩, List.mem_of_getElem? (i := 210) (by decide +kernel), List.mem_of_getElem? (i := 513) (by decide +kernel), List.mem_of_getElem? (i := 514) (by decide +kernel)⟩
theorem lw_p11 : lw_okq (⟨"AheadOfPerson$Reader", "settle", "(I)V"⟩, 7) := ⟨⟨by decide +kernel, by decide +kernel⟩, List.mem_of_getElem? (i := 210) (by decide +kernel), List.mem_of_getElem? (i := 517) (by decide +kernel), List.mem_of_getElem? (i := 518) (by decide +kernel)⟩
theorem lw_p12 : lw_okq (⟨"AheadOfPerson$Course", "phase", "()I"⟩, 6) := ⟨⟨by decide +kernel, by decide +kernel⟩, List.mem_of_getElem? (i := 244) (by decide +kernel), List.mem_of_getElem? (i := 588) (by decide +kernel), List.mem_of_getElem? (i := 589) (by decide +kernel)⟩
theorem lw_p13 : lw_okq (⟨"AheadOfPerson$Town", "whereHolds", "(ILAheadOfPerson$Folk;II)I"⟩, 11) := ⟨⟨by decide +kernel, by decide +kernel⟩, List.mem_of_getElem? (i := 62) (by decide +kernel), List.mem_of_getElem? (i := 602) (by decide +kernel), List.mem_of_getElem? (i := 603) (by decide +kernel)⟩
theorem lw_p14 : lw_okq (⟨"AheadOfPerson$Town", "whereTest", "(ILAheadOfPerson$Folk;II)I"⟩, 11) := ⟨⟨by decide +kernel, by decide +kernel⟩, List.mem_of_getElem? (i := 62) (by decide +kernel), List.mem_of_getElem? (i := 606) (by decide +kernel), List.mem_of_getElem? (i := 607) (by decide +kernel)⟩
theorem lw_p15 : lw_okq (⟨"AheadOfPerson$Acts", "run", "(IIII)I"⟩, 5) := ⟨⟨by decide +kernel, by decide +kernel⟩, List.mem_of_getElem? (i := 277) (by decide +kernel), List.mem_of_getElem? (i := 790) (by decide +kernel), List.mem_of_getElem? (i := 791) (by decide +kernel)⟩
def lw_privs_1 : List (MethodName × Nat) := [(⟨"AheadOfPerson$Reader", "readsClause", "()Z"⟩, 7), (⟨"AheadOfPerson$Reader", "next", "()I"⟩, 7), (⟨"AheadOfPerson$Reader", "takesAll", "(Ljava/lang/String;)Z"⟩, 7), (⟨"AheadOfPerson$Reader", "takes", "(C)Z"⟩, 7), (⟨"AheadOfPerson$Reader", "takesNumber", "()I"⟩, 7), (⟨"AheadOfPerson$Reader", "takesOneOf", "(Ljava/lang/String;)I"⟩, 7), (⟨"AheadOfPerson$Reader", "readsExpression", "()Z"⟩, 7), (⟨"AheadOfPerson$Reader", "takesOpening", "()V"⟩, 7), (⟨"AheadOfPerson$Reader", "push", "(I)V"⟩, 7), (⟨"AheadOfPerson$Reader", "readsTest", "()Z"⟩, 7), (⟨"AheadOfPerson$Reader", "takesClosing", "()V"⟩, 7), (⟨"AheadOfPerson$Reader", "settle", "(I)V"⟩, 7), (⟨"AheadOfPerson$Course", "phase", "()I"⟩, 6), (⟨"AheadOfPerson$Town", "whereHolds", "(ILAheadOfPerson$Folk;II)I"⟩, 11), (⟨"AheadOfPerson$Town", "whereTest", "(ILAheadOfPerson$Folk;II)I"⟩, 11), (⟨"AheadOfPerson$Acts", "run", "(IIII)I"⟩, 5)]
theorem lw_r1 : ∀ q ∈ lw_privs_1, lw_okq q := List.forall_mem_cons.mpr ⟨lw_p0, List.forall_mem_cons.mpr ⟨lw_p1, List.forall_mem_cons.mpr ⟨lw_p2, List.forall_mem_cons.mpr ⟨lw_p3, List.forall_mem_cons.mpr ⟨lw_p4, List.forall_mem_cons.mpr ⟨lw_p5, List.forall_mem_cons.mpr ⟨lw_p6, List.forall_mem_cons.mpr ⟨lw_p7, List.forall_mem_cons.mpr ⟨lw_p8, List.forall_mem_cons.mpr ⟨lw_p9, List.forall_mem_cons.mpr ⟨lw_p10, List.forall_mem_cons.mpr ⟨lw_p11, List.forall_mem_cons.mpr ⟨lw_p12, List.forall_mem_cons.mpr ⟨lw_p13, List.forall_mem_cons.mpr ⟨lw_p14, List.forall_mem_cons.mpr ⟨lw_p15, fun _ h => absurd h List.not_mem_nil⟩⟩⟩⟩⟩⟩⟩⟩⟩⟩⟩⟩⟩⟩⟩⟩
theorem lw_p16 : lw_okq (⟨"AheadOfPerson$Acts", "note", "(I)V"⟩, 5) := ⟨⟨by decide +kernel, by decide +kernel⟩, List.mem_of_getElem? (i := 277) (by decide +kernel), List.mem_of_getElem? (i := 798) (by decide +kernel), List.mem_of_getElem? (i := 799) (by decide +kernel)⟩
theorem lw_p17 : lw_okq (⟨"AheadOfPersonModel", "clauseHere", "()V"⟩, 17) := ⟨⟨by decide +kernel, by decide +kernel⟩, List.mem_of_getElem? (i := 836) (by decide +kernel), List.mem_of_getElem? (i := 905) (by decide +kernel), List.mem_of_getElem? (i := 906) (by decide +kernel)⟩
theorem lw_p18 : lw_okq (⟨"AheadOfPersonModel", "here", "()I"⟩, 17) := ⟨⟨by decide +kernel, by decide +kernel⟩, List.mem_of_getElem? (i := 836) (by decide +kernel), List.mem_of_getElem? (i := 909) (by decide +kernel), List.mem_of_getElem? (i := 910) (by decide +kernel)⟩
theorem lw_p19 : lw_okq (⟨"AheadOfPersonModel", "tellsHere", "(ILjava/lang/String;)V"⟩, 17) := ⟨⟨by decide +kernel, by decide +kernel⟩, List.mem_of_getElem? (i := 836) (by decide +kernel), List.mem_of_getElem? (i := 914) (by decide +kernel), List.mem_of_getElem? (i := 915) (by decide +kernel)⟩
theorem lw_p20 : lw_okq (⟨"AheadOfPersonModel", "spells", "(Ljava/lang/String;)V"⟩, 17) := ⟨⟨by decide +kernel, by decide +kernel⟩, List.mem_of_getElem? (i := 836) (by decide +kernel), List.mem_of_getElem? (i := 918) (by decide +kernel), List.mem_of_getElem? (i := 919) (by decide +kernel)⟩
theorem lw_p21 : lw_okq (⟨"AheadOfPersonModel", "must", "(I)V"⟩, 17) := ⟨⟨by decide +kernel, by decide +kernel⟩, List.mem_of_getElem? (i := 836) (by decide +kernel), List.mem_of_getElem? (i := 924) (by decide +kernel), List.mem_of_getElem? (i := 925) (by decide +kernel)⟩
theorem lw_p22 : lw_okq (⟨"AheadOfPersonModel", "figures", "()I"⟩, 17) := ⟨⟨by decide +kernel, by decide +kernel⟩, List.mem_of_getElem? (i := 836) (by decide +kernel), List.mem_of_getElem? (i := 928) (by decide +kernel), List.mem_of_getElem? (i := 929) (by decide +kernel)⟩
theorem lw_p23 : lw_okq (⟨"AheadOfPersonModel", "much", "(ILjava/lang/String;)V"⟩, 17) := ⟨⟨by decide +kernel, by decide +kernel⟩, List.mem_of_getElem? (i := 836) (by decide +kernel), List.mem_of_getElem? (i := 933) (by decide +kernel), List.mem_of_getElem? (i := 934) (by decide +kernel)⟩
theorem lw_p24 : lw_okq (⟨"AheadOfPersonModel", "some", "()V"⟩, 17) := ⟨⟨by decide +kernel, by decide +kernel⟩, List.mem_of_getElem? (i := 836) (by decide +kernel), List.mem_of_getElem? (i := 937) (by decide +kernel), List.mem_of_getElem? (i := 938) (by decide +kernel)⟩
theorem lw_p25 : lw_okq (⟨"AheadOfPersonModel", "every", "()V"⟩, 17) := ⟨⟨by decide +kernel, by decide +kernel⟩, List.mem_of_getElem? (i := 836) (by decide +kernel), List.mem_of_getElem? (i := 941) (by decide +kernel), List.mem_of_getElem? (i := 942) (by decide +kernel)⟩
theorem lw_p26 : lw_okq (⟨"AheadOfPersonModel", "factor", "()V"⟩, 17) := ⟨⟨by decide +kernel, by decide +kernel⟩, List.mem_of_getElem? (i := 836) (by decide +kernel), List.mem_of_getElem? (i := 945) (by decide +kernel), List.mem_of_getElem? (i := 946) (by decide +kernel)⟩
theorem lw_p27 : lw_okq (⟨"AheadOfPersonModel", "emits", "(I)V"⟩, 17) := ⟨⟨by decide +kernel, by decide +kernel⟩, List.mem_of_getElem? (i := 836) (by decide +kernel), List.mem_of_getElem? (i := 949) (by decide +kernel), List.mem_of_getElem? (i := 950) (by decide +kernel)⟩
theorem lw_p28 : lw_okq (⟨"AheadOfPersonModel", "among", "(Ljava/lang/String;)I"⟩, 17) := ⟨⟨by decide +kernel, by decide +kernel⟩, List.mem_of_getElem? (i := 836) (by decide +kernel), List.mem_of_getElem? (i := 954) (by decide +kernel), List.mem_of_getElem? (i := 955) (by decide +kernel)⟩
theorem lw_p29 : lw_okq (⟨"AheadOfPersonModel", "isPerson", "(I)Z"⟩, 17) := ⟨⟨by decide +kernel, by decide +kernel⟩, List.mem_of_getElem? (i := 836) (by decide +kernel), List.mem_of_getElem? (i := 971) (by decide +kernel), List.mem_of_getElem? (i := 972) (by decide +kernel)⟩
theorem lw_p30 : lw_okq (⟨"AheadOfPersonModel", "lureOf", "(II)I"⟩, 17) := ⟨⟨by decide +kernel, by decide +kernel⟩, List.mem_of_getElem? (i := 836) (by decide +kernel), List.mem_of_getElem? (i := 976) (by decide +kernel), List.mem_of_getElem? (i := 977) (by decide +kernel)⟩
theorem lw_p31 : lw_okq (⟨"AheadOfPersonModel", "tellsOf", "(II)I"⟩, 17) := ⟨⟨by decide +kernel, by decide +kernel⟩, List.mem_of_getElem? (i := 836) (by decide +kernel), List.mem_of_getElem? (i := 986) (by decide +kernel), List.mem_of_getElem? (i := 987) (by decide +kernel)⟩
def lw_privs_2 : List (MethodName × Nat) := [(⟨"AheadOfPerson$Acts", "note", "(I)V"⟩, 5), (⟨"AheadOfPersonModel", "clauseHere", "()V"⟩, 17), (⟨"AheadOfPersonModel", "here", "()I"⟩, 17), (⟨"AheadOfPersonModel", "tellsHere", "(ILjava/lang/String;)V"⟩, 17), (⟨"AheadOfPersonModel", "spells", "(Ljava/lang/String;)V"⟩, 17), (⟨"AheadOfPersonModel", "must", "(I)V"⟩, 17), (⟨"AheadOfPersonModel", "figures", "()I"⟩, 17), (⟨"AheadOfPersonModel", "much", "(ILjava/lang/String;)V"⟩, 17), (⟨"AheadOfPersonModel", "some", "()V"⟩, 17), (⟨"AheadOfPersonModel", "every", "()V"⟩, 17), (⟨"AheadOfPersonModel", "factor", "()V"⟩, 17), (⟨"AheadOfPersonModel", "emits", "(I)V"⟩, 17), (⟨"AheadOfPersonModel", "among", "(Ljava/lang/String;)I"⟩, 17), (⟨"AheadOfPersonModel", "isPerson", "(I)Z"⟩, 17), (⟨"AheadOfPersonModel", "lureOf", "(II)I"⟩, 17), (⟨"AheadOfPersonModel", "tellsOf", "(II)I"⟩, 17)]
theorem lw_r2 : ∀ q ∈ lw_privs_2, lw_okq q := List.forall_mem_cons.mpr ⟨lw_p16, List.forall_mem_cons.mpr ⟨lw_p17, List.forall_mem_cons.mpr ⟨lw_p18, List.forall_mem_cons.mpr ⟨lw_p19, List.forall_mem_cons.mpr ⟨lw_p20, List.forall_mem_cons.mpr ⟨lw_p21, List.forall_mem_cons.mpr ⟨lw_p22, List.forall_mem_cons.mpr ⟨lw_p23, List.forall_mem_cons.mpr ⟨lw_p24, List.forall_mem_cons.mpr ⟨lw_p25, List.forall_mem_cons.mpr ⟨lw_p26, List.forall_mem_cons.mpr ⟨lw_p27, List.forall_mem_cons.mpr ⟨lw_p28, List.forall_mem_cons.mpr ⟨lw_p29, List.forall_mem_cons.mpr ⟨lw_p30, List.forall_mem_cons.mpr ⟨lw_p31, fun _ h => absurd h List.not_mem_nil⟩⟩⟩⟩⟩⟩⟩⟩⟩⟩⟩⟩⟩⟩⟩⟩
theorem lw_p32 : lw_okq (⟨"AheadOfPersonModel", "tugOf", "(II)I"⟩, 17) := ⟨⟨by decide +kernel, by decide +kernel⟩, List.mem_of_getElem? (i := 836) (by decide +kernel), List.mem_of_getElem? (i := 990) (by decide +kernel), List.mem_of_getElem? (i := 991) (by decide +kernel)⟩
theorem lw_p33 : lw_okq (⟨"AheadOfPersonModel", "becomes", "(II)I"⟩, 17) := ⟨⟨by decide +kernel, by decide +kernel⟩, List.mem_of_getElem? (i := 836) (by decide +kernel), List.mem_of_getElem? (i := 1002) (by decide +kernel), List.mem_of_getElem? (i := 1003) (by decide +kernel)⟩
theorem lw_p34 : lw_okq (⟨"AheadOfPersonModel", "manyLain", "()I"⟩, 17) := ⟨⟨by decide +kernel, by decide +kernel⟩, List.mem_of_getElem? (i := 836) (by decide +kernel), List.mem_of_getElem? (i := 1018) (by decide +kernel), List.mem_of_getElem? (i := 1019) (by decide +kernel)⟩
theorem lw_p35 : lw_okq (⟨"AheadOfPersonModel", "drawOf", "(I)I"⟩, 17) := ⟨⟨by decide +kernel, by decide +kernel⟩, List.mem_of_getElem? (i := 836) (by decide +kernel), List.mem_of_getElem? (i := 1022) (by decide +kernel), List.mem_of_getElem? (i := 1023) (by decide +kernel)⟩
theorem lw_p36 : lw_okq (⟨"AheadOfPersonModel", "goes", "()V"⟩, 17) := ⟨⟨by decide +kernel, by decide +kernel⟩, List.mem_of_getElem? (i := 836) (by decide +kernel), List.mem_of_getElem? (i := 1030) (by decide +kernel), List.mem_of_getElem? (i := 1031) (by decide +kernel)⟩
theorem lw_p37 : lw_okq (⟨"AheadOfPersonModel", "keeps", "()V"⟩, 17) := ⟨⟨by decide +kernel, by decide +kernel⟩, List.mem_of_getElem? (i := 836) (by decide +kernel), List.mem_of_getElem? (i := 1038) (by decide +kernel), List.mem_of_getElem? (i := 1039) (by decide +kernel)⟩
theorem lw_p38 : lw_okq (⟨"AheadOfPersonModel", "goesOn", "(I)V"⟩, 17) := ⟨⟨by decide +kernel, by decide +kernel⟩, List.mem_of_getElem? (i := 836) (by decide +kernel), List.mem_of_getElem? (i := 1042) (by decide +kernel), List.mem_of_getElem? (i := 1043) (by decide +kernel)⟩
theorem lw_p39 : lw_okq (⟨"AheadOfPersonModel", "goesBack", "()V"⟩, 17) := ⟨⟨by decide +kernel, by decide +kernel⟩, List.mem_of_getElem? (i := 836) (by decide +kernel), List.mem_of_getElem? (i := 1046) (by decide +kernel), List.mem_of_getElem? (i := 1047) (by decide +kernel)⟩
theorem lw_p40 : lw_okq (⟨"AheadOfPersonModel", "stepsTo", "(II)I"⟩, 17) := ⟨⟨by decide +kernel, by decide +kernel⟩, List.mem_of_getElem? (i := 836) (by decide +kernel), List.mem_of_getElem? (i := 1054) (by decide +kernel), List.mem_of_getElem? (i := 1055) (by decide +kernel)⟩
theorem lw_p41 : lw_okq (⟨"AheadOfPersonModel", "isKept", "(II)Z"⟩, 17) := ⟨⟨by decide +kernel, by decide +kernel⟩, List.mem_of_getElem? (i := 836) (by decide +kernel), List.mem_of_getElem? (i := 1074) (by decide +kernel), List.mem_of_getElem? (i := 1075) (by decide +kernel)⟩
theorem lw_p42 : lw_okq (⟨"AheadOfPersonModel", "areAsSeen", "()Z"⟩, 17) := ⟨⟨by decide +kernel, by decide +kernel⟩, List.mem_of_getElem? (i := 836) (by decide +kernel), List.mem_of_getElem? (i := 1094) (by decide +kernel), List.mem_of_getElem? (i := 1095) (by decide +kernel)⟩
theorem lw_p43 : lw_okq (⟨"AheadOfPersonModel", "isAsSeen", "(I)Z"⟩, 17) := ⟨⟨by decide +kernel, by decide +kernel⟩, List.mem_of_getElem? (i := 836) (by decide +kernel), List.mem_of_getElem? (i := 1098) (by decide +kernel), List.mem_of_getElem? (i := 1099) (by decide +kernel)⟩
theorem lw_p44 : lw_okq (⟨"AheadOfPersonModel", "goesBy", "(II)V"⟩, 17) := ⟨⟨by decide +kernel, by decide +kernel⟩, List.mem_of_getElem? (i := 836) (by decide +kernel), List.mem_of_getElem? (i := 1130) (by decide +kernel), List.mem_of_getElem? (i := 1131) (by decide +kernel)⟩
theorem lw_p45 : lw_okq (⟨"AheadOfPersonModel", "standsActs", "(I)I"⟩, 17) := ⟨⟨by decide +kernel, by decide +kernel⟩, List.mem_of_getElem? (i := 836) (by decide +kernel), List.mem_of_getElem? (i := 1146) (by decide +kernel), List.mem_of_getElem? (i := 1147) (by decide +kernel)⟩
theorem lw_p46 : lw_okq (⟨"AheadOfPersonModel", "ranBody", "(I)V"⟩, 17) := ⟨⟨by decide +kernel, by decide +kernel⟩, List.mem_of_getElem? (i := 836) (by decide +kernel), List.mem_of_getElem? (i := 1153) (by decide +kernel), List.mem_of_getElem? (i := 1154) (by decide +kernel)⟩
theorem lw_p47 : lw_okq (⟨"AheadOfPersonModel", "plainStands", "(I)I"⟩, 17) := ⟨⟨by decide +kernel, by decide +kernel⟩, List.mem_of_getElem? (i := 836) (by decide +kernel), List.mem_of_getElem? (i := 1157) (by decide +kernel), List.mem_of_getElem? (i := 1158) (by decide +kernel)⟩
def lw_privs_3 : List (MethodName × Nat) := [(⟨"AheadOfPersonModel", "tugOf", "(II)I"⟩, 17), (⟨"AheadOfPersonModel", "becomes", "(II)I"⟩, 17), (⟨"AheadOfPersonModel", "manyLain", "()I"⟩, 17), (⟨"AheadOfPersonModel", "drawOf", "(I)I"⟩, 17), (⟨"AheadOfPersonModel", "goes", "()V"⟩, 17), (⟨"AheadOfPersonModel", "keeps", "()V"⟩, 17), (⟨"AheadOfPersonModel", "goesOn", "(I)V"⟩, 17), (⟨"AheadOfPersonModel", "goesBack", "()V"⟩, 17), (⟨"AheadOfPersonModel", "stepsTo", "(II)I"⟩, 17), (⟨"AheadOfPersonModel", "isKept", "(II)Z"⟩, 17), (⟨"AheadOfPersonModel", "areAsSeen", "()Z"⟩, 17), (⟨"AheadOfPersonModel", "isAsSeen", "(I)Z"⟩, 17), (⟨"AheadOfPersonModel", "goesBy", "(II)V"⟩, 17), (⟨"AheadOfPersonModel", "standsActs", "(I)I"⟩, 17), (⟨"AheadOfPersonModel", "ranBody", "(I)V"⟩, 17), (⟨"AheadOfPersonModel", "plainStands", "(I)I"⟩, 17)]
theorem lw_r3 : ∀ q ∈ lw_privs_3, lw_okq q := List.forall_mem_cons.mpr ⟨lw_p32, List.forall_mem_cons.mpr ⟨lw_p33, List.forall_mem_cons.mpr ⟨lw_p34, List.forall_mem_cons.mpr ⟨lw_p35, List.forall_mem_cons.mpr ⟨lw_p36, List.forall_mem_cons.mpr ⟨lw_p37, List.forall_mem_cons.mpr ⟨lw_p38, List.forall_mem_cons.mpr ⟨lw_p39, List.forall_mem_cons.mpr ⟨lw_p40, List.forall_mem_cons.mpr ⟨lw_p41, List.forall_mem_cons.mpr ⟨lw_p42, List.forall_mem_cons.mpr ⟨lw_p43, List.forall_mem_cons.mpr ⟨lw_p44, List.forall_mem_cons.mpr ⟨lw_p45, List.forall_mem_cons.mpr ⟨lw_p46, List.forall_mem_cons.mpr ⟨lw_p47, fun _ h => absurd h List.not_mem_nil⟩⟩⟩⟩⟩⟩⟩⟩⟩⟩⟩⟩⟩⟩⟩⟩
theorem lw_p48 : lw_okq (⟨"AheadOfPersonModel", "looksActs", "(I)I"⟩, 17) := ⟨⟨by decide +kernel, by decide +kernel⟩, List.mem_of_getElem? (i := 836) (by decide +kernel), List.mem_of_getElem? (i := 1161) (by decide +kernel), List.mem_of_getElem? (i := 1162) (by decide +kernel)⟩
theorem lw_p49 : lw_okq (⟨"AheadOfPersonModel", "plainLooks", "(I)I"⟩, 17) := ⟨⟨by decide +kernel, by decide +kernel⟩, List.mem_of_getElem? (i := 836) (by decide +kernel), List.mem_of_getElem? (i := 1165) (by decide +kernel), List.mem_of_getElem? (i := 1166) (by decide +kernel)⟩
theorem lw_p50 : lw_okq (⟨"AheadOfPersonModel", "tellsActs", "(I)I"⟩, 17) := ⟨⟨by decide +kernel, by decide +kernel⟩, List.mem_of_getElem? (i := 836) (by decide +kernel), List.mem_of_getElem? (i := 1169) (by decide +kernel), List.mem_of_getElem? (i := 1170) (by decide +kernel)⟩
theorem lw_p51 : lw_okq (⟨"AheadOfPersonModel", "plainTelling", "(I)I"⟩, 17) := ⟨⟨by decide +kernel, by decide +kernel⟩, List.mem_of_getElem? (i := 836) (by decide +kernel), List.mem_of_getElem? (i := 1173) (by decide +kernel), List.mem_of_getElem? (i := 1174) (by decide +kernel)⟩
def lw_privs_4 : List (MethodName × Nat) := [(⟨"AheadOfPersonModel", "looksActs", "(I)I"⟩, 17), (⟨"AheadOfPersonModel", "plainLooks", "(I)I"⟩, 17), (⟨"AheadOfPersonModel", "tellsActs", "(I)I"⟩, 17), (⟨"AheadOfPersonModel", "plainTelling", "(I)I"⟩, 17)]
theorem lw_r4 : ∀ q ∈ lw_privs_4, lw_okq q := List.forall_mem_cons.mpr ⟨lw_p48, List.forall_mem_cons.mpr ⟨lw_p49, List.forall_mem_cons.mpr ⟨lw_p50, List.forall_mem_cons.mpr ⟨lw_p51, fun _ h => absurd h List.not_mem_nil⟩⟩⟩⟩
def lw_privs : List (MethodName × Nat) := lw_privs_1 ++ (lw_privs_2 ++ (lw_privs_3 ++ (lw_privs_4)))
def lw_tbl : List Cond := k2_sels lw_privs ++ tables_1
theorem lw_privs_ok : ∀ q ∈ lw_privs, lw_okq q := by
  show ∀ q ∈ lw_privs_1 ++ (lw_privs_2 ++ (lw_privs_3 ++ (lw_privs_4))), lw_okq q
  exact List.forall_mem_append.mpr ⟨lw_r1, List.forall_mem_append.mpr ⟨lw_r2, List.forall_mem_append.mpr ⟨lw_r3, lw_r4⟩⟩⟩

def RX0 : String := "AheadOfPerson$Acts"
def RX1 : String := "AheadOfPerson$Carpet"
def RX2 : String := "AheadOfPerson$Course"
def RX3 : String := "AheadOfPerson$Folk"
def RX4 : String := "AheadOfPerson$Reader"
def RX5 : String := "AheadOfPerson$Rows"
def RX6 : String := "AheadOfPerson$Scene"
def RX7 : String := "AheadOfPerson$Town"
def RX8 : String := "AheadOfPerson"
def RX9 : String := "AheadOfPersonModel"
def RJ0 : String := "java/lang/String"
def RJ1 : String := "java/lang/StringLatin1"
def RJ10 : String := "java/lang/System"
def RJ11 : String := "java/lang/Character"
def RJ2 : String := "java/lang/StringUTF16"
def RJ3 : String := "jdk/internal/util/Preconditions"
def RJ6 : String := "java/lang/Integer"
def RJ9 : String := "java/lang/Math"
def TX0 : u_T := fun k => match k with
  | 0 => ("AheadOfPerson$Acts", "bodies", "[I", true)
  | 1 => ("AheadOfPerson$Acts", "ran", "I", false)
  | 2 => ("AheadOfPerson$Acts", "kind", "I", false)
  | 3 => ("AheadOfPerson$Acts", "v", "I", false)
  | _ => ("AheadOfPerson$Acts", "number", "I", false)
def tyX0 : Nat → FieldType := fun k => match k with
  | 0 => .array .int
  | 1 => .int
  | 2 => .int
  | 3 => .int
  | _ => .int
theorem nmX0 : ∀ a, a < 5 → ∀ b, b < 5 → a ≠ b → (TX0 a).2.1 ≠ (TX0 b).2.1 := by decide +kernel
theorem tyX0_ok : ∀ k, k < 5 → parseFieldDescriptor (TX0 k).2.2.1 = some (tyX0 k) := by decide +kernel
def TX1 : u_T := fun k => match k with
  | 0 => ("AheadOfPerson$Carpet", "lain", "[I", true)
  | 1 => ("AheadOfPerson$Carpet", "cell", "I", false)
  | _ => ("AheadOfPerson$Carpet", "step", "I", false)
def tyX1 : Nat → FieldType := fun k => match k with
  | 0 => .array .int
  | 1 => .int
  | _ => .int
theorem nmX1 : ∀ a, a < 3 → ∀ b, b < 3 → a ≠ b → (TX1 a).2.1 ≠ (TX1 b).2.1 := by decide +kernel
theorem tyX1_ok : ∀ k, k < 3 → parseFieldDescriptor (TX1 k).2.2.1 = some (tyX1 k) := by decide +kernel
def TX2 : u_T := fun k => match k with
  | 0 => ("AheadOfPerson$Course", "folk", "LAheadOfPerson$Folk;", true)
  | 1 => ("AheadOfPerson$Course", "carpet", "LAheadOfPerson$Carpet;", true)
  | 2 => ("AheadOfPerson$Course", "start", "LAheadOfPerson$Carpet;", true)
  | 3 => ("AheadOfPerson$Course", "town", "LAheadOfPerson$Town;", true)
  | 4 => ("AheadOfPerson$Course", "tugs", "[I", true)
  | _ => ("AheadOfPerson$Course", "reckoned", "[I", true)
def tyX2 : Nat → FieldType := fun k => match k with
  | 0 => .object "AheadOfPerson$Folk"
  | 1 => .object "AheadOfPerson$Carpet"
  | 2 => .object "AheadOfPerson$Carpet"
  | 3 => .object "AheadOfPerson$Town"
  | 4 => .array .int
  | _ => .array .int
theorem nmX2 : ∀ a, a < 6 → ∀ b, b < 6 → a ≠ b → (TX2 a).2.1 ≠ (TX2 b).2.1 := by decide +kernel
theorem tyX2_ok : ∀ k, k < 6 → parseFieldDescriptor (TX2 k).2.2.1 = some (tyX2 k) := by decide +kernel
def TX3 : u_T := fun k => match k with
  | 0 => ("AheadOfPerson$Folk", "kind", "[I", true)
  | 1 => ("AheadOfPerson$Folk", "v", "[I", true)
  | 2 => ("AheadOfPerson$Folk", "cell", "[I", true)
  | 3 => ("AheadOfPerson$Folk", "line", "[I", true)
  | 4 => ("AheadOfPerson$Folk", "away", "I", false)
  | _ => ("AheadOfPerson$Folk", "size", "I", false)
def tyX3 : Nat → FieldType := fun k => match k with
  | 0 => .array .int
  | 1 => .array .int
  | 2 => .array .int
  | 3 => .array .int
  | 4 => .int
  | _ => .int
theorem nmX3 : ∀ a, a < 6 → ∀ b, b < 6 → a ≠ b → (TX3 a).2.1 ≠ (TX3 b).2.1 := by decide +kernel
theorem tyX3_ok : ∀ k, k < 6 → parseFieldDescriptor (TX3 k).2.2.1 = some (tyX3 k) := by decide +kernel
def TX4 : u_T := fun k => match k with
  | 0 => ("AheadOfPerson$Reader", "draft", "LAheadOfPerson$Town;", true)
  | 1 => ("AheadOfPerson$Reader", "at", "I", false)
  | 2 => ("AheadOfPerson$Reader", "tape", "LAheadOfPerson$Rows;", true)
  | 3 => ("AheadOfPerson$Reader", "pending", "[I", true)
  | 4 => ("AheadOfPerson$Reader", "top", "I", false)
  | 5 => ("AheadOfPerson$Reader", "open", "I", false)
  | _ => ("AheadOfPerson$Reader", "brackets", "I", false)
def tyX4 : Nat → FieldType := fun k => match k with
  | 0 => .object "AheadOfPerson$Town"
  | 1 => .int
  | 2 => .object "AheadOfPerson$Rows"
  | 3 => .array .int
  | 4 => .int
  | 5 => .int
  | _ => .int
theorem nmX4 : ∀ a, a < 7 → ∀ b, b < 7 → a ≠ b → (TX4 a).2.1 ≠ (TX4 b).2.1 := by decide +kernel
theorem tyX4_ok : ∀ k, k < 7 → parseFieldDescriptor (TX4 k).2.2.1 = some (tyX4 k) := by decide +kernel
def TX5 : u_T := fun k => match k with
  | 0 => ("AheadOfPerson$Rows", "first", "[I", true)
  | 1 => ("AheadOfPerson$Rows", "second", "[I", true)
  | _ => ("AheadOfPerson$Rows", "size", "I", false)
def tyX5 : Nat → FieldType := fun k => match k with
  | 0 => .array .int
  | 1 => .array .int
  | _ => .int
theorem nmX5 : ∀ a, a < 3 → ∀ b, b < 3 → a ≠ b → (TX5 a).2.1 ≠ (TX5 b).2.1 := by decide +kernel
theorem tyX5_ok : ∀ k, k < 3 → parseFieldDescriptor (TX5 k).2.2.1 = some (tyX5 k) := by decide +kernel
def TX6 : u_T := fun k => match k with
  | 0 => ("AheadOfPerson$Scene", "tape", "LAheadOfPerson$Rows;", true)
  | 1 => ("AheadOfPerson$Scene", "town", "LAheadOfPerson$Town;", true)
  | 2 => ("AheadOfPerson$Scene", "towns", "I", false)
  | 3 => ("AheadOfPerson$Scene", "folk", "LAheadOfPerson$Folk;", true)
  | 4 => ("AheadOfPerson$Scene", "carpet", "LAheadOfPerson$Carpet;", true)
  | 5 => ("AheadOfPerson$Scene", "walk", "LAheadOfPerson$Rows;", true)
  | 6 => ("AheadOfPerson$Scene", "seen", "LAheadOfPerson$Rows;", true)
  | 7 => ("AheadOfPerson$Scene", "plan", "LAheadOfPerson$Rows;", true)
  | _ => ("AheadOfPerson$Scene", "book", "LAheadOfPerson$Rows;", true)
def tyX6 : Nat → FieldType := fun k => match k with
  | 0 => .object "AheadOfPerson$Rows"
  | 1 => .object "AheadOfPerson$Town"
  | 2 => .int
  | 3 => .object "AheadOfPerson$Folk"
  | 4 => .object "AheadOfPerson$Carpet"
  | 5 => .object "AheadOfPerson$Rows"
  | 6 => .object "AheadOfPerson$Rows"
  | 7 => .object "AheadOfPerson$Rows"
  | _ => .object "AheadOfPerson$Rows"
theorem nmX6 : ∀ a, a < 9 → ∀ b, b < 9 → a ≠ b → (TX6 a).2.1 ≠ (TX6 b).2.1 := by decide +kernel
theorem tyX6_ok : ∀ k, k < 9 → parseFieldDescriptor (TX6 k).2.2.1 = some (tyX6 k) := by decide +kernel
def TX7 : u_T := fun k => match k with
  | 0 => ("AheadOfPerson$Town", "word", "[I", true)
  | 1 => ("AheadOfPerson$Town", "n", "[I", true)
  | 2 => ("AheadOfPerson$Town", "from", "[I", true)
  | 3 => ("AheadOfPerson$Town", "code", "[I", true)
  | 4 => ("AheadOfPerson$Town", "clauses", "I", false)
  | 5 => ("AheadOfPerson$Town", "size", "I", false)
  | 6 => ("AheadOfPerson$Town", "bored", "I", false)
  | 7 => ("AheadOfPerson$Town", "asksStep", "Z", false)
  | 8 => ("AheadOfPerson$Town", "waiting", "[I", true)
  | 9 => ("AheadOfPerson$Town", "lure", "[I", true)
  | _ => ("AheadOfPerson$Town", "fars", "[I", true)
def tyX7 : Nat → FieldType := fun k => match k with
  | 0 => .array .int
  | 1 => .array .int
  | 2 => .array .int
  | 3 => .array .int
  | 4 => .int
  | 5 => .int
  | 6 => .int
  | 7 => .boolean
  | 8 => .array .int
  | 9 => .array .int
  | _ => .array .int
theorem nmX7 : ∀ a, a < 11 → ∀ b, b < 11 → a ≠ b → (TX7 a).2.1 ≠ (TX7 b).2.1 := by decide +kernel
theorem tyX7_ok : ∀ k, k < 11 → parseFieldDescriptor (TX7 k).2.2.1 = some (tyX7 k) := by decide +kernel
def TX8 : u_T := fun k => match k with
  | 0 => ("AheadOfPerson", "now", "LAheadOfPerson$Scene;", true)
  | 1 => ("AheadOfPerson", "taken", "LAheadOfPerson$Scene;", true)
  | 2 => ("AheadOfPerson", "isTaken", "Z", false)
  | 3 => ("AheadOfPerson", "reader", "LAheadOfPerson$Reader;", true)
  | 4 => ("AheadOfPerson", "course", "LAheadOfPerson$Course;", true)
  | _ => ("AheadOfPerson", "acts", "LAheadOfPerson$Acts;", true)
def tyX8 : Nat → FieldType := fun k => match k with
  | 0 => .object "AheadOfPerson$Scene"
  | 1 => .object "AheadOfPerson$Scene"
  | 2 => .boolean
  | 3 => .object "AheadOfPerson$Reader"
  | 4 => .object "AheadOfPerson$Course"
  | _ => .object "AheadOfPerson$Acts"
theorem nmX8 : ∀ a, a < 6 → ∀ b, b < 6 → a ≠ b → (TX8 a).2.1 ≠ (TX8 b).2.1 := by decide +kernel
theorem tyX8_ok : ∀ k, k < 6 → parseFieldDescriptor (TX8 k).2.2.1 = some (tyX8 k) := by decide +kernel
def TX9 : u_T := fun k => match k with
  | 0 => ("AheadOfPersonModel", "thrown", "I", false)
  | 1 => ("AheadOfPersonModel", "s", "[I", true)
  | 2 => ("AheadOfPersonModel", "image", "[I", true)
  | 3 => ("AheadOfPersonModel", "frame", "[I", true)
  | 4 => ("AheadOfPersonModel", "hasImage", "Z", false)
  | 5 => ("AheadOfPersonModel", "act", "I", false)
  | 6 => ("AheadOfPersonModel", "spot", "I", false)
  | 7 => ("AheadOfPersonModel", "end", "I", false)
  | 8 => ("AheadOfPersonModel", "isWrong", "Z", false)
  | 9 => ("AheadOfPersonModel", "open", "I", false)
  | 10 => ("AheadOfPersonModel", "by", "[I", true)
  | 11 => ("AheadOfPersonModel", "truths", "[Z", true)
  | 12 => ("AheadOfPersonModel", "bodies", "[I", true)
  | 13 => ("AheadOfPersonModel", "ran", "I", false)
  | 14 => ("AheadOfPersonModel", "kind", "I", false)
  | 15 => ("AheadOfPersonModel", "number", "I", false)
  | _ => ("AheadOfPersonModel", "tellsV", "I", false)
def tyX9 : Nat → FieldType := fun k => match k with
  | 0 => .int
  | 1 => .array .int
  | 2 => .array .int
  | 3 => .array .int
  | 4 => .boolean
  | 5 => .int
  | 6 => .int
  | 7 => .int
  | 8 => .boolean
  | 9 => .int
  | 10 => .array .int
  | 11 => .array .boolean
  | 12 => .array .int
  | 13 => .int
  | 14 => .int
  | 15 => .int
  | _ => .int
theorem nmX9 : ∀ a, a < 17 → ∀ b, b < 17 → a ≠ b → (TX9 a).2.1 ≠ (TX9 b).2.1 := by decide +kernel
theorem tyX9_ok : ∀ k, k < 17 → parseFieldDescriptor (TX9 k).2.2.1 = some (tyX9 k) := by decide +kernel
def yX0_init : MethodName := ⟨RX0, "<init>", "()V"⟩
def yX0_inTrace : MethodName := ⟨RX0, "inTrace", "()I"⟩
def yX0_start : MethodName := ⟨RX0, "start", "(LAheadOfPerson$Folk;III)I"⟩
def yX0_run : MethodName := ⟨RX0, "run", "(IIII)I"⟩
def yX0_note : MethodName := ⟨RX0, "note", "(I)V"⟩
def yX1_init : MethodName := ⟨RX1, "<init>", "()V"⟩
def yX1_cellsLainOn : MethodName := ⟨RX1, "cellsLainOn", "()I"⟩
def yX1_copyFrom : MethodName := ⟨RX1, "copyFrom", "(LAheadOfPerson$Carpet;)V"⟩
def yX2_init : MethodName := ⟨RX2, "<init>", "()V"⟩
def yX2_begin : MethodName := ⟨RX2, "begin", "(LAheadOfPerson$Scene;)V"⟩
def yX2_again : MethodName := ⟨RX2, "again", "()V"⟩
def yX2_putPerson : MethodName := ⟨RX2, "putPerson", "(II)V"⟩
def yX2_makePerson : MethodName := ⟨RX2, "makePerson", "(II)V"⟩
def yX2_follow : MethodName := ⟨RX2, "follow", "(II)V"⟩
def yX2_goSteps : MethodName := ⟨RX2, "goSteps", "(I)V"⟩
def yX2_comesTo : MethodName := ⟨RX2, "comesTo", "(II)I"⟩
def yX2_isAsSeen : MethodName := ⟨RX2, "isAsSeen", "(LAheadOfPerson$Rows;)Z"⟩
def yX2_go : MethodName := ⟨RX2, "go", "(I)V"⟩
def yX2_lure : MethodName := ⟨RX2, "lure", "(II)I"⟩
def yX2_draw : MethodName := ⟨RX2, "draw", "(I)I"⟩
def yX2_tug : MethodName := ⟨RX2, "tug", "(II)I"⟩
def yX2_reckon : MethodName := ⟨RX2, "reckon", "()V"⟩
def yX2_phase : MethodName := ⟨RX2, "phase", "()I"⟩
def yX2_tugBut : MethodName := ⟨RX2, "tugBut", "(IIII)I"⟩
def yX3_init : MethodName := ⟨RX3, "<init>", "()V"⟩
def yX3_has : MethodName := ⟨RX3, "has", "(I)Z"⟩
def yX3_isAway : MethodName := ⟨RX3, "isAway", "(I)Z"⟩
def yX3_setAway : MethodName := ⟨RX3, "setAway", "(IZ)V"⟩
def yX3_add : MethodName := ⟨RX3, "add", "(III)I"⟩
def yX3_copyFrom : MethodName := ⟨RX3, "copyFrom", "(LAheadOfPerson$Folk;)V"⟩
def yX4_init : MethodName := ⟨RX4, "<init>", "()V"⟩
def yX4_reads : MethodName := ⟨RX4, "reads", "(LAheadOfPerson$Rows;)Z"⟩
def yX4_readsClause : MethodName := ⟨RX4, "readsClause", "()Z"⟩
def yX4_readsExpression : MethodName := ⟨RX4, "readsExpression", "()Z"⟩
def yX4_takesOpening : MethodName := ⟨RX4, "takesOpening", "()V"⟩
def yX4_takesClosing : MethodName := ⟨RX4, "takesClosing", "()V"⟩
def yX4_push : MethodName := ⟨RX4, "push", "(I)V"⟩
def yX4_settle : MethodName := ⟨RX4, "settle", "(I)V"⟩
def yX4_readsTest : MethodName := ⟨RX4, "readsTest", "()Z"⟩
def yX4_takesNumber : MethodName := ⟨RX4, "takesNumber", "()I"⟩
def yX4_takesAll : MethodName := ⟨RX4, "takesAll", "(Ljava/lang/String;)Z"⟩
def yX4_takesOneOf : MethodName := ⟨RX4, "takesOneOf", "(Ljava/lang/String;)I"⟩
def yX4_takes : MethodName := ⟨RX4, "takes", "(C)Z"⟩
def yX4_next : MethodName := ⟨RX4, "next", "()I"⟩
def yX5_init : MethodName := ⟨RX5, "<init>", "(I)V"⟩
def yX5_add : MethodName := ⟨RX5, "add", "(II)I"⟩
def yX5_clear : MethodName := ⟨RX5, "clear", "()I"⟩
def yX5_copyFrom : MethodName := ⟨RX5, "copyFrom", "(LAheadOfPerson$Rows;)V"⟩
def yX6_init : MethodName := ⟨RX6, "<init>", "()V"⟩
def yX6_copyFrom : MethodName := ⟨RX6, "copyFrom", "(LAheadOfPerson$Scene;)V"⟩
def yX7_init : MethodName := ⟨RX7, "<init>", "()V"⟩
def yX7_clear : MethodName := ⟨RX7, "clear", "()V"⟩
def yX7_begin : MethodName := ⟨RX7, "begin", "(II)V"⟩
def yX7_put : MethodName := ⟨RX7, "put", "(I)V"⟩
def yX7_putTest : MethodName := ⟨RX7, "putTest", "(III)V"⟩
def yX7_copyFrom : MethodName := ⟨RX7, "copyFrom", "(LAheadOfPerson$Town;)V"⟩
def yX7_weigh : MethodName := ⟨RX7, "weigh", "(LAheadOfPerson$Folk;II)V"⟩
def yX7_whereHolds : MethodName := ⟨RX7, "whereHolds", "(ILAheadOfPerson$Folk;II)I"⟩
def yX7_whereTest : MethodName := ⟨RX7, "whereTest", "(ILAheadOfPerson$Folk;II)I"⟩
def yX8_init : MethodName := ⟨RX8, "<init>", "()V"⟩
def yX8_feed : MethodName := ⟨RX8, "feed", "(I)I"⟩
def yX8_town : MethodName := ⟨RX8, "town", "()I"⟩
def yX8_person : MethodName := ⟨RX8, "person", "(III)I"⟩
def yX8_of : MethodName := ⟨RX8, "of", "(II)I"⟩
def yX8_line : MethodName := ⟨RX8, "line", "(III)I"⟩
def yX8_move : MethodName := ⟨RX8, "move", "(II)I"⟩
def yX8_away : MethodName := ⟨RX8, "away", "(IZ)I"⟩
def yX8_lay : MethodName := ⟨RX8, "lay", "(I)I"⟩
def yX8_told : MethodName := ⟨RX8, "told", "(I)I"⟩
def yX8_pass : MethodName := ⟨RX8, "pass", "(I)I"⟩
def yX8_on : MethodName := ⟨RX8, "on", "(II)I"⟩
def yX8_finds : MethodName := ⟨RX8, "finds", "(I)I"⟩
def yX8_soonest : MethodName := ⟨RX8, "soonest", "(II)I"⟩
def yX8_call : MethodName := ⟨RX8, "call", "(I)I"⟩
def yX8_kept : MethodName := ⟨RX8, "kept", "(I)I"⟩
def yX8_walk : MethodName := ⟨RX8, "walk", "(I)I"⟩
def yX8_met : MethodName := ⟨RX8, "met", "(I)I"⟩
def yX8_see : MethodName := ⟨RX8, "see", "(II)I"⟩
def yX8_doors : MethodName := ⟨RX8, "doors", "(I)I"⟩
def yX8_firm : MethodName := ⟨RX8, "firm", "(II)I"⟩
def yX8_sought : MethodName := ⟨RX8, "sought", "()I"⟩
def yX8_odds : MethodName := ⟨RX8, "odds", "(III)J"⟩
def yX8_mean : MethodName := ⟨RX8, "mean", "(II)J"⟩
def yX8_plan : MethodName := ⟨RX8, "plan", "(II)I"⟩
def yX8_done : MethodName := ⟨RX8, "done", "(I)I"⟩
def yX8_book : MethodName := ⟨RX8, "book", "(II)I"⟩
def yX8_looked : MethodName := ⟨RX8, "looked", "()I"⟩
def yX8_act : MethodName := ⟨RX8, "act", "(III)I"⟩
def yX8_trace : MethodName := ⟨RX8, "trace", "(I)I"⟩
def yX8_as : MethodName := ⟨RX8, "as", "(II)I"⟩
def yX8_image : MethodName := ⟨RX8, "image", "()I"⟩
def yX8_undo : MethodName := ⟨RX8, "undo", "()I"⟩
def yX8_count : MethodName := ⟨RX8, "count", "(I)I"⟩
def yX8_isCell : MethodName := ⟨RX8, "isCell", "(I)Z"⟩
def yX8_isKind : MethodName := ⟨RX8, "isKind", "(I)Z"⟩
def yX8_isDigit : MethodName := ⟨RX8, "isDigit", "(I)Z"⟩
def yX8_isFuture : MethodName := ⟨RX8, "isFuture", "(I)Z"⟩
def yX8_isEither : MethodName := ⟨RX8, "isEither", "(I)Z"⟩
def yX8_far : MethodName := ⟨RX8, "far", "(II)I"⟩
def yX8_inLowestTerms : MethodName := ⟨RX8, "inLowestTerms", "(III)J"⟩
def yX9_init : MethodName := ⟨RX9, "<init>", "()V"⟩
def yX9_in : MethodName := ⟨RX9, "in", "(III)Z"⟩
def yX9_size : MethodName := ⟨RX9, "size", "(I)I"⟩
def yX9_isCell : MethodName := ⟨RX9, "isCell", "(I)Z"⟩
def yX9_far : MethodName := ⟨RX9, "far", "(II)I"⟩
def yX9_isPerson : MethodName := ⟨RX9, "isPerson", "(I)Z"⟩
def yX9_keeps : MethodName := ⟨RX9, "keeps", "()V"⟩
def yX9_goesBack : MethodName := ⟨RX9, "goesBack", "()V"⟩
def yX9_feed : MethodName := ⟨RX9, "feed", "(I)I"⟩
def yX9_here : MethodName := ⟨RX9, "here", "()I"⟩
def yX9_must : MethodName := ⟨RX9, "must", "(I)V"⟩
def yX9_spells : MethodName := ⟨RX9, "spells", "(Ljava/lang/String;)V"⟩
def yX9_figures : MethodName := ⟨RX9, "figures", "()I"⟩
def yX9_among : MethodName := ⟨RX9, "among", "(Ljava/lang/String;)I"⟩
def yX9_emits : MethodName := ⟨RX9, "emits", "(I)V"⟩
def yX9_factor : MethodName := ⟨RX9, "factor", "()V"⟩
def yX9_every : MethodName := ⟨RX9, "every", "()V"⟩
def yX9_some : MethodName := ⟨RX9, "some", "()V"⟩
def yX9_much : MethodName := ⟨RX9, "much", "(ILjava/lang/String;)V"⟩
def yX9_tellsHere : MethodName := ⟨RX9, "tellsHere", "(ILjava/lang/String;)V"⟩
def yX9_clauseHere : MethodName := ⟨RX9, "clauseHere", "()V"⟩
def yX9_town : MethodName := ⟨RX9, "town", "()I"⟩
def yX9_tellsOf : MethodName := ⟨RX9, "tellsOf", "(II)I"⟩
def yX9_lureOf : MethodName := ⟨RX9, "lureOf", "(II)I"⟩
def yX9_tugOf : MethodName := ⟨RX9, "tugOf", "(II)I"⟩
def yX9_drawOf : MethodName := ⟨RX9, "drawOf", "(I)I"⟩
def yX9_manyLain : MethodName := ⟨RX9, "manyLain", "()I"⟩
def yX9_person : MethodName := ⟨RX9, "person", "(III)I"⟩
def yX9_of : MethodName := ⟨RX9, "of", "(II)I"⟩
def yX9_line : MethodName := ⟨RX9, "line", "(III)I"⟩
def yX9_becomes : MethodName := ⟨RX9, "becomes", "(II)I"⟩
def yX9_move : MethodName := ⟨RX9, "move", "(II)I"⟩
def yX9_away : MethodName := ⟨RX9, "away", "(IZ)I"⟩
def yX9_lay : MethodName := ⟨RX9, "lay", "(I)I"⟩
def yX9_told : MethodName := ⟨RX9, "told", "(I)I"⟩
def yX9_goes : MethodName := ⟨RX9, "goes", "()V"⟩
def yX9_goesOn : MethodName := ⟨RX9, "goesOn", "(I)V"⟩
def yX9_pass : MethodName := ⟨RX9, "pass", "(I)I"⟩
def yX9_on : MethodName := ⟨RX9, "on", "(II)I"⟩
def yX9_stepsTo : MethodName := ⟨RX9, "stepsTo", "(II)I"⟩
def yX9_finds : MethodName := ⟨RX9, "finds", "(I)I"⟩
def yX9_soonest : MethodName := ⟨RX9, "soonest", "(II)I"⟩
def yX9_call : MethodName := ⟨RX9, "call", "(I)I"⟩
def yX9_countOf : MethodName := ⟨RX9, "countOf", "(I)I"⟩
def yX9_isKept : MethodName := ⟨RX9, "isKept", "(II)Z"⟩
def yX9_kept : MethodName := ⟨RX9, "kept", "(I)I"⟩
def yX9_walk : MethodName := ⟨RX9, "walk", "(I)I"⟩
def yX9_met : MethodName := ⟨RX9, "met", "(I)I"⟩
def yX9_see : MethodName := ⟨RX9, "see", "(II)I"⟩
def yX9_isAsSeen : MethodName := ⟨RX9, "isAsSeen", "(I)Z"⟩
def yX9_areAsSeen : MethodName := ⟨RX9, "areAsSeen", "()Z"⟩
def yX9_doors : MethodName := ⟨RX9, "doors", "(I)I"⟩
def yX9_firm : MethodName := ⟨RX9, "firm", "(II)I"⟩
def yX9_sought : MethodName := ⟨RX9, "sought", "()I"⟩
def yX9_lowest : MethodName := ⟨RX9, "lowest", "(JJI)J"⟩
def yX9_odds : MethodName := ⟨RX9, "odds", "(III)J"⟩
def yX9_mean : MethodName := ⟨RX9, "mean", "(II)J"⟩
def yX9_plan : MethodName := ⟨RX9, "plan", "(II)I"⟩
def yX9_goesBy : MethodName := ⟨RX9, "goesBy", "(II)V"⟩
def yX9_done : MethodName := ⟨RX9, "done", "(I)I"⟩
def yX9_book : MethodName := ⟨RX9, "book", "(II)I"⟩
def yX9_looked : MethodName := ⟨RX9, "looked", "()I"⟩
def yX9_ranBody : MethodName := ⟨RX9, "ranBody", "(I)V"⟩
def yX9_isUnder : MethodName := ⟨RX9, "isUnder", "(II)Z"⟩
def yX9_plainStands : MethodName := ⟨RX9, "plainStands", "(I)I"⟩
def yX9_standsActs : MethodName := ⟨RX9, "standsActs", "(I)I"⟩
def yX9_plainLooks : MethodName := ⟨RX9, "plainLooks", "(I)I"⟩
def yX9_looksActs : MethodName := ⟨RX9, "looksActs", "(I)I"⟩
def yX9_plainTelling : MethodName := ⟨RX9, "plainTelling", "(I)I"⟩
def yX9_tellsActs : MethodName := ⟨RX9, "tellsActs", "(I)I"⟩
def yX9_act : MethodName := ⟨RX9, "act", "(III)I"⟩
def yX9_trace : MethodName := ⟨RX9, "trace", "(I)I"⟩
def yX9_as : MethodName := ⟨RX9, "as", "(II)I"⟩
def yX9_image : MethodName := ⟨RX9, "image", "()I"⟩
def yX9_undo : MethodName := ⟨RX9, "undo", "()I"⟩
def yX9_count : MethodName := ⟨RX9, "count", "(I)I"⟩
def yJ11_isValidCodePoint_9a6ad : MethodName := ⟨RJ11, "isValidCodePoint", "(I)Z"⟩
def yJ11_highSurrogate_5068e : MethodName := ⟨RJ11, "highSurrogate", "(I)C"⟩
def yJ11_lowSurrogate_5068e : MethodName := ⟨RJ11, "lowSurrogate", "(I)C"⟩
def yJ6_bitCount_0f7a4 : MethodName := ⟨RJ6, "bitCount", "(I)I"⟩
def yJ9_abs_0f7a4 : MethodName := ⟨RJ9, "abs", "(I)I"⟩
def yJ9_max_7cf53 : MethodName := ⟨RJ9, "max", "(II)I"⟩
def yJ9_min_7cf53 : MethodName := ⟨RJ9, "min", "(II)I"⟩
def yJ0_length_8abf5 : MethodName := ⟨RJ0, "length", "()I"⟩
def yJ0_charAt_5068e : MethodName := ⟨RJ0, "charAt", "(I)C"⟩
def yJ0_indexOf_0f7a4 : MethodName := ⟨RJ0, "indexOf", "(I)I"⟩
def yJ0_indexOf_7cf53 : MethodName := ⟨RJ0, "indexOf", "(II)I"⟩
def yJ0_coder_7d493 : MethodName := ⟨RJ0, "coder", "()B"⟩
def yJ0_isLatin1_aae02 : MethodName := ⟨RJ0, "isLatin1", "()Z"⟩
def yJ0_checkIndex_df160 : MethodName := ⟨RJ0, "checkIndex", "(II)V"⟩
def yJ0_checkBoundsBeginEnd_23922 : MethodName := ⟨RJ0, "checkBoundsBeginEnd", "(III)V"⟩
def yJ1_charAt_3b067 : MethodName := ⟨RJ1, "charAt", "([BI)C"⟩
def yJ1_canEncode_9a6ad : MethodName := ⟨RJ1, "canEncode", "(I)Z"⟩
def yJ1_indexOf_4cfef : MethodName := ⟨RJ1, "indexOf", "([BIII)I"⟩
def yJ1_indexOfChar_4cfef : MethodName := ⟨RJ1, "indexOfChar", "([BIII)I"⟩
def yJ2_getChar_3b067 : MethodName := ⟨RJ2, "getChar", "([BI)C"⟩
def yJ2_length_9d52b : MethodName := ⟨RJ2, "length", "([B)I"⟩
def yJ2_indexOf_4cfef : MethodName := ⟨RJ2, "indexOf", "([BIII)I"⟩
def yJ2_indexOfChar_4cfef : MethodName := ⟨RJ2, "indexOfChar", "([BIII)I"⟩
def yJ2_indexOfCharUnsafe_4cfef : MethodName := ⟨RJ2, "indexOfCharUnsafe", "([BIII)I"⟩
def yJ2_indexOfSupplementary_4cfef : MethodName := ⟨RJ2, "indexOfSupplementary", "([BIII)I"⟩
def yJ2_charAt_3b067 : MethodName := ⟨RJ2, "charAt", "([BI)C"⟩
def yJ2_checkIndex_2214a : MethodName := ⟨RJ2, "checkIndex", "(I[B)V"⟩
def yJ2_checkBoundsBeginEnd_d044e : MethodName := ⟨RJ2, "checkBoundsBeginEnd", "(II[B)V"⟩
def yJ3_checkIndex_8e157 : MethodName := ⟨RJ3, "checkIndex", "(IILjava/util/function/BiFunction;)I"⟩
def yJ3_checkFromToIndex_8c36e : MethodName := ⟨RJ3, "checkFromToIndex", "(IIILjava/util/function/BiFunction;)I"⟩
abbrev cX0_init : ByteArray := prog_2_method_1_code
abbrev cX0_inTrace : ByteArray := prog_2_method_2_code
abbrev cX0_start : ByteArray := prog_2_method_3_code
abbrev cX0_run : ByteArray := prog_2_method_4_code
abbrev cX0_note : ByteArray := prog_2_method_5_code
abbrev cX1_init : ByteArray := prog_3_method_1_code
abbrev cX1_cellsLainOn : ByteArray := prog_3_method_2_code
abbrev cX1_copyFrom : ByteArray := prog_3_method_3_code
abbrev cX2_init : ByteArray := prog_4_method_1_code
abbrev cX2_begin : ByteArray := prog_4_method_2_code
abbrev cX2_again : ByteArray := prog_4_method_3_code
abbrev cX2_putPerson : ByteArray := prog_4_method_4_code
abbrev cX2_makePerson : ByteArray := prog_4_method_5_code
abbrev cX2_follow : ByteArray := prog_4_method_6_code
abbrev cX2_goSteps : ByteArray := prog_4_method_7_code
abbrev cX2_comesTo : ByteArray := prog_4_method_8_code
abbrev cX2_isAsSeen : ByteArray := prog_4_method_9_code
abbrev cX2_go : ByteArray := prog_4_method_10_code
abbrev cX2_lure : ByteArray := prog_4_method_11_code
abbrev cX2_draw : ByteArray := prog_4_method_12_code
abbrev cX2_tug : ByteArray := prog_4_method_13_code
abbrev cX2_reckon : ByteArray := prog_4_method_14_code
abbrev cX2_phase : ByteArray := prog_4_method_15_code
abbrev cX2_tugBut : ByteArray := prog_4_method_16_code
abbrev cX3_init : ByteArray := prog_5_method_1_code
abbrev cX3_has : ByteArray := prog_5_method_2_code
abbrev cX3_isAway : ByteArray := prog_5_method_3_code
abbrev cX3_setAway : ByteArray := prog_5_method_4_code
abbrev cX3_add : ByteArray := prog_5_method_5_code
abbrev cX3_copyFrom : ByteArray := prog_5_method_6_code
abbrev cX4_init : ByteArray := prog_6_method_1_code
abbrev cX4_reads : ByteArray := prog_6_method_2_code
abbrev cX4_readsClause : ByteArray := prog_6_method_3_code
abbrev cX4_readsExpression : ByteArray := prog_6_method_4_code
abbrev cX4_takesOpening : ByteArray := prog_6_method_5_code
abbrev cX4_takesClosing : ByteArray := prog_6_method_6_code
abbrev cX4_push : ByteArray := prog_6_method_7_code
abbrev cX4_settle : ByteArray := prog_6_method_8_code
abbrev cX4_readsTest : ByteArray := prog_6_method_9_code
abbrev cX4_takesNumber : ByteArray := prog_6_method_10_code
abbrev cX4_takesAll : ByteArray := prog_6_method_11_code
abbrev cX4_takesOneOf : ByteArray := prog_6_method_12_code
abbrev cX4_takes : ByteArray := prog_6_method_13_code
abbrev cX4_next : ByteArray := prog_6_method_14_code
abbrev cX5_init : ByteArray := prog_7_method_1_code
abbrev cX5_add : ByteArray := prog_7_method_2_code
abbrev cX5_clear : ByteArray := prog_7_method_3_code
abbrev cX5_copyFrom : ByteArray := prog_7_method_4_code
abbrev cX6_init : ByteArray := prog_8_method_1_code
abbrev cX6_copyFrom : ByteArray := prog_8_method_2_code
abbrev cX7_init : ByteArray := prog_9_method_1_code
abbrev cX7_clear : ByteArray := prog_9_method_2_code
abbrev cX7_begin : ByteArray := prog_9_method_3_code
abbrev cX7_put : ByteArray := prog_9_method_4_code
abbrev cX7_putTest : ByteArray := prog_9_method_5_code
abbrev cX7_copyFrom : ByteArray := prog_9_method_6_code
abbrev cX7_weigh : ByteArray := prog_9_method_7_code
abbrev cX7_whereHolds : ByteArray := prog_9_method_8_code
abbrev cX7_whereTest : ByteArray := prog_9_method_9_code
abbrev cX8_init : ByteArray := prog_1_method_1_code
abbrev cX8_feed : ByteArray := prog_1_method_2_code
abbrev cX8_town : ByteArray := prog_1_method_3_code
abbrev cX8_person : ByteArray := prog_1_method_4_code
abbrev cX8_of : ByteArray := prog_1_method_5_code
abbrev cX8_line : ByteArray := prog_1_method_6_code
abbrev cX8_move : ByteArray := prog_1_method_7_code
abbrev cX8_away : ByteArray := prog_1_method_8_code
abbrev cX8_lay : ByteArray := prog_1_method_9_code
abbrev cX8_told : ByteArray := prog_1_method_10_code
abbrev cX8_pass : ByteArray := prog_1_method_11_code
abbrev cX8_on : ByteArray := prog_1_method_12_code
abbrev cX8_finds : ByteArray := prog_1_method_13_code
abbrev cX8_soonest : ByteArray := prog_1_method_14_code
abbrev cX8_call : ByteArray := prog_1_method_15_code
abbrev cX8_kept : ByteArray := prog_1_method_16_code
abbrev cX8_walk : ByteArray := prog_1_method_17_code
abbrev cX8_met : ByteArray := prog_1_method_18_code
abbrev cX8_see : ByteArray := prog_1_method_19_code
abbrev cX8_doors : ByteArray := prog_1_method_20_code
abbrev cX8_firm : ByteArray := prog_1_method_21_code
abbrev cX8_sought : ByteArray := prog_1_method_22_code
abbrev cX8_odds : ByteArray := prog_1_method_23_code
abbrev cX8_mean : ByteArray := prog_1_method_24_code
abbrev cX8_plan : ByteArray := prog_1_method_25_code
abbrev cX8_done : ByteArray := prog_1_method_26_code
abbrev cX8_book : ByteArray := prog_1_method_27_code
abbrev cX8_looked : ByteArray := prog_1_method_28_code
abbrev cX8_act : ByteArray := prog_1_method_29_code
abbrev cX8_trace : ByteArray := prog_1_method_30_code
abbrev cX8_as : ByteArray := prog_1_method_31_code
abbrev cX8_image : ByteArray := prog_1_method_32_code
abbrev cX8_undo : ByteArray := prog_1_method_33_code
abbrev cX8_count : ByteArray := prog_1_method_34_code
abbrev cX8_isCell : ByteArray := prog_1_method_35_code
abbrev cX8_isKind : ByteArray := prog_1_method_36_code
abbrev cX8_isDigit : ByteArray := prog_1_method_37_code
abbrev cX8_isFuture : ByteArray := prog_1_method_38_code
abbrev cX8_isEither : ByteArray := prog_1_method_39_code
abbrev cX8_far : ByteArray := prog_1_method_40_code
abbrev cX8_inLowestTerms : ByteArray := prog_1_method_41_code
abbrev cX9_init : ByteArray := prog_11_method_1_code
abbrev cX9_in : ByteArray := prog_11_method_3_code
abbrev cX9_size : ByteArray := prog_11_method_4_code
abbrev cX9_isCell : ByteArray := prog_11_method_5_code
abbrev cX9_far : ByteArray := prog_11_method_6_code
abbrev cX9_isPerson : ByteArray := prog_11_method_7_code
abbrev cX9_keeps : ByteArray := prog_11_method_8_code
abbrev cX9_goesBack : ByteArray := prog_11_method_9_code
abbrev cX9_feed : ByteArray := prog_11_method_10_code
abbrev cX9_here : ByteArray := prog_11_method_11_code
abbrev cX9_must : ByteArray := prog_11_method_12_code
abbrev cX9_spells : ByteArray := prog_11_method_13_code
abbrev cX9_figures : ByteArray := prog_11_method_14_code
abbrev cX9_among : ByteArray := prog_11_method_15_code
abbrev cX9_emits : ByteArray := prog_11_method_16_code
abbrev cX9_factor : ByteArray := prog_11_method_17_code
abbrev cX9_every : ByteArray := prog_11_method_18_code
abbrev cX9_some : ByteArray := prog_11_method_19_code
abbrev cX9_much : ByteArray := prog_11_method_20_code
abbrev cX9_tellsHere : ByteArray := prog_11_method_21_code
abbrev cX9_clauseHere : ByteArray := prog_11_method_22_code
abbrev cX9_town : ByteArray := prog_11_method_23_code
abbrev cX9_tellsOf : ByteArray := prog_11_method_24_code
abbrev cX9_lureOf : ByteArray := prog_11_method_25_code
abbrev cX9_tugOf : ByteArray := prog_11_method_26_code
abbrev cX9_drawOf : ByteArray := prog_11_method_27_code
abbrev cX9_manyLain : ByteArray := prog_11_method_28_code
abbrev cX9_person : ByteArray := prog_11_method_29_code
abbrev cX9_of : ByteArray := prog_11_method_30_code
abbrev cX9_line : ByteArray := prog_11_method_31_code
abbrev cX9_becomes : ByteArray := prog_11_method_32_code
abbrev cX9_move : ByteArray := prog_11_method_33_code
abbrev cX9_away : ByteArray := prog_11_method_34_code
abbrev cX9_lay : ByteArray := prog_11_method_35_code
abbrev cX9_told : ByteArray := prog_11_method_36_code
abbrev cX9_goes : ByteArray := prog_11_method_37_code
abbrev cX9_goesOn : ByteArray := prog_11_method_38_code
abbrev cX9_pass : ByteArray := prog_11_method_39_code
abbrev cX9_on : ByteArray := prog_11_method_40_code
abbrev cX9_stepsTo : ByteArray := prog_11_method_41_code
abbrev cX9_finds : ByteArray := prog_11_method_42_code
abbrev cX9_soonest : ByteArray := prog_11_method_43_code
abbrev cX9_call : ByteArray := prog_11_method_44_code
abbrev cX9_countOf : ByteArray := prog_11_method_45_code
abbrev cX9_isKept : ByteArray := prog_11_method_46_code
abbrev cX9_kept : ByteArray := prog_11_method_47_code
abbrev cX9_walk : ByteArray := prog_11_method_48_code
abbrev cX9_met : ByteArray := prog_11_method_49_code
abbrev cX9_see : ByteArray := prog_11_method_50_code
abbrev cX9_isAsSeen : ByteArray := prog_11_method_51_code
abbrev cX9_areAsSeen : ByteArray := prog_11_method_52_code
abbrev cX9_doors : ByteArray := prog_11_method_53_code
abbrev cX9_firm : ByteArray := prog_11_method_54_code
abbrev cX9_sought : ByteArray := prog_11_method_55_code
abbrev cX9_lowest : ByteArray := prog_11_method_56_code
abbrev cX9_odds : ByteArray := prog_11_method_57_code
abbrev cX9_mean : ByteArray := prog_11_method_58_code
abbrev cX9_plan : ByteArray := prog_11_method_59_code
abbrev cX9_goesBy : ByteArray := prog_11_method_60_code
abbrev cX9_done : ByteArray := prog_11_method_61_code
abbrev cX9_book : ByteArray := prog_11_method_62_code
abbrev cX9_looked : ByteArray := prog_11_method_63_code
abbrev cX9_ranBody : ByteArray := prog_11_method_64_code
abbrev cX9_isUnder : ByteArray := prog_11_method_65_code
abbrev cX9_plainStands : ByteArray := prog_11_method_66_code
abbrev cX9_standsActs : ByteArray := prog_11_method_67_code
abbrev cX9_plainLooks : ByteArray := prog_11_method_68_code
abbrev cX9_looksActs : ByteArray := prog_11_method_69_code
abbrev cX9_plainTelling : ByteArray := prog_11_method_70_code
abbrev cX9_tellsActs : ByteArray := prog_11_method_71_code
abbrev cX9_act : ByteArray := prog_11_method_72_code
abbrev cX9_trace : ByteArray := prog_11_method_73_code
abbrev cX9_as : ByteArray := prog_11_method_74_code
abbrev cX9_image : ByteArray := prog_11_method_75_code
abbrev cX9_undo : ByteArray := prog_11_method_76_code
abbrev cX9_count : ByteArray := prog_11_method_77_code
abbrev cJ11_isValidCodePoint_9a6ad : ByteArray := prog_12_method_11_code
abbrev cJ11_highSurrogate_5068e : ByteArray := prog_12_method_28_code
abbrev cJ11_lowSurrogate_5068e : ByteArray := prog_12_method_29_code
abbrev cJ6_bitCount_0f7a4 : ByteArray := prog_13_method_49_code
abbrev cJ9_abs_0f7a4 : ByteArray := prog_14_method_59_code
abbrev cJ9_max_7cf53 : ByteArray := prog_14_method_65_code
abbrev cJ9_min_7cf53 : ByteArray := prog_14_method_69_code
abbrev cJ0_length_8abf5 : ByteArray := prog_15_method_54_code
abbrev cJ0_charAt_5068e : ByteArray := prog_15_method_56_code
abbrev cJ0_indexOf_0f7a4 : ByteArray := prog_15_method_79_code
abbrev cJ0_indexOf_7cf53 : ByteArray := prog_15_method_80_code
abbrev cJ0_coder_7d493 : ByteArray := prog_15_method_152_code
abbrev cJ0_isLatin1_aae02 : ByteArray := prog_15_method_154_code
abbrev cJ0_checkIndex_df160 : ByteArray := prog_15_method_155_code
abbrev cJ0_checkBoundsBeginEnd_23922 : ByteArray := prog_15_method_158_code
abbrev cJ1_charAt_3b067 : ByteArray := prog_16_method_2_code
abbrev cJ1_canEncode_9a6ad : ByteArray := prog_16_method_4_code
abbrev cJ1_indexOf_4cfef : ByteArray := prog_16_method_22_code
abbrev cJ1_indexOfChar_4cfef : ByteArray := prog_16_method_23_code
abbrev cJ2_getChar_3b067 : ByteArray := prog_17_method_5_code
abbrev cJ2_length_9d52b : ByteArray := prog_17_method_6_code
abbrev cJ2_indexOf_4cfef : ByteArray := prog_17_method_40_code
abbrev cJ2_indexOfChar_4cfef : ByteArray := prog_17_method_47_code
abbrev cJ2_indexOfCharUnsafe_4cfef : ByteArray := prog_17_method_48_code
abbrev cJ2_indexOfSupplementary_4cfef : ByteArray := prog_17_method_49_code
abbrev cJ2_charAt_3b067 : ByteArray := prog_17_method_83_code
abbrev cJ2_checkIndex_2214a : ByteArray := prog_17_method_91_code
abbrev cJ2_checkBoundsBeginEnd_d044e : ByteArray := prog_17_method_93_code
abbrev cJ3_checkIndex_8e157 : ByteArray := prog_19_method_11_code
abbrev cJ3_checkFromToIndex_8c36e : ByteArray := prog_19_method_12_code
/-! the cells of the system, numbered: the class under proof from 0 on, the reference from 98 on; 105 in all. kd: 0..9 objects of the classes RX0..RX9; 20 a row of ints, 21 of booleans -/
def ap_kdL : List Nat := [8, 6, 5, 20, 20, 7, 20, 20, 20, 20, 20, 20, 20, 3, 20, 20, 20, 20, 1, 20, 5, 20, 20, 5, 20, 20, 5, 20, 20, 5, 20, 20, 6, 5, 20, 20, 7, 20, 20, 20, 20, 20, 20, 20, 3, 20, 20, 20, 20, 1, 20, 5, 20, 20, 5, 20, 20, 5, 20, 20, 5, 20, 20, 4, 7, 20, 20, 20, 20, 20, 20, 20, 5, 20, 20, 20, 2, 3, 20, 20, 20, 20, 1, 20, 1, 20, 7, 20, 20, 20, 20, 20, 20, 20, 20, 20, 0, 20, 9, 20, 20, 20, 20, 21, 20]
def ap_lnL : List Nat := [0, 0, 0, 100, 100, 0, 10, 10, 10, 100, 13, 16, 16, 0, 6, 6, 6, 24, 0, 16, 0, 10, 10, 0, 5, 5, 0, 8, 8, 0, 8, 8, 0, 0, 100, 100, 0, 10, 10, 10, 100, 13, 16, 16, 0, 6, 6, 6, 24, 0, 16, 0, 10, 10, 0, 5, 5, 0, 8, 8, 0, 8, 8, 0, 0, 10, 10, 10, 100, 13, 16, 16, 0, 100, 100, 17, 0, 0, 6, 6, 6, 24, 0, 16, 0, 16, 0, 10, 10, 10, 100, 13, 16, 16, 960, 6, 0, 20, 0, 936, 936, 30, 6, 64, 20]
def ap_foL : List (List Nat) := [[1, 0, 0, 0, 0], [1, 0, 0], [1, 6, 8, 10, 18, 19], [1, 2, 3, 4, 0, 0], [1, 0, 9, 12, 0, 0, 0], [1, 2, 0], [1, 4, 0, 12, 17, 19, 22, 25, 28], [1, 2, 3, 4, 0, 0, 0, 0, 5, 6, 7], [1, 32, 0, 63, 76, 96], [0, 1, 2, 3, 0, 0, 0, 0, 0, 0, 4, 5, 6, 0, 0, 0, 0]]
def ap_nfL : List Nat := [5, 3, 6, 6, 7, 3, 9, 11, 6, 17]
abbrev ap_NM : Nat := 105
def ap_classes : List vw_C := [(RX0, TX0, 5), (RX1, TX1, 3), (RX2, TX2, 6), (RX3, TX3, 6), (RX4, TX4, 7), (RX5, TX5, 3), (RX6, TX6, 9), (RX7, TX7, 11), (RX8, TX8, 6), (RX9, TX9, 17)]
def ap_kT (j : Nat) (i : Nat) : Int32 := (([[0, 0, 0, 0, 1, 2, 3], [(-4), (-1), 1, 4], [1, 2, 3, 11, 0, 0, 0, 21, 0, 0, 0, 31, 0, 0, 41, 51, 0, 0, 0, 61, 0]] : List (List Int32)).getD j []).getD i 0
def ap_kN (j : Nat) : Nat := ([7, 4, 21] : List Nat).getD j 0
def ap_sl : List Nat := [6, 5, 4, 10, 6, 3]
def ap_sb : List (List Int32) := [[98, 111, 114, 101, 100, 32], [104, 111, 112, 101, 32], [115, 104, 121, 32], [48, 49, 50, 51, 52, 53, 54, 55, 56, 57], [112, 107, 118, 102, 99, 115], [60, 61, 62]]
def ap_sref : List (String × Nat × String × Nat) := [("AheadOfPerson$Reader", 66, "bored ", 0), ("AheadOfPerson$Reader", 68, "hope ", 1), ("AheadOfPerson$Reader", 70, "shy ", 2), ("AheadOfPerson$Reader", 122, "0123456789", 3), ("AheadOfPerson$Reader", 104, "pkvfcs", 4), ("AheadOfPerson$Reader", 110, "<=>", 5), ("AheadOfPersonModel", 103, "bored ", 0), ("AheadOfPersonModel", 109, "hope ", 1), ("AheadOfPersonModel", 85, "pkvfcs", 4), ("AheadOfPersonModel", 91, "<=>", 5), ("AheadOfPersonModel", 114, "shy ", 2)]
end
section
/-! the memory of the system: for each numbered cell its numbers; what is a reference never changes -/
abbrev ap_Mem : Type := Nat → Nat → Int32
def ap_kd (q : Nat) : Nat := ap_kdL.getD q 99
def ap_ln (q : Nat) : Nat := ap_lnL.getD q 0
def ap_fo (ci k : Nat) : Nat := (ap_foL.getD ci []).getD k 0
def ap_nf (ci : Nat) : Nat := ap_nfL.getD ci 0
/-- where all lies: the classes' numbers and slots, which cells may change, the addresses of the cells, of the three tables, of the texts and their bytes, the classes of int and boolean rows -/
abbrev ap_G : Type := va_G × (Nat → Prop) × (Nat → Nat) × (Nat → Nat) × (Nat → Nat) × (Nat → Nat) × ClassId × ClassId
abbrev ap_gD (g : ap_G) : va_G := g.1
abbrev ap_gA (g : ap_G) : Nat → Prop := g.2.1
abbrev ap_ad (g : ap_G) : Nat → Nat := g.2.2.1
abbrev ap_gT (g : ap_G) : Nat → Nat := g.2.2.2.1
abbrev ap_gK (g : ap_G) : Nat → Nat := g.2.2.2.2.1
abbrev ap_gV (g : ap_G) : Nat → Nat := g.2.2.2.2.2.1
abbrev ap_gI (g : ap_G) : ClassId := g.2.2.2.2.2.2.1
abbrev ap_gZ (g : ap_G) : ClassId := g.2.2.2.2.2.2.2
def ap_fv (g : ap_G) (M : ap_Mem) (q ci k : Nat) : Value := if ap_fo ci k = 0 then .int (M q k) else .ref (ap_ad g (q + ap_fo ci k))
def ap_cell (g : ap_G) (M : ap_Mem) (q : Nat) : va_E := if ap_kd q = 20 then .inl (ap_gI g, ap_ln q, .inl (M q)) else if ap_kd q = 21 then .inl (ap_gZ g, ap_ln q, .inl (M q)) else .inr (ap_kd q, (List.range (ap_nf (ap_kd q))).map (ap_fv g M q (ap_kd q)))
def ap_ws (g : ap_G) (M : ap_Mem) : va_W := (List.range ap_NM).map (fun q => (ap_ad g q, ap_cell g M q))
def ap_GOK (g : ap_G) : Prop := (∀ i j, i < ap_NM → j < ap_NM → ap_ad g i = ap_ad g j → i = j) ∧ ∀ i, i < ap_NM → ap_gA g (ap_ad g i)
theorem ap_ws_at {g : ap_G} {M : ap_Mem} {q : Nat} (h : q < ap_NM) : (ap_ws g M)[q]? = some (ap_ad g q, ap_cell g M q) := by
  unfold ap_ws
  rw [List.getElem?_map, List.getElem?_range h]
  rfl
theorem ap_ws_len {g : ap_G} {M : ap_Mem} : (ap_ws g M).length = ap_NM := by
  unfold ap_ws
  rw [List.length_map, List.length_range]
theorem ap_ws_of {g : ap_G} {M : ap_Mem} {i : Nat} {p : Nat × va_E} (h : (ap_ws g M)[i]? = some p) : i < ap_NM ∧ p = (ap_ad g i, ap_cell g M i) := by
  have hi : i < ap_NM := by
    have h1 := (List.getElem?_eq_some_iff.mp h).1
    rw [ap_ws_len] at h1
    exact h1
  rw [ap_ws_at hi] at h
  exact ⟨hi, (Option.some.inj h).symm⟩
theorem ap_ws_D {g : ap_G} {M : ap_Mem} (hg : ap_GOK g) : va_D (ap_gA g) (ap_ws g M) := by
  refine ⟨fun i j p q hp hq e => ?_, fun k q hq => ?_⟩
  · obtain ⟨h1, rfl⟩ := ap_ws_of hp
    obtain ⟨h2, rfl⟩ := ap_ws_of hq
    exact hg.1 i j h1 h2 e
  · obtain ⟨h1, rfl⟩ := ap_ws_of hq
    exact hg.2 k h1
theorem ap_set {g : ap_G} {M M' : ap_Mem} {q : Nat} {e : va_E} (h : q < ap_NM) (he : ap_cell g M' q = e) (ho : ∀ a, a ≠ q → M' a = M a) : (ap_ws g M).set q (ap_ad g q, e) = ap_ws g M' := by
  apply List.ext_getElem?
  intro i
  by_cases hi : i < ap_NM
  · by_cases hq : q = i
    · subst hq
      rw [List.getElem?_set_self (by rw [ap_ws_len]; exact hi), ap_ws_at hi, he]
    · rw [List.getElem?_set_ne hq, ap_ws_at hi, ap_ws_at hi]
      have e1 : ap_cell g M' i = ap_cell g M i := by
        have h1 := ho i (Ne.symm hq)
        have h2 : ap_fv g M' i (ap_kd i) = ap_fv g M i (ap_kd i) := by
          funext k
          unfold ap_fv
          rw [h1]
        unfold ap_cell
        rw [h1, h2]
      rw [e1]
  · rw [List.getElem?_eq_none (by rw [List.length_set, ap_ws_len]; omega), List.getElem?_eq_none (by rw [ap_ws_len]; omega)]
theorem ap_lt {q ci : Nat} (h : ap_kd q = ci) (hc : ci ≠ 99) : q < ap_NM := by
  rcases Nat.lt_or_ge q ap_NM with h1 | h1
  · exact h1
  · refine absurd (h.symm.trans ?_) hc
    have h2 : ap_kdL[q]? = none := List.getElem?_eq_none (Nat.le_trans (Nat.le_of_ble_eq_true rfl) h1)
    unfold ap_kd
    rw [List.getD_eq_getElem?_getD, h2]
    rfl
def ap_mu (M : ap_Mem) (q i : Nat) (v : Int32) : ap_Mem := fun a => if a = q then upd (M q) i v else M a
def ap_mc (M : ap_Mem) (a0 a1 sp dp n : Nat) : ap_Mem := fun a => if a = a1 then va_cpy (M a0) (M a1) sp dp n else M a
theorem ap_mu_s (M : ap_Mem) (q i : Nat) (v : Int32) : ap_mu M q i v q = upd (M q) i v := if_pos rfl
theorem ap_mu_n (M : ap_Mem) {q i a : Nat} (v : Int32) (h : a ≠ q) : ap_mu M q i v a = M a := if_neg h
theorem ap_mc_s (M : ap_Mem) (a0 a1 sp dp n : Nat) : ap_mc M a0 a1 sp dp n a1 = va_cpy (M a0) (M a1) sp dp n := if_pos rfl
theorem ap_mc_n (M : ap_Mem) {a0 a1 sp dp n a : Nat} (h : a ≠ a1) : ap_mc M a0 a1 sp dp n a = M a := if_neg h
theorem ap_cell_i {g : ap_G} {M : ap_Mem} {q : Nat} (h : ap_kd q = 20) : ap_cell g M q = .inl (ap_gI g, ap_ln q, .inl (M q)) := if_pos h
theorem ap_cell_z {g : ap_G} {M : ap_Mem} {q : Nat} (h : ap_kd q = 21) : ap_cell g M q = .inl (ap_gZ g, ap_ln q, .inl (M q)) := by
  unfold ap_cell
  rw [if_neg (by rw [h]; decide), if_pos h]
theorem ap_cell_o {g : ap_G} {M : ap_Mem} {q ci : Nat} (h : ap_kd q = ci) (h1 : ci < 20) : ap_cell g M q = .inr (ci, (List.range (ap_nf ci)).map (ap_fv g M q ci)) := by
  subst h
  unfold ap_cell
  rw [if_neg (by omega), if_neg (by omega)]
theorem ap_set_i {g : ap_G} {M : ap_Mem} {q i : Nat} {v : Int32} (h : ap_kd q = 20) : (ap_ws g M).set q (ap_ad g q, .inl (ap_gI g, ap_ln q, .inl (upd (M q) i v))) = ap_ws g (ap_mu M q i v) :=
  ap_set (ap_lt h (by decide)) (by rw [ap_cell_i h, ap_mu_s]) (fun _ ha => ap_mu_n M v ha)
theorem ap_set_z {g : ap_G} {M : ap_Mem} {q i : Nat} {v : Int32} (h : ap_kd q = 21) : (ap_ws g M).set q (ap_ad g q, .inl (ap_gZ g, ap_ln q, .inl (upd (M q) i v))) = ap_ws g (ap_mu M q i v) :=
  ap_set (ap_lt h (by decide)) (by rw [ap_cell_z h, ap_mu_s]) (fun _ ha => ap_mu_n M v ha)
theorem ap_set_c {g : ap_G} {M : ap_Mem} {q r sp dp n : Nat} (h : ap_kd q = 20) : (ap_ws g M).set q (ap_ad g q, .inl (ap_gI g, ap_ln q, .inl (va_cpy (M r) (M q) sp dp n))) = ap_ws g (ap_mc M r q sp dp n) :=
  ap_set (ap_lt h (by decide)) (by rw [ap_cell_i h, ap_mc_s]) (fun _ ha => ap_mc_n M ha)
theorem ap_flds_at {g : ap_G} {M : ap_Mem} {q ci k : Nat} (hk : k < ap_nf ci) : ((List.range (ap_nf ci)).map (ap_fv g M q ci))[k]? = some (ap_fv g M q ci k) := by
  rw [List.getElem?_map, List.getElem?_range hk]
  rfl
theorem ap_set_o {g : ap_G} {M : ap_Mem} {q ci k : Nat} {v : Int32} (h : ap_kd q = ci) (h1 : ci < 20) (hf : ap_fo ci k = 0) : (ap_ws g M).set q (ap_ad g q, .inr (ci, ((List.range (ap_nf ci)).map (ap_fv g M q ci)).set k (.int v))) = ap_ws g (ap_mu M q k v) := by
  refine ap_set (ap_lt h (by omega)) ?_ (fun _ ha => ap_mu_n M v ha)
  rw [ap_cell_o h h1]
  refine congrArg (fun z => (Sum.inr (ci, z) : va_E)) ?_
  apply List.ext_getElem?
  intro i
  by_cases hi : i < ap_nf ci
  · rw [ap_flds_at hi]
    by_cases hq : k = i
    · subst hq
      rw [List.getElem?_set_self (by rw [List.length_map, List.length_range]; exact hi)]
      unfold ap_fv
      rw [if_pos hf, ap_mu_s, pk_us]
    · rw [List.getElem?_set_ne hq, ap_flds_at hi]
      unfold ap_fv
      rw [ap_mu_s, pk_un (Ne.symm hq)]
  · rw [List.getElem?_eq_none (by rw [List.length_map, List.length_range]; omega), List.getElem?_eq_none (by rw [List.length_set, List.length_map, List.length_range]; omega)]
/-! what never changes beside the system's own cells -/
def ap_N1 : Cond := .methodLinkNest RX7 62 yX8_far RX8
def ap_N2 : Cond := .methodLinkNest RX2 105 yX8_isCell RX8
def ap_N3 : Cond := .methodLinkNest RX2 109 yX8_far RX8
def ap_N4 : Cond := .fieldLinkNest RX0 47 RX8 "ABOVE" "[I" RX8
def ap_Env (g : ap_G) (U : State) (H : Heap) : Prop :=
  va_K (ap_gD g) ap_classes [(ap_gI g, .int), (ap_gZ g, .boolean)] U ∧ va_Nw ap_N1 U ∧ va_Nw ap_N2 U ∧ va_Nw ap_N3 U ∧ va_Nw ap_N4 U ∧
  (va_Z RX8 "ABOVE" "[I" (.ref (ap_gT g 0)) (ap_gA g) U H ∧ va_T .int (ap_gT g 0) (ap_kN 0) (fun j => .int (ap_kT 0 j)) (ap_gA g) U H) ∧
  (va_Z RX2 "STRIDES_TO_NEXT" "[I" (.ref (ap_gT g 1)) (ap_gA g) U H ∧ va_T .int (ap_gT g 1) (ap_kN 1) (fun j => .int (ap_kT 1 j)) (ap_gA g) U H) ∧
  (va_Z RX0 "BODIES" "[I" (.ref (ap_gT g 2)) (ap_gA g) U H ∧ va_T .int (ap_gT g 2) (ap_kN 2) (fun j => .int (ap_kT 2 j)) (ap_gA g) U H) ∧
  (∀ q ∈ ap_sref, vk_R q.1 q.2.1 q.2.2.1 (ap_gK g q.2.2.2) U) ∧ vk_S 6 ap_sl ap_sb (ap_gK g) (ap_gV g) (ap_gA g) U H ∧
  va_Z RJ0 "COMPACT_STRINGS" "Z" (.int 1) (ap_gA g) U H ∧ va_Zq RJ3 "SIOOBE_FORMATTER" "Ljava/util/function/BiFunction;" (ap_gA g) U H
theorem ap_Env_go {g : ap_G} {s U : State} {H : Heap} {locs : List Loc} (h : ap_Env g s s.heap) (hW : s.WarmedH U.vm) (hS : va_S (ap_gA g) s.heap H locs) : ap_Env g U H := by
  obtain ⟨h1, h2, h3, h4, h5, ⟨h6, h7⟩, ⟨h8, h9⟩, ⟨h10, h11⟩, h12, h13, h14, h15⟩ := h
  have ha := hW.alike
  exact ⟨h1.moved ha, va_Nw.warmM hW h2, va_Nw.warmM hW h3, va_Nw.warmM hW h4, va_Nw.warmF hW h5, ⟨(h6.moved ha).kept hS.2.1, (h7.moved ha).kept hS.2.1⟩, ⟨(h8.moved ha).kept hS.2.1, (h9.moved ha).kept hS.2.1⟩, ⟨(h10.moved ha).kept hS.2.1, (h11.moved ha).kept hS.2.1⟩, fun q hq => vk_R.warm hW (h12 q hq), (h13.moved ha).kept hS.2.1, (h14.moved ha).kept hS.2.1, (h15.moved ha).kept hS.2.1⟩
theorem ap_Env_vm {g : ap_G} {u U : State} {H : Heap} (hv : u.vm = U.vm) (h : ap_Env g u H) : ap_Env g U H := by
  obtain ⟨h1, h2, h3, h4, h5, ⟨h6, h7⟩, ⟨h8, h9⟩, ⟨h10, h11⟩, h12, h13, h14, h15⟩ := h
  have ha : u.vm.Alike U.vm := by rw [hv]; exact Vm.Alike.refl U.vm
  exact ⟨h1.moved ha, va_Nw.same rfl hv h2, va_Nw.same rfl hv h3, va_Nw.same rfl hv h4, va_Nw.same rfl hv h5, ⟨h6.moved ha, h7.moved ha⟩, ⟨h8.moved ha, h9.moved ha⟩, ⟨h10.moved ha, h11.moved ha⟩, fun q hq => vk_R.same hv.symm (h12 q hq), h13.moved ha, h14.moved ha, h15.moved ha⟩
/-! contracts -/
def ap_TW : List Cond := lw_tbl.filter goodWord
theorem ap_tw {k : Nat} {w : Cond} (h : lw_tbl[k]? = some w) (hg : goodWord w = true) : w ∈ ap_TW := List.mem_filter.mpr ⟨List.mem_of_getElem? h, hg⟩
def ap_rm (k : Nat) : Room := { frames := k, cells := 0, slots := 0, locals := 64 * k }
def ap_Pc (g : ap_G) (M : ap_Mem) (av : List Value) : Array Value → State → Prop := va_Pc av (fun U => ap_Env g U U.heap ∧ va_P (ap_gD g) ap_classes (ap_ws g M) U.heap)
def ap_Qc (g : ap_G) (Q : Option Value → ap_Mem → Prop) : Array Value → State → Outcome → State → Prop := fun _ st o t => (∃ (r : Option Value) (M' : ap_Mem), o = .returned r ∧ Q r M' ∧ va_P (ap_gD g) ap_classes (ap_ws g M') t.heap) ∧ va_F (ap_gA g) st t
def ap_Ct (l : Launch) (g : ap_G) (y : MethodName) (cc : ByteArray) (maxL : Nat) (ret : Option FieldType) (k : Nat) (av : List Value) (M : ap_Mem) (Q : Option Value → ap_Mem → Prop) : Prop :=
  Met l y (.code y cc maxL ret :: ap_TW) (ap_rm k) (ap_Pc g M av) (ap_Qc g Q) 0 0 (ap_gA g)
def ap_Qi (K : Int32 → ap_Mem → Prop) : Option Value → ap_Mem → Prop := fun r M => ∃ v : Int32, r = some (.int v) ∧ K v M
def ap_Ql (K : Int64 → ap_Mem → Prop) : Option Value → ap_Mem → Prop := fun r M => ∃ v : Int64, r = some (.long v) ∧ K v M
def ap_Qv (K : ap_Mem → Prop) : Option Value → ap_Mem → Prop := fun r M => r = none ∧ K M
theorem ap_blind {g : ap_G} {M : ap_Mem} {av : List Value} : FrameBlind (ap_Pc g M av) := fun a U gf mk h => ⟨h.1, ap_Env_vm (u := U) (U := U.calling gf mk a) rfl h.2.1, h.2.2⟩
/-! the walk of a body -/
abbrev ap_X : Type := Program × Launch × Env × Room × State × MethodId × Array Value × List Frame × Method × Code × Nat × Nat × (State → Prop)
abbrev xP (x : ap_X) : Program := x.1
abbrev xL (x : ap_X) : Launch := x.2.1
abbrev xE (x : ap_X) : Env := x.2.2.1
abbrev xR (x : ap_X) : Room := x.2.2.2.1
abbrev xS (x : ap_X) : State := x.2.2.2.2.1
abbrev xM (x : ap_X) : MethodId := x.2.2.2.2.2.1
abbrev xA (x : ap_X) : Array Value := x.2.2.2.2.2.2.1
abbrev xB (x : ap_X) : List Frame := x.2.2.2.2.2.2.2.1
abbrev xT (x : ap_X) : Method := x.2.2.2.2.2.2.2.2.1
abbrev xC (x : ap_X) : Code := x.2.2.2.2.2.2.2.2.2.1
abbrev xc (x : ap_X) : Nat := x.2.2.2.2.2.2.2.2.2.2.1
abbrev xs (x : ap_X) : Nat := x.2.2.2.2.2.2.2.2.2.2.2.1
abbrev xZ (x : ap_X) : State → Prop := x.2.2.2.2.2.2.2.2.2.2.2.2
def ap_Wx (x : ap_X) (H : Heap) (locs : List Loc) (gf : JFrame) : Prop := W (xP x) (xL x) (xE x) (xR x) (xS x) (xM x) (xA x) (xB x) (xT x) (xC x) H locs (xc x) (xs x) (xZ x) gf
def ap_V (x : ap_X) (g : ap_G) (nL pc : Nat) (lo : List (Nat × Value)) (st : List Value) (M : ap_Mem) : Prop :=
  ∀ (ls : Array Slot) (H : Heap) (locs : List Loc), lv_has ls nL lo → va_P (ap_gD g) ap_classes (ap_ws g M) H → va_S (ap_gA g) (xS x).heap H locs → ap_Wx x H locs (F0 (xM x) pc ls st)
def ap_Cx (x : ap_X) (g : ap_G) (cc : ByteArray) (own : String) (nL : Nat) : Prop :=
  (xP x).tables.exec = Jvm.exec ∧ (xC x).code = cc ∧ (xC x).maxLocals = nL ∧ (xS x).vm.findClass own = some (xM x).cls ∧ (∀ w ∈ ap_TW, w.before (xA x) (xS x) = true) ∧ (xT x).locks = false ∧ ap_Env g (xS x) (xS x).heap ∧ ap_GOK g ∧ xc x ≤ (xR x).cells ∧ xs x ≤ (xR x).slots
def ap_Ends (x : ap_X) (g : ap_G) (k : Nat) (ret : Option FieldType) (Q : Option Value → ap_Mem → Prop) : Prop :=
  xR x = ap_rm k ∧ xc x = 0 ∧ xs x = 0 ∧ xZ x = MQ (xB x) (ap_Qc g Q) (xA x) (xS x) 0 0 (ap_gA g) ∧ (xT x).sig.returnType = ret
theorem ap_Ct_of {l : Launch} {g : ap_G} {y : MethodName} {cc : ByteArray} {maxL : Nat} {ret : Option FieldType} {k : Nat} {av : List Value} {M : ap_Mem} {Q : Option Value → ap_Mem → Prop} (hg : ap_GOK g) (hy : plainName y.cls = true) (hlen : (lg_sl av).length ≤ maxL)
    (h : ∀ x : ap_X, xL x = l → ap_Cx x g cc y.cls maxL → ap_Ends x g k ret Q → ap_V x g maxL 0 (lv_args 0 av) [] M) : ap_Ct l g y cc maxL ret k av M Q := by
  refine Met.ofW (ws' := ap_TW) hy rfl ?_
  intro p e s m args below meth c s₁ B hml hP
  obtain ⟨rfl, hE, hPw⟩ := hP
  have hl := lv_entry av hlen
  have H := h (p, l, e, ap_rm k, s, m, av.toArray, below, meth, c, 0, 0, MQ below (ap_Qc g Q) av.toArray s 0 0 (ap_gA g)) rfl
    ⟨B.exec, B.bytes, hml, findClass_of_methodNamed B.named, fun w hw => atoms_spec B.pre w (List.mem_cons_of_mem _ hw), B.notSynchronized, hE, hg, Nat.le_refl _, Nat.le_refl _⟩ ⟨rfl, rfl, rfl, rfl, B.returns⟩
  rw [lg_entry_eq]
  exact H _ s.heap [] hl hPw va_S.rf
end
section
theorem ap_iconst {x : ap_X} {g : ap_G} {nL pc q : Nat} {cc : ByteArray} {own : String} {lo : List (Nat × Value)} {st : List Value} {M : ap_Mem} {n : Int} {v : Int32} (hc : ap_Cx x g cc own nL) (hd : decode cc pc = .ok (.iconst n, 1)) (he : pc + 1 = q) (hv : Int32.ofInt n = v) (h : ap_V x g nL q lo (.int v :: st) M) : ap_V x g nL pc lo st M := by
  subst he
  exact fun ls H locs hl hP hS => lv_iconst hc.1 hc.2.1 hd hv (h ls H locs hl hP hS)
theorem ap_bipush {x : ap_X} {g : ap_G} {nL pc q : Nat} {cc : ByteArray} {own : String} {lo : List (Nat × Value)} {st : List Value} {M : ap_Mem} {n : Int} {v : Int32} (hc : ap_Cx x g cc own nL) (hd : decode cc pc = .ok (.bipush n, 2)) (he : pc + 2 = q) (hv : (Int8.ofInt n).toInt32 = v) (h : ap_V x g nL q lo (.int v :: st) M) : ap_V x g nL pc lo st M := by
  subst he
  exact fun ls H locs hl hP hS => lv_bipush hc.1 hc.2.1 hd hv (h ls H locs hl hP hS)
theorem ap_sipush {x : ap_X} {g : ap_G} {nL pc q : Nat} {cc : ByteArray} {own : String} {lo : List (Nat × Value)} {st : List Value} {M : ap_Mem} {n : Int} {v : Int32} (hc : ap_Cx x g cc own nL) (hd : decode cc pc = .ok (.sipush n, 3)) (he : pc + 3 = q) (hv : (Int16.ofInt n).toInt32 = v) (h : ap_V x g nL q lo (.int v :: st) M) : ap_V x g nL pc lo st M := by
  subst he
  exact fun ls H locs hl hP hS => lv_sipush hc.1 hc.2.1 hd hv (h ls H locs hl hP hS)
theorem ap_lconst {x : ap_X} {g : ap_G} {nL pc q : Nat} {cc : ByteArray} {own : String} {lo : List (Nat × Value)} {st : List Value} {M : ap_Mem} {n : Fin 2} {v : Int64} (hc : ap_Cx x g cc own nL) (hd : decode cc pc = .ok (.lconst n, 1)) (he : pc + 1 = q) (hv : Int64.ofNat (n : Nat) = v) (h : ap_V x g nL q lo (.long v :: st) M) : ap_V x g nL pc lo st M := by
  subst he
  exact fun ls H locs hl hP hS => lv_lconst hc.1 hc.2.1 hd hv (h ls H locs hl hP hS)
theorem ap_ldc {x : ap_X} {g : ap_G} {nL pc q : Nat} {cc : ByteArray} {own : String} {lo : List (Nat × Value)} {st : List Value} {M : ap_Mem} {i : Nat} {v : Int32} (hc : ap_Cx x g cc own nL) (hd : decode cc pc = .ok (.ldc i, 2)) (he : pc + 2 = q) (hw : Cond.constant own i v ∈ ap_TW) (h : ap_V x g nL q lo (.int v :: st) M) : ap_V x g nL pc lo st M := by
  subst he
  exact fun ls H locs hl hP hS => lv_ldc hc.1 hc.2.1 hc.2.2.2.1 (hc.2.2.2.2.1 _ hw) hd (h ls H locs hl hP hS)
theorem ap_ldcw {x : ap_X} {g : ap_G} {nL pc q : Nat} {cc : ByteArray} {own : String} {lo : List (Nat × Value)} {st : List Value} {M : ap_Mem} {i : Nat} {v : Int32} (hc : ap_Cx x g cc own nL) (hd : decode cc pc = .ok (.ldc_w i, 3)) (he : pc + 3 = q) (hw : Cond.constant own i v ∈ ap_TW) (h : ap_V x g nL q lo (.int v :: st) M) : ap_V x g nL pc lo st M := by
  subst he
  exact fun ls H locs hl hP hS => lv_ldcw hc.1 hc.2.1 hc.2.2.2.1 (hc.2.2.2.2.1 _ hw) hd (h ls H locs hl hP hS)
theorem ap_ldc2 {x : ap_X} {g : ap_G} {nL pc q : Nat} {cc : ByteArray} {own : String} {lo : List (Nat × Value)} {st : List Value} {M : ap_Mem} {i : Nat} {v : Int64} (hc : ap_Cx x g cc own nL) (hd : decode cc pc = .ok (.ldc2_w i, 3)) (he : pc + 3 = q) (hw : Cond.constantLong own i v ∈ ap_TW) (h : ap_V x g nL q lo (.long v :: st) M) : ap_V x g nL pc lo st M := by
  subst he
  exact fun ls H locs hl hP hS => lv_ldc2 hc.1 hc.2.1 hc.2.2.2.1 (hc.2.2.2.2.1 _ hw) hd (h ls H locs hl hP hS)
theorem ap_iload_n {x : ap_X} {g : ap_G} {nL pc q : Nat} {cc : ByteArray} {own : String} {lo : List (Nat × Value)} {st : List Value} {M : ap_Mem} {k : Fin 4} {i : Nat} {a : Int32} (hc : ap_Cx x g cc own nL) (hd : decode cc pc = .ok (.iload_n k, 1)) (he : pc + 1 = q) (hi : (k : Nat) = i) (j : Nat) (hk : lo[j]? = some (i, .int a)) (h : ap_V x g nL q lo (.int a :: st) M) : ap_V x g nL pc lo st M := by
  subst he
  exact fun ls H locs hl hP hS => lv_iload_n hc.1 hc.2.1 hd hi (lv_at hl j hk) (h ls H locs hl hP hS)
theorem ap_iload {x : ap_X} {g : ap_G} {nL pc q : Nat} {cc : ByteArray} {own : String} {lo : List (Nat × Value)} {st : List Value} {M : ap_Mem} {i : Nat} {a : Int32} (hc : ap_Cx x g cc own nL) (hd : decode cc pc = .ok (.iload i, 2)) (he : pc + 2 = q) (j : Nat) (hk : lo[j]? = some (i, .int a)) (h : ap_V x g nL q lo (.int a :: st) M) : ap_V x g nL pc lo st M := by
  subst he
  exact fun ls H locs hl hP hS => lv_iload hc.1 hc.2.1 hd (lv_at hl j hk) (h ls H locs hl hP hS)
theorem ap_lload_n {x : ap_X} {g : ap_G} {nL pc q : Nat} {cc : ByteArray} {own : String} {lo : List (Nat × Value)} {st : List Value} {M : ap_Mem} {k : Fin 4} {i : Nat} {a : Int64} (hc : ap_Cx x g cc own nL) (hd : decode cc pc = .ok (.lload_n k, 1)) (he : pc + 1 = q) (hi : (k : Nat) = i) (j : Nat) (hk : lo[j]? = some (i, .long a)) (h : ap_V x g nL q lo (.long a :: st) M) : ap_V x g nL pc lo st M := by
  subst he
  exact fun ls H locs hl hP hS => lv_lload_n hc.1 hc.2.1 hd hi (lv_at hl j hk) (h ls H locs hl hP hS)
theorem ap_lload {x : ap_X} {g : ap_G} {nL pc q : Nat} {cc : ByteArray} {own : String} {lo : List (Nat × Value)} {st : List Value} {M : ap_Mem} {i : Nat} {a : Int64} (hc : ap_Cx x g cc own nL) (hd : decode cc pc = .ok (.lload i, 2)) (he : pc + 2 = q) (j : Nat) (hk : lo[j]? = some (i, .long a)) (h : ap_V x g nL q lo (.long a :: st) M) : ap_V x g nL pc lo st M := by
  subst he
  exact fun ls H locs hl hP hS => lv_lload hc.1 hc.2.1 hd (lv_at hl j hk) (h ls H locs hl hP hS)
theorem ap_aload_n {x : ap_X} {g : ap_G} {nL pc q : Nat} {cc : ByteArray} {own : String} {lo : List (Nat × Value)} {st : List Value} {M : ap_Mem} {k : Fin 4} {i : Nat} {a : Nat} (hc : ap_Cx x g cc own nL) (hd : decode cc pc = .ok (.aload_n k, 1)) (he : pc + 1 = q) (hi : (k : Nat) = i) (j : Nat) (hk : lo[j]? = some (i, .ref a)) (h : ap_V x g nL q lo (.ref a :: st) M) : ap_V x g nL pc lo st M := by
  subst he
  exact fun ls H locs hl hP hS => lv_aload_n hc.1 hc.2.1 hd hi (lv_at hl j hk) (h ls H locs hl hP hS)
theorem ap_aload {x : ap_X} {g : ap_G} {nL pc q : Nat} {cc : ByteArray} {own : String} {lo : List (Nat × Value)} {st : List Value} {M : ap_Mem} {i : Nat} {a : Nat} (hc : ap_Cx x g cc own nL) (hd : decode cc pc = .ok (.aload i, 2)) (he : pc + 2 = q) (j : Nat) (hk : lo[j]? = some (i, .ref a)) (h : ap_V x g nL q lo (.ref a :: st) M) : ap_V x g nL pc lo st M := by
  subst he
  exact fun ls H locs hl hP hS => lv_aload hc.1 hc.2.1 hd (lv_at hl j hk) (h ls H locs hl hP hS)
theorem ap_istore_n {x : ap_X} {g : ap_G} {nL pc q : Nat} {cc : ByteArray} {own : String} {lo : List (Nat × Value)} {st : List Value} {M : ap_Mem} {k : Fin 4} {i : Nat} {a b : Int32} {lo2 : List (Nat × Value)} (hc : ap_Cx x g cc own nL) (hd : decode cc pc = .ok (.istore_n k, 1)) (he : pc + 1 = q) (hi : (k : Nat) = i) (hv : b = a) (hlt : i < nL) (hf : (i, Value.int b) :: lo.filter (fun q => !(q.1 == i) && !(q.1 + 1 == i && q.2.category == 2)) = lo2) (h : ap_V x g nL q lo2 st M) : ap_V x g nL pc lo (.int a :: st) M := by
  subst he; subst hv
  exact fun ls H locs hl hP hS => lv_istore_n hc.1 hc.2.1 hd hi hl hlt hf (fun ls2 hl2 => h ls2 H locs hl2 hP hS)
theorem ap_istore {x : ap_X} {g : ap_G} {nL pc q : Nat} {cc : ByteArray} {own : String} {lo : List (Nat × Value)} {st : List Value} {M : ap_Mem} {i : Nat} {a b : Int32} {lo2 : List (Nat × Value)} (hc : ap_Cx x g cc own nL) (hd : decode cc pc = .ok (.istore i, 2)) (he : pc + 2 = q) (hv : b = a) (hlt : i < nL) (hf : (i, Value.int b) :: lo.filter (fun q => !(q.1 == i) && !(q.1 + 1 == i && q.2.category == 2)) = lo2) (h : ap_V x g nL q lo2 st M) : ap_V x g nL pc lo (.int a :: st) M := by
  subst he; subst hv
  exact fun ls H locs hl hP hS => lv_istore hc.1 hc.2.1 hd hl hlt hf (fun ls2 hl2 => h ls2 H locs hl2 hP hS)
theorem ap_lstore_n {x : ap_X} {g : ap_G} {nL pc q : Nat} {cc : ByteArray} {own : String} {lo : List (Nat × Value)} {st : List Value} {M : ap_Mem} {k : Fin 4} {i : Nat} {a b : Int64} {lo2 : List (Nat × Value)} (hc : ap_Cx x g cc own nL) (hd : decode cc pc = .ok (.lstore_n k, 1)) (he : pc + 1 = q) (hi : (k : Nat) = i) (hv : b = a) (hlt : i + 1 < nL) (hf : (i, Value.long b) :: lo.filter (fun q => !(q.1 == i) && (!(q.1 == i + 1) && !(q.1 + 1 == i && q.2.category == 2))) = lo2) (h : ap_V x g nL q lo2 st M) : ap_V x g nL pc lo (.long a :: st) M := by
  subst he; subst hv
  exact fun ls H locs hl hP hS => lv_lstore_n hc.1 hc.2.1 hd hi hl hlt hf (fun ls2 hl2 => h ls2 H locs hl2 hP hS)
theorem ap_lstore {x : ap_X} {g : ap_G} {nL pc q : Nat} {cc : ByteArray} {own : String} {lo : List (Nat × Value)} {st : List Value} {M : ap_Mem} {i : Nat} {a b : Int64} {lo2 : List (Nat × Value)} (hc : ap_Cx x g cc own nL) (hd : decode cc pc = .ok (.lstore i, 2)) (he : pc + 2 = q) (hv : b = a) (hlt : i + 1 < nL) (hf : (i, Value.long b) :: lo.filter (fun q => !(q.1 == i) && (!(q.1 == i + 1) && !(q.1 + 1 == i && q.2.category == 2))) = lo2) (h : ap_V x g nL q lo2 st M) : ap_V x g nL pc lo (.long a :: st) M := by
  subst he; subst hv
  exact fun ls H locs hl hP hS => lv_lstore hc.1 hc.2.1 hd hl hlt hf (fun ls2 hl2 => h ls2 H locs hl2 hP hS)
theorem ap_astore_n {x : ap_X} {g : ap_G} {nL pc q : Nat} {cc : ByteArray} {own : String} {lo : List (Nat × Value)} {st : List Value} {M : ap_Mem} {k : Fin 4} {i : Nat} {a b : Nat} {lo2 : List (Nat × Value)} (hc : ap_Cx x g cc own nL) (hd : decode cc pc = .ok (.astore_n k, 1)) (he : pc + 1 = q) (hi : (k : Nat) = i) (hv : b = a) (hlt : i < nL) (hf : (i, Value.ref b) :: lo.filter (fun q => !(q.1 == i) && !(q.1 + 1 == i && q.2.category == 2)) = lo2) (h : ap_V x g nL q lo2 st M) : ap_V x g nL pc lo (.ref a :: st) M := by
  subst he; subst hv
  exact fun ls H locs hl hP hS => lv_astore_n hc.1 hc.2.1 hd hi hl hlt hf (fun ls2 hl2 => h ls2 H locs hl2 hP hS)
theorem ap_astore {x : ap_X} {g : ap_G} {nL pc q : Nat} {cc : ByteArray} {own : String} {lo : List (Nat × Value)} {st : List Value} {M : ap_Mem} {i : Nat} {a b : Nat} {lo2 : List (Nat × Value)} (hc : ap_Cx x g cc own nL) (hd : decode cc pc = .ok (.astore i, 2)) (he : pc + 2 = q) (hv : b = a) (hlt : i < nL) (hf : (i, Value.ref b) :: lo.filter (fun q => !(q.1 == i) && !(q.1 + 1 == i && q.2.category == 2)) = lo2) (h : ap_V x g nL q lo2 st M) : ap_V x g nL pc lo (.ref a :: st) M := by
  subst he; subst hv
  exact fun ls H locs hl hP hS => lv_astore hc.1 hc.2.1 hd hl hlt hf (fun ls2 hl2 => h ls2 H locs hl2 hP hS)
theorem ap_iinc {x : ap_X} {g : ap_G} {nL pc q : Nat} {cc : ByteArray} {own : String} {lo : List (Nat × Value)} {st : List Value} {M : ap_Mem} {i : Nat} {n : Int} {a b : Int32} {lo2 : List (Nat × Value)} (hc : ap_Cx x g cc own nL) (hd : decode cc pc = .ok (.iinc i n, 3)) (he : pc + 3 = q) (j : Nat) (hk : lo[j]? = some (i, .int a)) (hv : a + Int32.ofInt n = b) (hlt : i < nL) (hf : (i, Value.int b) :: lo.filter (fun q => !(q.1 == i) && !(q.1 + 1 == i && q.2.category == 2)) = lo2) (h : ap_V x g nL q lo2 st M) : ap_V x g nL pc lo st M := by
  subst he
  exact fun ls H locs hl hP hS => lv_iinc hc.1 hc.2.1 hd hl hk hv hlt hf (fun ls2 hl2 => h ls2 H locs hl2 hP hS)
theorem ap_iadd {x : ap_X} {g : ap_G} {nL pc q : Nat} {cc : ByteArray} {own : String} {lo : List (Nat × Value)} {st : List Value} {M : ap_Mem} {a b : Int32} (hc : ap_Cx x g cc own nL) (hd : decode cc pc = .ok (.iadd, 1)) (he : pc + 1 = q) (h : ap_V x g nL q lo (.int (a + b) :: st) M) : ap_V x g nL pc lo (.int b :: .int a :: st) M := by
  subst he
  exact fun ls H locs hl hP hS => lv_iadd hc.1 hc.2.1 hd (h ls H locs hl hP hS)
theorem ap_isub {x : ap_X} {g : ap_G} {nL pc q : Nat} {cc : ByteArray} {own : String} {lo : List (Nat × Value)} {st : List Value} {M : ap_Mem} {a b : Int32} (hc : ap_Cx x g cc own nL) (hd : decode cc pc = .ok (.isub, 1)) (he : pc + 1 = q) (h : ap_V x g nL q lo (.int (a - b) :: st) M) : ap_V x g nL pc lo (.int b :: .int a :: st) M := by
  subst he
  exact fun ls H locs hl hP hS => lv_isub hc.1 hc.2.1 hd (h ls H locs hl hP hS)
theorem ap_imul {x : ap_X} {g : ap_G} {nL pc q : Nat} {cc : ByteArray} {own : String} {lo : List (Nat × Value)} {st : List Value} {M : ap_Mem} {a b : Int32} (hc : ap_Cx x g cc own nL) (hd : decode cc pc = .ok (.imul, 1)) (he : pc + 1 = q) (h : ap_V x g nL q lo (.int (a * b) :: st) M) : ap_V x g nL pc lo (.int b :: .int a :: st) M := by
  subst he
  exact fun ls H locs hl hP hS => lv_imul hc.1 hc.2.1 hd (h ls H locs hl hP hS)
theorem ap_iand {x : ap_X} {g : ap_G} {nL pc q : Nat} {cc : ByteArray} {own : String} {lo : List (Nat × Value)} {st : List Value} {M : ap_Mem} {a b : Int32} (hc : ap_Cx x g cc own nL) (hd : decode cc pc = .ok (.iand, 1)) (he : pc + 1 = q) (h : ap_V x g nL q lo (.int (a &&& b) :: st) M) : ap_V x g nL pc lo (.int b :: .int a :: st) M := by
  subst he
  exact fun ls H locs hl hP hS => lv_iand hc.1 hc.2.1 hd (h ls H locs hl hP hS)
theorem ap_ior {x : ap_X} {g : ap_G} {nL pc q : Nat} {cc : ByteArray} {own : String} {lo : List (Nat × Value)} {st : List Value} {M : ap_Mem} {a b : Int32} (hc : ap_Cx x g cc own nL) (hd : decode cc pc = .ok (.ior, 1)) (he : pc + 1 = q) (h : ap_V x g nL q lo (.int (a ||| b) :: st) M) : ap_V x g nL pc lo (.int b :: .int a :: st) M := by
  subst he
  exact fun ls H locs hl hP hS => lv_ior hc.1 hc.2.1 hd (h ls H locs hl hP hS)
theorem ap_ixor {x : ap_X} {g : ap_G} {nL pc q : Nat} {cc : ByteArray} {own : String} {lo : List (Nat × Value)} {st : List Value} {M : ap_Mem} {a b : Int32} (hc : ap_Cx x g cc own nL) (hd : decode cc pc = .ok (.ixor, 1)) (he : pc + 1 = q) (h : ap_V x g nL q lo (.int (a ^^^ b) :: st) M) : ap_V x g nL pc lo (.int b :: .int a :: st) M := by
  subst he
  exact fun ls H locs hl hP hS => lv_ixor hc.1 hc.2.1 hd (h ls H locs hl hP hS)
theorem ap_ishl {x : ap_X} {g : ap_G} {nL pc q : Nat} {cc : ByteArray} {own : String} {lo : List (Nat × Value)} {st : List Value} {M : ap_Mem} {a b : Int32} (hc : ap_Cx x g cc own nL) (hd : decode cc pc = .ok (.ishl, 1)) (he : pc + 1 = q) (h : ap_V x g nL q lo (.int (a <<< (b &&& 31)) :: st) M) : ap_V x g nL pc lo (.int b :: .int a :: st) M := by
  subst he
  exact fun ls H locs hl hP hS => lv_ishl hc.1 hc.2.1 hd (h ls H locs hl hP hS)
theorem ap_ishr {x : ap_X} {g : ap_G} {nL pc q : Nat} {cc : ByteArray} {own : String} {lo : List (Nat × Value)} {st : List Value} {M : ap_Mem} {a b : Int32} (hc : ap_Cx x g cc own nL) (hd : decode cc pc = .ok (.ishr, 1)) (he : pc + 1 = q) (h : ap_V x g nL q lo (.int (a >>> (b &&& 31)) :: st) M) : ap_V x g nL pc lo (.int b :: .int a :: st) M := by
  subst he
  exact fun ls H locs hl hP hS => lv_ishr hc.1 hc.2.1 hd (h ls H locs hl hP hS)
theorem ap_iushr {x : ap_X} {g : ap_G} {nL pc q : Nat} {cc : ByteArray} {own : String} {lo : List (Nat × Value)} {st : List Value} {M : ap_Mem} {a b v : Int32} (hc : ap_Cx x g cc own nL) (hd : decode cc pc = .ok (.iushr, 1)) (he : pc + 1 = q) (hv : (a.toUInt32 >>> (b.toUInt32 &&& Int32.toUInt32 31)).toInt32 = v) (h : ap_V x g nL q lo (.int v :: st) M) : ap_V x g nL pc lo (.int b :: .int a :: st) M := by
  subst he
  exact fun ls H locs hl hP hS => lv_iushr hc.1 hc.2.1 hd hv (h ls H locs hl hP hS)
theorem ap_idiv {x : ap_X} {g : ap_G} {nL pc q : Nat} {cc : ByteArray} {own : String} {lo : List (Nat × Value)} {st : List Value} {M : ap_Mem} {a b : Int32} (hc : ap_Cx x g cc own nL) (hd : decode cc pc = .ok (.idiv, 1)) (he : pc + 1 = q) (hn : ¬ b = 0) (h : ap_V x g nL q lo (.int (a / b) :: st) M) : ap_V x g nL pc lo (.int b :: .int a :: st) M := by
  subst he
  exact fun ls H locs hl hP hS => lv_idiv hc.1 hc.2.1 hd hn (h ls H locs hl hP hS)
theorem ap_irem {x : ap_X} {g : ap_G} {nL pc q : Nat} {cc : ByteArray} {own : String} {lo : List (Nat × Value)} {st : List Value} {M : ap_Mem} {a b : Int32} (hc : ap_Cx x g cc own nL) (hd : decode cc pc = .ok (.irem, 1)) (he : pc + 1 = q) (hn : ¬ b = 0) (h : ap_V x g nL q lo (.int (a - a / b * b) :: st) M) : ap_V x g nL pc lo (.int b :: .int a :: st) M := by
  subst he
  exact fun ls H locs hl hP hS => lv_irem hc.1 hc.2.1 hd hn (h ls H locs hl hP hS)
theorem ap_ineg {x : ap_X} {g : ap_G} {nL pc q : Nat} {cc : ByteArray} {own : String} {lo : List (Nat × Value)} {st : List Value} {M : ap_Mem} {a : Int32} (hc : ap_Cx x g cc own nL) (hd : decode cc pc = .ok (.ineg, 1)) (he : pc + 1 = q) (h : ap_V x g nL q lo (.int (-a) :: st) M) : ap_V x g nL pc lo (.int a :: st) M := by
  subst he
  exact fun ls H locs hl hP hS => lv_ineg hc.1 hc.2.1 hd (h ls H locs hl hP hS)
theorem ap_ladd {x : ap_X} {g : ap_G} {nL pc q : Nat} {cc : ByteArray} {own : String} {lo : List (Nat × Value)} {st : List Value} {M : ap_Mem} {a b : Int64} (hc : ap_Cx x g cc own nL) (hd : decode cc pc = .ok (.ladd, 1)) (he : pc + 1 = q) (h : ap_V x g nL q lo (.long (a + b) :: st) M) : ap_V x g nL pc lo (.long b :: .long a :: st) M := by
  subst he
  exact fun ls H locs hl hP hS => lv_ladd hc.1 hc.2.1 hd (h ls H locs hl hP hS)
theorem ap_lneg {x : ap_X} {g : ap_G} {nL pc q : Nat} {cc : ByteArray} {own : String} {lo : List (Nat × Value)} {st : List Value} {M : ap_Mem} {a : Int64} (hc : ap_Cx x g cc own nL) (hd : decode cc pc = .ok (.lneg, 1)) (he : pc + 1 = q) (h : ap_V x g nL q lo (.long (-a) :: st) M) : ap_V x g nL pc lo (.long a :: st) M := by
  subst he
  exact fun ls H locs hl hP hS => lv_lneg hc.1 hc.2.1 hd (h ls H locs hl hP hS)
theorem ap_ldiv {x : ap_X} {g : ap_G} {nL pc q : Nat} {cc : ByteArray} {own : String} {lo : List (Nat × Value)} {st : List Value} {M : ap_Mem} {a b : Int64} (hc : ap_Cx x g cc own nL) (hd : decode cc pc = .ok (.ldiv, 1)) (he : pc + 1 = q) (hn : ¬ b = 0) (h : ap_V x g nL q lo (.long (a / b) :: st) M) : ap_V x g nL pc lo (.long b :: .long a :: st) M := by
  subst he
  exact fun ls H locs hl hP hS => lv_ldiv hc.1 hc.2.1 hd hn (h ls H locs hl hP hS)
theorem ap_lrem {x : ap_X} {g : ap_G} {nL pc q : Nat} {cc : ByteArray} {own : String} {lo : List (Nat × Value)} {st : List Value} {M : ap_Mem} {a b : Int64} (hc : ap_Cx x g cc own nL) (hd : decode cc pc = .ok (.lrem, 1)) (he : pc + 1 = q) (hn : ¬ b = 0) (h : ap_V x g nL q lo (.long (a - a / b * b) :: st) M) : ap_V x g nL pc lo (.long b :: .long a :: st) M := by
  subst he
  exact fun ls H locs hl hP hS => lv_lrem hc.1 hc.2.1 hd hn (h ls H locs hl hP hS)
theorem ap_lcmp {x : ap_X} {g : ap_G} {nL pc q : Nat} {cc : ByteArray} {own : String} {lo : List (Nat × Value)} {st : List Value} {M : ap_Mem} {a b : Int64} (hc : ap_Cx x g cc own nL) (hd : decode cc pc = .ok (.lcmp, 1)) (he : pc + 1 = q) (h : ap_V x g nL q lo (.int (lg_cmp a b) :: st) M) : ap_V x g nL pc lo (.long b :: .long a :: st) M := by
  subst he
  exact fun ls H locs hl hP hS => W.lcmp hc.1 hc.2.1 hd (h ls H locs hl hP hS)
theorem ap_i2l {x : ap_X} {g : ap_G} {nL pc q : Nat} {cc : ByteArray} {own : String} {lo : List (Nat × Value)} {st : List Value} {M : ap_Mem} {a : Int32} (hc : ap_Cx x g cc own nL) (hd : decode cc pc = .ok (.i2l, 1)) (he : pc + 1 = q) (h : ap_V x g nL q lo (.long a.toInt64 :: st) M) : ap_V x g nL pc lo (.int a :: st) M := by
  subst he
  exact fun ls H locs hl hP hS => lv_i2l hc.1 hc.2.1 hd rfl (h ls H locs hl hP hS)
theorem ap_i2c {x : ap_X} {g : ap_G} {nL pc q : Nat} {cc : ByteArray} {own : String} {lo : List (Nat × Value)} {st : List Value} {M : ap_Mem} {a : Int32} (hc : ap_Cx x g cc own nL) (hd : decode cc pc = .ok (.i2c, 1)) (he : pc + 1 = q) (h : ap_V x g nL q lo (.int (a.toUInt32 % 65536).toInt32 :: st) M) : ap_V x g nL pc lo (.int a :: st) M := by
  subst he
  exact fun ls H locs hl hP hS => lv_i2c hc.1 hc.2.1 hd rfl (h ls H locs hl hP hS)
theorem ap_i2b {x : ap_X} {g : ap_G} {nL pc q : Nat} {cc : ByteArray} {own : String} {lo : List (Nat × Value)} {st : List Value} {M : ap_Mem} {a : Int32} (hc : ap_Cx x g cc own nL) (hd : decode cc pc = .ok (.i2b, 1)) (he : pc + 1 = q) (h : ap_V x g nL q lo (.int a.toInt8.toInt32 :: st) M) : ap_V x g nL pc lo (.int a :: st) M := by
  subst he
  exact fun ls H locs hl hP hS => lv_i2b hc.1 hc.2.1 hd rfl (h ls H locs hl hP hS)
theorem ap_dup {x : ap_X} {g : ap_G} {nL pc q : Nat} {cc : ByteArray} {own : String} {lo : List (Nat × Value)} {st : List Value} {M : ap_Mem} {v : Value} (hc : ap_Cx x g cc own nL) (hd : decode cc pc = .ok (.dup, 1)) (he : pc + 1 = q) (hv : v.category = 1) (h : ap_V x g nL q lo (v :: v :: st) M) : ap_V x g nL pc lo (v :: st) M := by
  subst he
  exact fun ls H locs hl hP hS => lv_dup hc.1 hc.2.1 hd hv (h ls H locs hl hP hS)
theorem ap_pop {x : ap_X} {g : ap_G} {nL pc q : Nat} {cc : ByteArray} {own : String} {lo : List (Nat × Value)} {st : List Value} {M : ap_Mem} {v : Value} (hc : ap_Cx x g cc own nL) (hd : decode cc pc = .ok (.pop, 1)) (he : pc + 1 = q) (hv : v.category = 1) (h : ap_V x g nL q lo st M) : ap_V x g nL pc lo (v :: st) M := by
  subst he
  exact fun ls H locs hl hP hS => lv_pop hc.1 hc.2.1 hd hv (h ls H locs hl hP hS)
theorem ap_dup2 {x : ap_X} {g : ap_G} {nL pc q : Nat} {cc : ByteArray} {own : String} {lo : List (Nat × Value)} {st : List Value} {M : ap_Mem} {v w : Value} (hc : ap_Cx x g cc own nL) (hd : decode cc pc = .ok (.dup2, 1)) (he : pc + 1 = q) (hv : v.category = 1) (hw : w.category = 1) (h : ap_V x g nL q lo (v :: w :: v :: w :: st) M) : ap_V x g nL pc lo (v :: w :: st) M := by
  subst he
  exact fun ls H locs hl hP hS => lv_dup2_11 hc.1 hc.2.1 hd hv hw (h ls H locs hl hP hS)
theorem ap_if_eq {x : ap_X} {g : ap_G} {nL pc q : Nat} {cc : ByteArray} {own : String} {lo : List (Nat × Value)} {st : List Value} {M : ap_Mem} {a : Int32} {off : Int} {tgt : Nat} (hc : ap_Cx x g cc own nL) (hd : decode cc pc = .ok (.ifCond .eq off, 3)) (he : pc + 3 = q) (ht : (pc : Int) + off = (tgt : Int)) (kt : a = 0 → ap_V x g nL tgt lo st M) (kf : ¬ a = 0 → ap_V x g nL q lo st M) : ap_V x g nL pc lo (.int a :: st) M := by
  subst he
  exact fun ls H locs hl hP hS => lv_if_eq hc.1 hc.2.1 hd ht (fun z => kt z ls H locs hl hP hS) (fun z => kf (by first | exact z | exact fun w => w z) ls H locs hl hP hS)
theorem ap_icmp_eq {x : ap_X} {g : ap_G} {nL pc q : Nat} {cc : ByteArray} {own : String} {lo : List (Nat × Value)} {st : List Value} {M : ap_Mem} {a b : Int32} {off : Int} {tgt : Nat} (hc : ap_Cx x g cc own nL) (hd : decode cc pc = .ok (.if_icmp .eq off, 3)) (he : pc + 3 = q) (ht : (pc : Int) + off = (tgt : Int)) (kt : a = b → ap_V x g nL tgt lo st M) (kf : ¬ a = b → ap_V x g nL q lo st M) : ap_V x g nL pc lo (.int b :: .int a :: st) M := by
  subst he
  exact fun ls H locs hl hP hS => lv_icmp_eq hc.1 hc.2.1 hd ht (fun z => kt z ls H locs hl hP hS) (fun z => kf (by first | exact z | exact fun w => w z) ls H locs hl hP hS)
theorem ap_if_ne {x : ap_X} {g : ap_G} {nL pc q : Nat} {cc : ByteArray} {own : String} {lo : List (Nat × Value)} {st : List Value} {M : ap_Mem} {a : Int32} {off : Int} {tgt : Nat} (hc : ap_Cx x g cc own nL) (hd : decode cc pc = .ok (.ifCond .ne off, 3)) (he : pc + 3 = q) (ht : (pc : Int) + off = (tgt : Int)) (kt : ¬ a = 0 → ap_V x g nL tgt lo st M) (kf : ¬ (¬ a = 0) → ap_V x g nL q lo st M) : ap_V x g nL pc lo (.int a :: st) M := by
  subst he
  exact fun ls H locs hl hP hS => lv_if_ne hc.1 hc.2.1 hd ht (fun z => kt z ls H locs hl hP hS) (fun z => kf (by first | exact z | exact fun w => w z) ls H locs hl hP hS)
theorem ap_icmp_ne {x : ap_X} {g : ap_G} {nL pc q : Nat} {cc : ByteArray} {own : String} {lo : List (Nat × Value)} {st : List Value} {M : ap_Mem} {a b : Int32} {off : Int} {tgt : Nat} (hc : ap_Cx x g cc own nL) (hd : decode cc pc = .ok (.if_icmp .ne off, 3)) (he : pc + 3 = q) (ht : (pc : Int) + off = (tgt : Int)) (kt : ¬ a = b → ap_V x g nL tgt lo st M) (kf : ¬ (¬ a = b) → ap_V x g nL q lo st M) : ap_V x g nL pc lo (.int b :: .int a :: st) M := by
  subst he
  exact fun ls H locs hl hP hS => lv_icmp_ne hc.1 hc.2.1 hd ht (fun z => kt z ls H locs hl hP hS) (fun z => kf (by first | exact z | exact fun w => w z) ls H locs hl hP hS)
theorem ap_if_lt {x : ap_X} {g : ap_G} {nL pc q : Nat} {cc : ByteArray} {own : String} {lo : List (Nat × Value)} {st : List Value} {M : ap_Mem} {a : Int32} {off : Int} {tgt : Nat} (hc : ap_Cx x g cc own nL) (hd : decode cc pc = .ok (.ifCond .lt off, 3)) (he : pc + 3 = q) (ht : (pc : Int) + off = (tgt : Int)) (kt : a < 0 → ap_V x g nL tgt lo st M) (kf : ¬ a < 0 → ap_V x g nL q lo st M) : ap_V x g nL pc lo (.int a :: st) M := by
  subst he
  exact fun ls H locs hl hP hS => lv_if_lt hc.1 hc.2.1 hd ht (fun z => kt z ls H locs hl hP hS) (fun z => kf (by first | exact z | exact fun w => w z) ls H locs hl hP hS)
theorem ap_icmp_lt {x : ap_X} {g : ap_G} {nL pc q : Nat} {cc : ByteArray} {own : String} {lo : List (Nat × Value)} {st : List Value} {M : ap_Mem} {a b : Int32} {off : Int} {tgt : Nat} (hc : ap_Cx x g cc own nL) (hd : decode cc pc = .ok (.if_icmp .lt off, 3)) (he : pc + 3 = q) (ht : (pc : Int) + off = (tgt : Int)) (kt : a < b → ap_V x g nL tgt lo st M) (kf : ¬ a < b → ap_V x g nL q lo st M) : ap_V x g nL pc lo (.int b :: .int a :: st) M := by
  subst he
  exact fun ls H locs hl hP hS => lv_icmp_lt hc.1 hc.2.1 hd ht (fun z => kt z ls H locs hl hP hS) (fun z => kf (by first | exact z | exact fun w => w z) ls H locs hl hP hS)
theorem ap_if_ge {x : ap_X} {g : ap_G} {nL pc q : Nat} {cc : ByteArray} {own : String} {lo : List (Nat × Value)} {st : List Value} {M : ap_Mem} {a : Int32} {off : Int} {tgt : Nat} (hc : ap_Cx x g cc own nL) (hd : decode cc pc = .ok (.ifCond .ge off, 3)) (he : pc + 3 = q) (ht : (pc : Int) + off = (tgt : Int)) (kt : 0 ≤ a → ap_V x g nL tgt lo st M) (kf : ¬ 0 ≤ a → ap_V x g nL q lo st M) : ap_V x g nL pc lo (.int a :: st) M := by
  subst he
  exact fun ls H locs hl hP hS => lv_if_ge hc.1 hc.2.1 hd ht (fun z => kt z ls H locs hl hP hS) (fun z => kf (by first | exact z | exact fun w => w z) ls H locs hl hP hS)
theorem ap_icmp_ge {x : ap_X} {g : ap_G} {nL pc q : Nat} {cc : ByteArray} {own : String} {lo : List (Nat × Value)} {st : List Value} {M : ap_Mem} {a b : Int32} {off : Int} {tgt : Nat} (hc : ap_Cx x g cc own nL) (hd : decode cc pc = .ok (.if_icmp .ge off, 3)) (he : pc + 3 = q) (ht : (pc : Int) + off = (tgt : Int)) (kt : b ≤ a → ap_V x g nL tgt lo st M) (kf : ¬ b ≤ a → ap_V x g nL q lo st M) : ap_V x g nL pc lo (.int b :: .int a :: st) M := by
  subst he
  exact fun ls H locs hl hP hS => lv_icmp_ge hc.1 hc.2.1 hd ht (fun z => kt z ls H locs hl hP hS) (fun z => kf (by first | exact z | exact fun w => w z) ls H locs hl hP hS)
theorem ap_if_gt {x : ap_X} {g : ap_G} {nL pc q : Nat} {cc : ByteArray} {own : String} {lo : List (Nat × Value)} {st : List Value} {M : ap_Mem} {a : Int32} {off : Int} {tgt : Nat} (hc : ap_Cx x g cc own nL) (hd : decode cc pc = .ok (.ifCond .gt off, 3)) (he : pc + 3 = q) (ht : (pc : Int) + off = (tgt : Int)) (kt : 0 < a → ap_V x g nL tgt lo st M) (kf : ¬ 0 < a → ap_V x g nL q lo st M) : ap_V x g nL pc lo (.int a :: st) M := by
  subst he
  exact fun ls H locs hl hP hS => lv_if_gt hc.1 hc.2.1 hd ht (fun z => kt z ls H locs hl hP hS) (fun z => kf (by first | exact z | exact fun w => w z) ls H locs hl hP hS)
theorem ap_icmp_gt {x : ap_X} {g : ap_G} {nL pc q : Nat} {cc : ByteArray} {own : String} {lo : List (Nat × Value)} {st : List Value} {M : ap_Mem} {a b : Int32} {off : Int} {tgt : Nat} (hc : ap_Cx x g cc own nL) (hd : decode cc pc = .ok (.if_icmp .gt off, 3)) (he : pc + 3 = q) (ht : (pc : Int) + off = (tgt : Int)) (kt : b < a → ap_V x g nL tgt lo st M) (kf : ¬ b < a → ap_V x g nL q lo st M) : ap_V x g nL pc lo (.int b :: .int a :: st) M := by
  subst he
  exact fun ls H locs hl hP hS => lv_icmp_gt hc.1 hc.2.1 hd ht (fun z => kt z ls H locs hl hP hS) (fun z => kf (by first | exact z | exact fun w => w z) ls H locs hl hP hS)
theorem ap_if_le {x : ap_X} {g : ap_G} {nL pc q : Nat} {cc : ByteArray} {own : String} {lo : List (Nat × Value)} {st : List Value} {M : ap_Mem} {a : Int32} {off : Int} {tgt : Nat} (hc : ap_Cx x g cc own nL) (hd : decode cc pc = .ok (.ifCond .le off, 3)) (he : pc + 3 = q) (ht : (pc : Int) + off = (tgt : Int)) (kt : a ≤ 0 → ap_V x g nL tgt lo st M) (kf : ¬ a ≤ 0 → ap_V x g nL q lo st M) : ap_V x g nL pc lo (.int a :: st) M := by
  subst he
  exact fun ls H locs hl hP hS => lv_if_le hc.1 hc.2.1 hd ht (fun z => kt z ls H locs hl hP hS) (fun z => kf (by first | exact z | exact fun w => w z) ls H locs hl hP hS)
theorem ap_icmp_le {x : ap_X} {g : ap_G} {nL pc q : Nat} {cc : ByteArray} {own : String} {lo : List (Nat × Value)} {st : List Value} {M : ap_Mem} {a b : Int32} {off : Int} {tgt : Nat} (hc : ap_Cx x g cc own nL) (hd : decode cc pc = .ok (.if_icmp .le off, 3)) (he : pc + 3 = q) (ht : (pc : Int) + off = (tgt : Int)) (kt : a ≤ b → ap_V x g nL tgt lo st M) (kf : ¬ a ≤ b → ap_V x g nL q lo st M) : ap_V x g nL pc lo (.int b :: .int a :: st) M := by
  subst he
  exact fun ls H locs hl hP hS => lv_icmp_le hc.1 hc.2.1 hd ht (fun z => kt z ls H locs hl hP hS) (fun z => kf (by first | exact z | exact fun w => w z) ls H locs hl hP hS)
theorem ap_goto {x : ap_X} {g : ap_G} {nL pc q : Nat} {cc : ByteArray} {own : String} {lo : List (Nat × Value)} {st : List Value} {M : ap_Mem} {off : Int} (hc : ap_Cx x g cc own nL) (hd : decode cc pc = .ok (.goto off, 3)) (ht : (pc : Int) + off = (q : Int)) (h : ap_V x g nL q lo st M) : ap_V x g nL pc lo st M :=
  fun ls H locs hl hP hS => lv_goto hc.1 hc.2.1 hd ht (h ls H locs hl hP hS)
theorem ap_tabIn {x : ap_X} {g : ap_G} {nL pc q : Nat} {cc : ByteArray} {own : String} {lo : List (Nat × Value)} {st : List Value} {M : ap_Mem} {dflt l0 h0 : Int} {offs : Array Int} {len tgt : Nat} {a v : Int32} {off : Int} (hc : ap_Cx x g cc own nL) (hd : decode cc pc = .ok (.tableswitch dflt l0 h0 offs, len)) (hv : a = v) (h1 : ¬ v.toInt < l0) (h2 : ¬ h0 < v.toInt) (ho : offs[(v.toInt - l0).toNat]? = some off) (ht : (pc : Int) + off = (tgt : Int)) (h : ap_V x g nL tgt lo st M) : ap_V x g nL pc lo (.int a :: st) M := by
  subst hv
  exact fun ls H locs hl hP hS => lv_tableIn hc.1 hc.2.1 hd h1 h2 ho ht (h ls H locs hl hP hS)
theorem ap_tabOut {x : ap_X} {g : ap_G} {nL pc q : Nat} {cc : ByteArray} {own : String} {lo : List (Nat × Value)} {st : List Value} {M : ap_Mem} {dflt l0 h0 : Int} {offs : Array Int} {len tgt : Nat} {a : Int32} (hc : ap_Cx x g cc own nL) (hd : decode cc pc = .ok (.tableswitch dflt l0 h0 offs, len)) (ho : a.toInt < l0 ∨ h0 < a.toInt) (ht : (pc : Int) + dflt = (tgt : Int)) (h : ap_V x g nL tgt lo st M) : ap_V x g nL pc lo (.int a :: st) M :=
  fun ls H locs hl hP hS => lv_tableOut hc.1 hc.2.1 hd ho ht (h ls H locs hl hP hS)
theorem ap_tabNo {a : Int32} {l0 h0 : Int} (n : Nat) (hn : h0 - l0 < n) (hl : -2147483648 ≤ l0) (hh : h0 < 2147483648) (h : ∀ j : Nat, j < n → l0 + j ≤ h0 → ¬ a = Int32.ofInt (l0 + j)) : a.toInt < l0 ∨ h0 < a.toInt := by
  by_cases h1 : a.toInt < l0
  · exact Or.inl h1
  by_cases h2 : h0 < a.toInt
  · exact Or.inr h2
  refine absurd ?_ (h (a.toInt - l0).toNat (by omega) (by omega))
  rw [show l0 + ((a.toInt - l0).toNat : Int) = a.toInt by omega]
  exact (Int32.ofInt_toInt a).symm
theorem ap_look {x : ap_X} {g : ap_G} {nL pc q : Nat} {cc : ByteArray} {own : String} {lo : List (Nat × Value)} {st : List Value} {M : ap_Mem} {dflt : Int} {ps : Array (Int × Int)} {len tgt : Nat} {a : Int32} {off : Int} (hc : ap_Cx x g cc own nL) (hd : decode cc pc = .ok (.lookupswitch dflt ps, len)) (hp : (ps.toList.zip (ps.toList.drop 1)).all (fun (a, next) => a.1 < next.1) = true) (ho : Op.lookupswitch.offset ps.toList dflt a.toInt = off) (ht : (pc : Int) + off = (tgt : Int)) (h : ap_V x g nL tgt lo st M) : ap_V x g nL pc lo (.int a :: st) M :=
  fun ls H locs hl hP hS => lv_lookup hc.1 hc.2.1 hd hp ho ht (h ls H locs hl hP hS)
theorem ap_sub {x : ap_X} {g : ap_G} {nL pc : Nat} {lo : List (Nat × Value)} {st : List Value} {M : ap_Mem} {lo2 : List (Nat × Value)} (ks : List Nat) (hk : lv_pick lo ks = lo2) (h : ap_V x g nL pc lo2 st M) : ap_V x g nL pc lo st M :=
  fun ls H locs hl hP hS => h ls H locs (lv_sub hl ks hk) hP hS
/-! fields -/
def ap_LG (own : String) (i ci k o : Nat) : Prop := ∃ (C : String) (T : u_T) (N : Nat), ap_classes[ci]? = some (C, T, N) ∧ (∀ w ∈ u_ws C T N, w ∈ ap_TW) ∧ k < N ∧ N = ap_nf ci ∧ ci < 20 ∧ Cond.fieldLink own i (T k).1 (T k).2.1 (T k).2.2.1 ∈ ap_TW ∧ ap_fo ci k = o
def ap_LP (own : String) (i ci k : Nat) (ty : FieldType) : Prop := ∃ (C : String) (T : u_T) (N : Nat) (ty0 : Nat → FieldType), ap_classes[ci]? = some (C, T, N) ∧ (∀ w ∈ u_ws C T N, w ∈ ap_TW) ∧ k < N ∧ N = ap_nf ci ∧ ci < 20 ∧ Cond.fieldLink own i (T k).1 (T k).2.1 (T k).2.2.1 ∈ ap_TW ∧ ap_fo ci k = 0 ∧ (∀ k, k < N → parseFieldDescriptor (T k).2.2.1 = some (ty0 k)) ∧ (∀ a, a < N → ∀ b, b < N → a ≠ b → (T a).2.1 ≠ (T b).2.1) ∧ (T k).2.2.2 = false ∧ parseFieldDescriptor (T k).2.2.1 = some ty
theorem ap_get {x : ap_X} {g : ap_G} {nL pc q : Nat} {cc : ByteArray} {own : String} {lo : List (Nat × Value)} {st : List Value} {M : ap_Mem} {i ci k o a r : Nat} (hL : ap_LG own i ci k o) (hq : ap_kd a = ci) (hc : ap_Cx x g cc own nL) (hd : decode cc pc = .ok (.getfield i, 3)) (he : pc + 3 = q) (h : ap_V x g nL q lo (ap_fv g M a ci k :: st) M) : ap_V x g nL pc lo (.ref (ap_ad g a) :: st) M := by
  subst he
  obtain ⟨C, T, N, h1, h2, h3, h4, h5, h6, h7⟩ := hL
  intro ls H locs hl hP hS
  exact va_get hc.1 hc.2.1 hc.2.2.2.2.1 h2 hc.2.2.2.1 hc.2.2.2.2.2.2.1.1 hP a (by rw [ap_ws_at (ap_lt hq (by omega)), ap_cell_o hq h5]) h1 k h3 (hc.2.2.2.2.1 _ h6) (fun _ z => z) (ap_flds_at (by rw [← h4]; exact h3)) hd (h ls H locs hl hP hS)
theorem ap_getI {x : ap_X} {g : ap_G} {nL pc q : Nat} {cc : ByteArray} {own : String} {lo : List (Nat × Value)} {st : List Value} {M : ap_Mem} {i ci k a : Nat} (hL : ap_LG own i ci k 0) (hq : ap_kd a = ci) (hc : ap_Cx x g cc own nL) (hd : decode cc pc = .ok (.getfield i, 3)) (he : pc + 3 = q) (h : ap_V x g nL q lo (.int (M a k) :: st) M) : ap_V x g nL pc lo (.ref (ap_ad g a) :: st) M := by
  refine ap_get (r := 0) hL hq hc hd he ?_
  unfold ap_fv
  rw [if_pos hL.choose_spec.choose_spec.choose_spec.2.2.2.2.2.2]
  exact h
theorem ap_getR {x : ap_X} {g : ap_G} {nL pc q : Nat} {cc : ByteArray} {own : String} {lo : List (Nat × Value)} {st : List Value} {M : ap_Mem} {i ci k o a r : Nat} (hL : ap_LG own i ci k o) (ho : ¬ o = 0) (hq : ap_kd a = ci) (hr : a + o = r) (hc : ap_Cx x g cc own nL) (hd : decode cc pc = .ok (.getfield i, 3)) (he : pc + 3 = q) (h : ap_V x g nL q lo (.ref (ap_ad g r) :: st) M) : ap_V x g nL pc lo (.ref (ap_ad g a) :: st) M := by
  refine ap_get (r := 0) hL hq hc hd he ?_
  have h1 := hL.choose_spec.choose_spec.choose_spec.2.2.2.2.2.2
  unfold ap_fv
  rw [h1, if_neg ho, hr]
  exact h
theorem ap_put {x : ap_X} {g : ap_G} {nL pc q : Nat} {cc : ByteArray} {own : String} {lo : List (Nat × Value)} {st : List Value} {M : ap_Mem} {i ci k a : Nat} {ty : FieldType} {v : Int32} {M2 : ap_Mem} (hL : ap_LP own i ci k ty) (hq : ap_kd a = ci) (hM : M2 = ap_mu M a k v) (hn : narrow ty (.int v) = .int v) (hf : fits ty (.int v) = true) (hc : ap_Cx x g cc own nL) (hd : decode cc pc = .ok (.putfield i, 3)) (he : pc + 3 = q) (h : ap_V x g nL q lo st M2) : ap_V x g nL pc lo (.int v :: .ref (ap_ad g a) :: st) M := by
  subst he; subst hM
  obtain ⟨C, T, N, ty0, h1, h2, h3, h4, h5, h6, h7, h8, h9, h10, h11⟩ := hL
  intro ls H locs hl hP hS
  refine va_put hc.1 hc.2.1 hc.2.2.2.2.1 h2 ty0 h8 h9 hc.2.2.2.1 hc.2.2.2.2.2.2.1.1 hP (ap_ws_D hc.2.2.2.2.2.2.2.1) hS a (by rw [ap_ws_at (ap_lt hq (by omega)), ap_cell_o hq h5]) h1 k h3 (hc.2.2.2.2.1 _ h6) (fun _ z => z) h10 h11 hn hf (by rw [List.length_map, List.length_range, ← h4]; exact h3) hd (fun H1 locs1 hP1 _ hS1 => ?_)
  rw [ap_set_o hq h5 h7] at hP1
  exact h ls H1 locs1 hl hP1 hS1
theorem ap_putI {x : ap_X} {g : ap_G} {nL pc q : Nat} {cc : ByteArray} {own : String} {lo : List (Nat × Value)} {st : List Value} {M : ap_Mem} {i ci k a : Nat} {v : Int32} {M2 : ap_Mem} (hL : ap_LP own i ci k .int) (hq : ap_kd a = ci) (hM : M2 = ap_mu M a k v) (hc : ap_Cx x g cc own nL) (hd : decode cc pc = .ok (.putfield i, 3)) (he : pc + 3 = q) (h : ap_V x g nL q lo st M2) : ap_V x g nL pc lo (.int v :: .ref (ap_ad g a) :: st) M :=
  ap_put hL hq hM rfl rfl hc hd he h
/-- a number that is a boolean -/
def ap_B (v : Int32) : Prop := v = 0 ∨ v = 1
theorem ap_B0 : ap_B 0 := Or.inl rfl
theorem ap_B1 : ap_B 1 := Or.inr rfl
theorem ap_Bn {v : Int32} (h : ap_B v) : narrow .boolean (.int v) = .int v := by rcases h with rfl | rfl <;> decide +kernel
theorem ap_Bf {v : Int32} (h : ap_B v) : fits .boolean (.int v) = true := by rcases h with rfl | rfl <;> decide +kernel
theorem ap_Bv {v : Int32} (h : ap_B v) : vp_nar .boolean v = v := by rcases h with rfl | rfl <;> decide +kernel
theorem ap_putZ {x : ap_X} {g : ap_G} {nL pc q : Nat} {cc : ByteArray} {own : String} {lo : List (Nat × Value)} {st : List Value} {M : ap_Mem} {i ci k a : Nat} {v : Int32} {M2 : ap_Mem} (hL : ap_LP own i ci k .boolean) (hq : ap_kd a = ci) (hb : ap_B v) (hM : M2 = ap_mu M a k v) (hc : ap_Cx x g cc own nL) (hd : decode cc pc = .ok (.putfield i, 3)) (he : pc + 3 = q) (h : ap_V x g nL q lo st M2) : ap_V x g nL pc lo (.int v :: .ref (ap_ad g a) :: st) M :=
  ap_put hL hq hM (ap_Bn hb) (ap_Bf hb) hc hd he h
/-! rows -/
theorem ap_iald {x : ap_X} {g : ap_G} {nL pc q : Nat} {cc : ByteArray} {own : String} {lo : List (Nat × Value)} {st : List Value} {M : ap_Mem} {a n : Nat} {i : Int32} (hq : ap_kd a = 20) (hn : ap_ln a = n) (hi : vp_in i n) (hc : ap_Cx x g cc own nL) (hd : decode cc pc = .ok (.iaload, 1)) (he : pc + 1 = q) (h : ap_V x g nL q lo (.int (M a i.toNatClampNeg) :: st) M) : ap_V x g nL pc lo (.int i :: .ref (ap_ad g a) :: st) M := by
  subst he; subst hn
  exact fun ls H locs hl hP hS => va_iald hc.1 hc.2.1 hc.2.2.2.2.2.2.1.1 hP a 0 (by rw [ap_ws_at (ap_lt hq (by decide)), ap_cell_i hq]) rfl hi hd (h ls H locs hl hP hS)
theorem ap_zald {x : ap_X} {g : ap_G} {nL pc q : Nat} {cc : ByteArray} {own : String} {lo : List (Nat × Value)} {st : List Value} {M : ap_Mem} {a n : Nat} {i : Int32} (hq : ap_kd a = 21) (hn : ap_ln a = n) (hi : vp_in i n) (hc : ap_Cx x g cc own nL) (hd : decode cc pc = .ok (.baload, 1)) (he : pc + 1 = q) (h : ap_V x g nL q lo (.int (M a i.toNatClampNeg) :: st) M) : ap_V x g nL pc lo (.int i :: .ref (ap_ad g a) :: st) M := by
  subst he; subst hn
  exact fun ls H locs hl hP hS => va_zald hc.1 hc.2.1 hc.2.2.2.2.2.2.1.1 hP a 1 (by rw [ap_ws_at (ap_lt hq (by decide)), ap_cell_z hq]) rfl hi hd (h ls H locs hl hP hS)
theorem ap_iast {x : ap_X} {g : ap_G} {nL pc q : Nat} {cc : ByteArray} {own : String} {lo : List (Nat × Value)} {st : List Value} {M : ap_Mem} {a n : Nat} {i v : Int32} {M2 : ap_Mem} (hq : ap_kd a = 20) (hn : ap_ln a = n) (hi : vp_in i n) (hM : M2 = ap_mu M a i.toNatClampNeg v) (hc : ap_Cx x g cc own nL) (hd : decode cc pc = .ok (.iastore, 1)) (he : pc + 1 = q) (h : ap_V x g nL q lo st M2) : ap_V x g nL pc lo (.int v :: .int i :: .ref (ap_ad g a) :: st) M := by
  subst he; subst hn; subst hM
  refine fun ls H locs hl hP hS => va_iast hc.1 hc.2.1 hc.2.2.2.2.2.2.1.1 hP (ap_ws_D hc.2.2.2.2.2.2.2.1) hS a 0 (by rw [ap_ws_at (ap_lt hq (by decide)), ap_cell_i hq]) rfl hi hd (fun H1 locs1 hP1 _ hS1 => ?_)
  rw [ap_set_i hq] at hP1
  exact h ls H1 locs1 hl hP1 hS1
theorem ap_zast {x : ap_X} {g : ap_G} {nL pc q : Nat} {cc : ByteArray} {own : String} {lo : List (Nat × Value)} {st : List Value} {M : ap_Mem} {a n : Nat} {i v : Int32} {M2 : ap_Mem} (hq : ap_kd a = 21) (hn : ap_ln a = n) (hi : vp_in i n) (hb : ap_B v) (hM : M2 = ap_mu M a i.toNatClampNeg v) (hc : ap_Cx x g cc own nL) (hd : decode cc pc = .ok (.bastore, 1)) (he : pc + 1 = q) (h : ap_V x g nL q lo st M2) : ap_V x g nL pc lo (.int v :: .int i :: .ref (ap_ad g a) :: st) M := by
  subst he; subst hn; subst hM
  refine fun ls H locs hl hP hS => va_zast hc.1 hc.2.1 hc.2.2.2.2.2.2.1.1 hP (ap_ws_D hc.2.2.2.2.2.2.2.1) hS a 1 (by rw [ap_ws_at (ap_lt hq (by decide)), ap_cell_z hq]) rfl hi hd (fun H1 locs1 hP1 _ hS1 => ?_)
  rw [ap_Bv hb, ap_set_z hq] at hP1
  exact h ls H1 locs1 hl hP1 hS1
theorem ap_alen {x : ap_X} {g : ap_G} {nL pc q : Nat} {cc : ByteArray} {own : String} {lo : List (Nat × Value)} {st : List Value} {M : ap_Mem} {a n : Nat} (hq : ap_kd a = 20) (hn : ap_ln a = n) (hc : ap_Cx x g cc own nL) (hd : decode cc pc = .ok (.arraylength, 1)) (he : pc + 1 = q) (h : ap_V x g nL q lo (.int (nI n) :: st) M) : ap_V x g nL pc lo (.ref (ap_ad g a) :: st) M := by
  subst he; subst hn
  exact fun ls H locs hl hP hS => va_alen (v := nI (ap_ln a)) hc.1 hc.2.1 hc.2.2.2.2.2.2.1.1 hP a 0 (by rw [ap_ws_at (ap_lt hq (by decide)), ap_cell_i hq]) rfl rfl hd (h ls H locs hl hP hS)
/-! tables and texts -/
theorem ap_kald {x : ap_X} {g : ap_G} {nL pc q : Nat} {cc : ByteArray} {own : String} {lo : List (Nat × Value)} {st : List Value} {M : ap_Mem} {j n : Nat} {i : Int32} (hj : j < 3) (hn : ap_kN j = n) (hi : vp_in i n) (hc : ap_Cx x g cc own nL) (hd : decode cc pc = .ok (.iaload, 1)) (he : pc + 1 = q) (h : ap_V x g nL q lo (.int (ap_kT j i.toNatClampNeg) :: st) M) : ap_V x g nL pc lo (.int i :: .ref (ap_gT g j) :: st) M := by
  subst he; subst hn
  obtain ⟨-, -, -, -, -, ⟨-, t0⟩, ⟨-, t1⟩, ⟨-, t2⟩, -⟩ := hc.2.2.2.2.2.2.1
  intro ls H locs hl hP hS
  rcases (by omega : j = 0 ∨ j = 1 ∨ j = 2) with rfl | rfl | rfl
  · exact va_ti hc.1 hc.2.1 t0 hS hi rfl hd (h ls H locs hl hP hS)
  · exact va_ti hc.1 hc.2.1 t1 hS hi rfl hd (h ls H locs hl hP hS)
  · exact va_ti hc.1 hc.2.1 t2 hS hi rfl hd (h ls H locs hl hP hS)
theorem ap_klen {x : ap_X} {g : ap_G} {nL pc q : Nat} {cc : ByteArray} {own : String} {lo : List (Nat × Value)} {st : List Value} {M : ap_Mem} {j n : Nat} (hj : j < 3) (hn : ap_kN j = n) (hc : ap_Cx x g cc own nL) (hd : decode cc pc = .ok (.arraylength, 1)) (he : pc + 1 = q) (h : ap_V x g nL q lo (.int (nI n) :: st) M) : ap_V x g nL pc lo (.ref (ap_gT g j) :: st) M := by
  subst he; subst hn
  obtain ⟨-, -, -, -, -, ⟨-, t0⟩, ⟨-, t1⟩, ⟨-, t2⟩, -⟩ := hc.2.2.2.2.2.2.1
  intro ls H locs hl hP hS
  rcases (by omega : j = 0 ∨ j = 1 ∨ j = 2) with rfl | rfl | rfl
  · exact va_tlen hc.1 hc.2.1 t0 hS rfl hd (h ls H locs hl hP hS)
  · exact va_tlen hc.1 hc.2.1 t1 hS rfl hd (h ls H locs hl hP hS)
  · exact va_tlen hc.1 hc.2.1 t2 hS rfl hd (h ls H locs hl hP hS)
theorem ap_gets0 {x : ap_X} {g : ap_G} {nL pc q : Nat} {cc : ByteArray} {own : String} {lo : List (Nat × Value)} {st : List Value} {M : ap_Mem} {i : Nat} (hw : Cond.fieldLink own i RX8 "ABOVE" "[I" ∈ ap_TW) (hc : ap_Cx x g cc own nL) (hd : decode cc pc = .ok (.getstatic i, 3)) (he : pc + 3 = q) (h : ap_V x g nL q lo (.ref (ap_gT g 0) :: st) M) : ap_V x g nL pc lo st M := by
  subst he
  obtain ⟨-, -, -, -, -, ⟨t0, -⟩, ⟨t1, -⟩, ⟨t2, -⟩, -⟩ := hc.2.2.2.2.2.2.1
  exact fun ls H locs hl hP hS => va_gets hc.1 hc.2.1 t0 hS hc.2.2.2.1 (hc.2.2.2.2.1 _ hw) (fun _ z => z) hd (h ls H locs hl hP hS)
theorem ap_gets0N {x : ap_X} {g : ap_G} {nL pc q : Nat} {cc : ByteArray} {own : String} {lo : List (Nat × Value)} {st : List Value} {M : ap_Mem} (hown : own = RX0) (hc : ap_Cx x g cc own nL) (hd : decode cc pc = .ok (.getstatic 47, 3)) (he : pc + 3 = q) (h : ap_V x g nL q lo (.ref (ap_gT g 0) :: st) M) : ap_V x g nL pc lo st M := by
  subst he; subst hown
  obtain ⟨-, -, -, -, n4, ⟨t0, -⟩, ⟨t1, -⟩, ⟨t2, -⟩, -⟩ := hc.2.2.2.2.2.2.1
  exact fun ls H locs hl hP hS => va_getsN hc.1 hc.2.1 t0 hS hc.2.2.2.1 (va_Nw.use rfl n4) (fun _ z => z) hd (h ls H locs hl hP hS)
theorem ap_gets1 {x : ap_X} {g : ap_G} {nL pc q : Nat} {cc : ByteArray} {own : String} {lo : List (Nat × Value)} {st : List Value} {M : ap_Mem} {i : Nat} (hw : Cond.fieldLink own i RX2 "STRIDES_TO_NEXT" "[I" ∈ ap_TW) (hc : ap_Cx x g cc own nL) (hd : decode cc pc = .ok (.getstatic i, 3)) (he : pc + 3 = q) (h : ap_V x g nL q lo (.ref (ap_gT g 1) :: st) M) : ap_V x g nL pc lo st M := by
  subst he
  obtain ⟨-, -, -, -, -, ⟨t0, -⟩, ⟨t1, -⟩, ⟨t2, -⟩, -⟩ := hc.2.2.2.2.2.2.1
  exact fun ls H locs hl hP hS => va_gets hc.1 hc.2.1 t1 hS hc.2.2.2.1 (hc.2.2.2.2.1 _ hw) (fun _ z => z) hd (h ls H locs hl hP hS)
theorem ap_gets2 {x : ap_X} {g : ap_G} {nL pc q : Nat} {cc : ByteArray} {own : String} {lo : List (Nat × Value)} {st : List Value} {M : ap_Mem} {i : Nat} (hw : Cond.fieldLink own i RX0 "BODIES" "[I" ∈ ap_TW) (hc : ap_Cx x g cc own nL) (hd : decode cc pc = .ok (.getstatic i, 3)) (he : pc + 3 = q) (h : ap_V x g nL q lo (.ref (ap_gT g 2) :: st) M) : ap_V x g nL pc lo st M := by
  subst he
  obtain ⟨-, -, -, -, -, ⟨t0, -⟩, ⟨t1, -⟩, ⟨t2, -⟩, -⟩ := hc.2.2.2.2.2.2.1
  exact fun ls H locs hl hP hS => va_gets hc.1 hc.2.1 t2 hS hc.2.2.2.1 (hc.2.2.2.2.1 _ hw) (fun _ z => z) hd (h ls H locs hl hP hS)
theorem ap_getCS {x : ap_X} {g : ap_G} {nL pc q : Nat} {cc : ByteArray} {own : String} {lo : List (Nat × Value)} {st : List Value} {M : ap_Mem} {i : Nat} (hw : Cond.fieldLink own i RJ0 "COMPACT_STRINGS" "Z" ∈ ap_TW) (hc : ap_Cx x g cc own nL) (hd : decode cc pc = .ok (.getstatic i, 3)) (he : pc + 3 = q) (h : ap_V x g nL q lo (.int 1 :: st) M) : ap_V x g nL pc lo st M := by
  subst he
  obtain ⟨-, -, -, -, -, -, -, -, -, -, t0, -⟩ := hc.2.2.2.2.2.2.1
  exact fun ls H locs hl hP hS => va_gets hc.1 hc.2.1 t0 hS hc.2.2.2.1 (hc.2.2.2.2.1 _ hw) (fun _ z => z) hd (h ls H locs hl hP hS)
theorem ap_getSF {x : ap_X} {g : ap_G} {nL pc q : Nat} {cc : ByteArray} {own : String} {lo : List (Nat × Value)} {st : List Value} {M : ap_Mem} {i : Nat} (hw : Cond.fieldLink own i RJ3 "SIOOBE_FORMATTER" "Ljava/util/function/BiFunction;" ∈ ap_TW) (hc : ap_Cx x g cc own nL) (hd : decode cc pc = .ok (.getstatic i, 3)) (he : pc + 3 = q) (h : ∀ v : Value, v.category = 1 → ap_V x g nL q lo (v :: st) M) : ap_V x g nL pc lo st M := by
  subst he
  obtain ⟨-, -, -, -, -, -, -, -, -, -, -, t0⟩ := hc.2.2.2.2.2.2.1
  intro ls H locs hl hP hS
  rcases t0 with t0 | ⟨t, t0⟩
  · exact va_gets hc.1 hc.2.1 t0 hS hc.2.2.2.1 (hc.2.2.2.2.1 _ hw) (fun _ z => z) hd (h _ rfl ls H locs hl hP hS)
  · exact va_gets hc.1 hc.2.1 t0 hS hc.2.2.2.1 (hc.2.2.2.2.1 _ hw) (fun _ z => z) hd (h _ rfl ls H locs hl hP hS)
theorem ap_ldcS {x : ap_X} {g : ap_G} {nL pc q : Nat} {cc : ByteArray} {own : String} {lo : List (Nat × Value)} {st : List Value} {M : ap_Mem} {i w : Nat} {tx : String} (hw : (own, i, tx, w) ∈ ap_sref) (hc : ap_Cx x g cc own nL) (hd : decode cc pc = .ok (.ldc i, 2)) (he : pc + 2 = q) (h : ap_V x g nL q lo (.ref (ap_gK g w) :: st) M) : ap_V x g nL pc lo st M := by
  subst he
  obtain ⟨-, -, -, -, -, -, -, -, t0, -⟩ := hc.2.2.2.2.2.2.1
  exact fun ls H locs hl hP hS => va_ldcS hc.1 hc.2.1 hc.2.2.2.1 (t0 _ hw) hd (h ls H locs hl hP hS)
theorem ap_sval {x : ap_X} {g : ap_G} {nL pc q : Nat} {cc : ByteArray} {own : String} {lo : List (Nat × Value)} {st : List Value} {M : ap_Mem} {i w : Nat} (hi : w < 6) (hw : Cond.fieldLink own i RJ0 "value" "[B" ∈ ap_TW) (hc : ap_Cx x g cc own nL) (hd : decode cc pc = .ok (.getfield i, 3)) (he : pc + 3 = q) (h : ap_V x g nL q lo (.ref (ap_gV g w) :: st) M) : ap_V x g nL pc lo (.ref (ap_gK g w) :: st) M := by
  subst he
  obtain ⟨-, -, -, -, -, -, -, -, -, t0, -⟩ := hc.2.2.2.2.2.2.1
  exact fun ls H locs hl hP hS => vk_getf hc.1 hc.2.1 (t0.1 w hi).2.2.1 hS hc.2.2.2.1 (hc.2.2.2.2.1 _ hw) (fun _ z => z) hd (h ls H locs hl hP hS)
theorem ap_scod {x : ap_X} {g : ap_G} {nL pc q : Nat} {cc : ByteArray} {own : String} {lo : List (Nat × Value)} {st : List Value} {M : ap_Mem} {i w : Nat} (hi : w < 6) (hw : Cond.fieldLink own i RJ0 "coder" "B" ∈ ap_TW) (hc : ap_Cx x g cc own nL) (hd : decode cc pc = .ok (.getfield i, 3)) (he : pc + 3 = q) (h : ap_V x g nL q lo (.int 0 :: st) M) : ap_V x g nL pc lo (.ref (ap_gK g w) :: st) M := by
  subst he
  obtain ⟨-, -, -, -, -, -, -, -, -, t0, -⟩ := hc.2.2.2.2.2.2.1
  exact fun ls H locs hl hP hS => vk_getf hc.1 hc.2.1 (t0.1 w hi).2.1 hS hc.2.2.2.1 (hc.2.2.2.2.1 _ hw) (fun _ z => z) hd (h ls H locs hl hP hS)
def ap_sL (w : Nat) : Nat := ap_sl.getD w 0
def ap_sB (w j : Nat) : Int32 := (ap_sb.getD w []).getD j 0
theorem ap_blen {x : ap_X} {g : ap_G} {nL pc q : Nat} {cc : ByteArray} {own : String} {lo : List (Nat × Value)} {st : List Value} {M : ap_Mem} {w : Nat} (hi : w < 6) (hc : ap_Cx x g cc own nL) (hd : decode cc pc = .ok (.arraylength, 1)) (he : pc + 1 = q) (h : ap_V x g nL q lo (.int (nI (ap_sL w)) :: st) M) : ap_V x g nL pc lo (.ref (ap_gV g w) :: st) M := by
  subst he
  obtain ⟨-, -, -, -, -, -, -, -, -, t0, -⟩ := hc.2.2.2.2.2.2.1
  exact fun ls H locs hl hP hS => va_tlen hc.1 hc.2.1 (t0.1 w hi).2.2.2 hS rfl hd (h ls H locs hl hP hS)
theorem ap_bald {x : ap_X} {g : ap_G} {nL pc q : Nat} {cc : ByteArray} {own : String} {lo : List (Nat × Value)} {st : List Value} {M : ap_Mem} {w : Nat} {i : Int32} (hw : w < 6) (hi : vp_in i (ap_sL w)) (hc : ap_Cx x g cc own nL) (hd : decode cc pc = .ok (.baload, 1)) (he : pc + 1 = q) (h : ap_V x g nL q lo (.int (ap_sB w i.toNatClampNeg) :: st) M) : ap_V x g nL pc lo (.int i :: .ref (ap_gV g w) :: st) M := by
  subst he
  obtain ⟨-, -, -, -, -, -, -, -, -, t0, -⟩ := hc.2.2.2.2.2.2.1
  exact fun ls H locs hl hP hS => va_tb hc.1 hc.2.1 (t0.1 w hw).2.2.2 hS hi rfl hd (h ls H locs hl hP hS)
/-! members of Math and System -/
def ap_max (a b : Int32) : Int32 := if a < b then b else a
def ap_min (a b : Int32) : Int32 := if b < a then b else a
def ap_abs (a : Int32) : Int32 := if 0 ≤ a then a else 0 - a
def ap_LM (own : String) (i : Nat) (y : MethodName) (cc : ByteArray) (n : Nat) : Prop := Cond.methodLink own i y ∈ ap_TW ∧ Cond.static y ∈ ap_TW ∧ Cond.initialized "java/lang/Math" ∈ ap_TW ∧ Cond.code y cc n (some .int) ∈ ap_TW
def ap_Rm (x : ap_X) (k : Nat) : Prop := k ≤ (xR x).frames ∧ 64 * k ≤ (xR x).locals
theorem ap_RmE {x : ap_X} {g : ap_G} {k n : Nat} {ret : Option FieldType} {Q : Option Value → ap_Mem → Prop} (h : ap_Ends x g n ret Q) (hk : k ≤ n) : ap_Rm x k := by
  unfold ap_Rm
  rw [h.1]
  exact ⟨hk, Nat.mul_le_mul_left 64 hk⟩
theorem ap_mmax {x : ap_X} {g : ap_G} {nL pc q : Nat} {cc : ByteArray} {own : String} {lo : List (Nat × Value)} {st : List Value} {M : ap_Mem} {i : Nat} {a b : Int32} (hL : ap_LM own i Lib.Math.max.name Lib.Math.max.code 2) (hR : ap_Rm x 1) (hw : (st.map fun v => v.category).sum ≤ 8) (hc : ap_Cx x g cc own nL) (hd : decode cc pc = .ok (.invokestatic i, 3)) (he : pc + 3 = q) (h : ap_V x g nL q lo (.int (ap_max a b) :: st) M) : ap_V x g nL pc lo (.int b :: .int a :: st) M := by
  subst he
  exact fun ls H locs hl hP hS => va_mmax hc.1 hc.2.1 (hc.2.2.1.trans hl.1.symm) hc.2.2.2.1 (hc.2.2.2.2.1 _ hL.1) (hc.2.2.2.2.1 _ hL.2.1) (hc.2.2.2.2.1 _ hL.2.2.1) (hc.2.2.2.2.1 _ hL.2.2.2) hR.1 (by have := hR.2; omega) hc.2.2.2.2.2.2.2.2.1 hc.2.2.2.2.2.2.2.2.2 hd (h ls H locs hl hP hS)
theorem ap_mmin {x : ap_X} {g : ap_G} {nL pc q : Nat} {cc : ByteArray} {own : String} {lo : List (Nat × Value)} {st : List Value} {M : ap_Mem} {i : Nat} {a b : Int32} (hL : ap_LM own i Lib.Math.min.name Lib.Math.min.code 2) (hR : ap_Rm x 1) (hw : (st.map fun v => v.category).sum ≤ 8) (hc : ap_Cx x g cc own nL) (hd : decode cc pc = .ok (.invokestatic i, 3)) (he : pc + 3 = q) (h : ap_V x g nL q lo (.int (ap_min a b) :: st) M) : ap_V x g nL pc lo (.int b :: .int a :: st) M := by
  subst he
  exact fun ls H locs hl hP hS => va_mmin hc.1 hc.2.1 (hc.2.2.1.trans hl.1.symm) hc.2.2.2.1 (hc.2.2.2.2.1 _ hL.1) (hc.2.2.2.2.1 _ hL.2.1) (hc.2.2.2.2.1 _ hL.2.2.1) (hc.2.2.2.2.1 _ hL.2.2.2) hR.1 (by have := hR.2; omega) hc.2.2.2.2.2.2.2.2.1 hc.2.2.2.2.2.2.2.2.2 hd (h ls H locs hl hP hS)
theorem ap_mabs {x : ap_X} {g : ap_G} {nL pc q : Nat} {cc : ByteArray} {own : String} {lo : List (Nat × Value)} {st : List Value} {M : ap_Mem} {i : Nat} {a : Int32} (hL : ap_LM own i Lib.Math.abs.name Lib.Math.abs.code 1) (hR : ap_Rm x 1) (hw : (st.map fun v => v.category).sum ≤ 8) (hc : ap_Cx x g cc own nL) (hd : decode cc pc = .ok (.invokestatic i, 3)) (he : pc + 3 = q) (h : ap_V x g nL q lo (.int (ap_abs a) :: st) M) : ap_V x g nL pc lo (.int a :: st) M := by
  subst he
  exact fun ls H locs hl hP hS => va_mabs hc.1 hc.2.1 (hc.2.2.1.trans hl.1.symm) hc.2.2.2.1 (hc.2.2.2.2.1 _ hL.1) (hc.2.2.2.2.1 _ hL.2.1) (hc.2.2.2.2.1 _ hL.2.2.1) (hc.2.2.2.2.1 _ hL.2.2.2) hR.1 (by have := hR.2; omega) hc.2.2.2.2.2.2.2.2.1 hc.2.2.2.2.2.2.2.2.2 hd (h ls H locs hl hP hS)
def ap_LA (own : String) (i : Nat) : Prop := Cond.methodLink own i arraycopyName ∈ ap_TW ∧ Cond.native arraycopyName ∈ ap_TW ∧ Cond.static arraycopyName ∈ ap_TW ∧ Cond.initialized "java/lang/System" ∈ ap_TW
theorem ap_copy {x : ap_X} {g : ap_G} {nL pc q : Nat} {cc : ByteArray} {own : String} {lo : List (Nat × Value)} {st : List Value} {M : ap_Mem} {i a0 a1 n0 n1 n : Nat} {c : Int32} {M2 : ap_Mem} (hL : ap_LA own i) (hR : ap_Rm x 1) (hw : (st.map fun v => v.category).sum ≤ 8) (h0 : ap_kd a0 = 20) (h1 : ap_kd a1 = 20) (hn0 : ap_ln a0 = n0) (hn1 : ap_ln a1 = n1) (hcn : c = nI n) (hn : n < 2147483648) (hle0 : n ≤ n0) (hle1 : n ≤ n1) (hM : M2 = ap_mc M a0 a1 0 0 n) (hc : ap_Cx x g cc own nL) (hd : decode cc pc = .ok (.invokestatic i, 3)) (he : pc + 3 = q) (h : ap_V x g nL q lo st M2) : ap_V x g nL pc lo (.int c :: .int 0 :: .ref (ap_ad g a1) :: .int 0 :: .ref (ap_ad g a0) :: st) M := by
  subst he; subst hM; subst hn0; subst hn1; subst hcn
  have e : (nI n).toNatClampNeg = n := nI_clamp hn
  refine fun ls H locs hl hP hS => va_copyi hc.1 hc.2.1 (hc.2.2.1.trans hl.1.symm) hc.2.2.2.1 (hc.2.2.2.2.1 _ hL.1) (hc.2.2.2.2.1 _ hL.2.1) (hc.2.2.2.2.1 _ hL.2.2.1) (hc.2.2.2.2.1 _ hL.2.2.2) hc.2.2.2.2.2.2.1.1 hP (ap_ws_D hc.2.2.2.2.2.2.2.1) hS a0 a1 0 0 (by rw [ap_ws_at (ap_lt h0 (by decide)), ap_cell_i h0]) (by rw [ap_ws_at (ap_lt h1 (by decide)), ap_cell_i h1]) rfl rfl rfl (by decide) (by decide) (nI_pos hn) (by rw [e]; exact (Nat.zero_add n).symm ▸ hle0) (by rw [e]; exact (Nat.zero_add n).symm ▸ hle1) (fun _ _ => rfl) hR.1 (by have := hR.2; have e9 : nativeFrameWords "java/lang/System" "arraycopy" 5 ≤ 32 := (by decide +kernel); omega) hd (fun H1 locs1 hP1 _ hS1 => ?_)
  rw [e, ap_set_c h1] at hP1
  exact h ls H1 locs1 hl hP1 hS1
/-! ends -/
theorem ap_iret {x : ap_X} {g : ap_G} {nL pc k : Nat} {cc : ByteArray} {own : String} {lo : List (Nat × Value)} {M : ap_Mem} {v : Int32} {ty : FieldType} {K : Int32 → ap_Mem → Prop} (hc : ap_Cx x g cc own nL) (hz : ap_Ends x g k (some ty) (ap_Qi K)) (hn : narrow ty (.int v) = .int v) (hd : decode cc pc = .ok (.ireturn, 1)) (h : K v M) : ap_V x g nL pc lo [.int v] M := by
  intro ls H locs hl hP hS
  unfold ap_Wx
  obtain ⟨z1, z2, z3, z4, z5⟩ := hz
  rw [z4, z2, z3]
  exact W.zret (v := v) hc.1 hc.2.1 z5 hn (fun t ht hW => ⟨⟨_, M, rfl, ⟨v, rfl, h⟩, by rw [ht]; exact hP⟩, hS.F ht⟩) hS.2.2 hd hc.2.2.2.2.2.1
theorem ap_lret {x : ap_X} {g : ap_G} {nL pc k : Nat} {cc : ByteArray} {own : String} {lo : List (Nat × Value)} {M : ap_Mem} {v : Int64} {K : Int64 → ap_Mem → Prop} (hc : ap_Cx x g cc own nL) (hz : ap_Ends x g k (some .long) (ap_Ql K)) (hd : decode cc pc = .ok (.lreturn, 1)) (h : K v M) : ap_V x g nL pc lo [.long v] M := by
  intro ls H locs hl hP hS
  unfold ap_Wx
  obtain ⟨z1, z2, z3, z4, z5⟩ := hz
  rw [z4, z2, z3]
  exact W.lret (v := v) hc.1 hc.2.1 z5 (fun t ht hW => ⟨⟨_, M, rfl, ⟨v, rfl, h⟩, by rw [ht]; exact hP⟩, hS.F ht⟩) hS.2.2 hd hc.2.2.2.2.2.1
theorem ap_vret {x : ap_X} {g : ap_G} {nL pc k : Nat} {cc : ByteArray} {own : String} {lo : List (Nat × Value)} {M : ap_Mem} {K : ap_Mem → Prop} (hc : ap_Cx x g cc own nL) (hz : ap_Ends x g k none (ap_Qv K)) (hd : decode cc pc = .ok (.return_, 1)) (h : K M) : ap_V x g nL pc lo [] M := by
  intro ls H locs hl hP hS
  unfold ap_Wx
  obtain ⟨z1, z2, z3, z4, z5⟩ := hz
  rw [z4, z2, z3]
  exact W.vret hc.1 hc.2.1 z5 (fun t ht hW => ⟨⟨_, M, rfl, ⟨rfl, h⟩, by rw [ht]; exact hP⟩, hS.F ht⟩) hS.2.2 hd hc.2.2.2.2.2.1
/-! calls -/
def ap_LK (y : MethodName) (cc : ByteArray) (maxL : Nat) (ret : Option FieldType) (n : Nat) : Prop := (Cond.code y cc maxL ret ∈ ap_TW ∧ Cond.initialized y.cls ∈ ap_TW ∧ maxL ≤ 45) ∧ (y.cls ≠ "java/lang/invoke/MethodHandle" ∧ y.cls ≠ "java/lang/invoke/VarHandle" ∧ (parseMethodDescriptor y.desc).map (fun d => d.parameters.length) = some n)
def ap_LV (y : MethodName) : Prop := Cond.instanceMethod y ∈ ap_TW ∧ Cond.selects y.cls y y ∈ ap_TW
theorem ap_good {w : Cond} (h : w ∈ ap_TW) : w ∈ ap_TW ∧ ((w.onTables && w.keeps) = true ∨ ∃ ty, w = .arrayClass ty) := ⟨h, good_of_word (List.mem_filter.mp h).2⟩
theorem ap_goodK {y : MethodName} {cc : ByteArray} {maxL n : Nat} {ret : Option FieldType} (h : ap_LK y cc maxL ret n) : GoodIn ap_TW (.code y cc maxL ret :: ap_TW) := by
  intro w hw
  rcases List.mem_cons.mp hw with rfl | hw
  · exact ap_good h.1.1
  · exact ap_good hw
theorem ap_runs {x : ap_X} {g : ap_G} {nL pc q : Nat} {lo : List (Nat × Value)} {st : List Value} {M : ap_Mem} {av : List Value} {st0 : List Value} {Q : Option Value → ap_Mem → Prop}
    (hrun : ∀ (ls : Array Slot) (H : Heap) (locs : List Loc), lv_has ls nL lo → va_P (ap_gD g) ap_classes (ap_ws g M) H → va_S (ap_gA g) (xS x).heap H locs → va_Run (xP x) (xL x) (xE x) (xR x) (xS x) (xM x) (xA x) (xB x) (xT x) (xC x) H locs (xc x) (xs x) 0 0 (F0 (xM x) pc ls st0) st (ap_Qc g Q av.toArray) (ap_gA g))
    (he : pc + 3 = q) (h : ∀ (r : Option Value) (M2 : ap_Mem), Q r M2 → ap_V x g nL q lo (r.toList ++ st) M2) : ap_V x g nL pc lo st0 M := by
  subst he
  intro ls H locs hl hP hS T hT X
  obtain ⟨v, st₀, t, T', L, h0, X', hL, e1, e2, ⟨⟨r, M2, hv, hq, hP2⟩, hz, hk⟩, stp⟩ := hrun ls H locs hl hP hS T hT X
  cases hv
  rw [h0] at hz hk
  obtain ⟨t2, a1, b1⟩ := h v M2 hq ls T'.heap (locs ++ L) hl (by rw [e1]; exact hP2) ⟨Nat.le_trans hS.1 (by rw [e1]; exact hz), fun q h1 h2 => by rw [e1, hk q (Nat.lt_of_lt_of_le h1 hS.1) h2]; exact hS.2.1 q h1 h2, fun q hq => by
    rcases List.mem_append.mp hq with h | h
    · exact hS.2.2 q h
    · exact hL q h⟩ T' rfl X'
  exact ⟨t2, stp t2 a1, b1⟩
theorem ap_PreS {x : ap_X} {g : ap_G} {cc : ByteArray} {own : String} {nL : Nat} {M : ap_Mem} {H : Heap} {locs : List Loc} {av : List Value} (hc : ap_Cx x g cc own nL) (hP : va_P (ap_gD g) ap_classes (ap_ws g M) H) (hS : va_S (ap_gA g) (xS x).heap H locs) : PreS (xS x) H (ap_Pc g M av) av :=
  ⟨ap_blind, fun U hU hW => ⟨rfl, by rw [hU]; exact ap_Env_go hc.2.2.2.2.2.2.1 hW hS, by rw [hU]; exact hP⟩⟩
theorem ap_callV {x : ap_X} {g : ap_G} {nL pc q : Nat} {cc : ByteArray} {own : String} {lo : List (Nat × Value)} {st : List Value} {M : ap_Mem} {i a ci k n maxL : Nat} {y : MethodName} {cy : ByteArray} {ret : Option FieldType} {As : List Value} {st0 : List Value} {Q : Option Value → ap_Mem → Prop} (hc : ap_Cx x g cc own nL) (hM : ap_Ct (xL x) g y cy maxL ret k (.ref (ap_ad g a) :: As) M Q) (hw : Cond.methodLink own i y ∈ ap_TW) (hK : ap_LK y cy maxL ret n) (hV : ap_LV y) (hq : ap_kd a = ci) (hci : (ap_classes[ci]?).map (fun z => z.1) = some y.cls) (hR : ap_Rm x (k + 1)) (hn : As.length = n) (hst : st0 = As.reverse ++ .ref (ap_ad g a) :: st) (hwt : (st.map fun v => v.category).sum ≤ 8) (hd : decode cc pc = .ok (.invokevirtual i, 3)) (he : pc + 3 = q)
    (h : ∀ (r : Option Value) (M2 : ap_Mem), Q r M2 → ap_V x g nL q lo (r.toList ++ st) M2) : ap_V x g nL pc lo st0 M := by
  refine ap_runs (av := .ref (ap_ad g a) :: As) (fun ls H locs hl hP hS => ?_) he h
  obtain ⟨z, hz1, hz2⟩ := Option.map_eq_some_iff.mp hci
  have hci2 : ci < 20 := by
    have h1 := (List.getElem?_eq_some_iff.mp hz1).1
    have h2 : ap_classes.length ≤ 20 := Nat.le_of_ble_eq_true rfl
    omega
  have hS1 := ap_PreS (av := .ref (ap_ad g a) :: As) hc hP hS
  have hrec := va_recv hc.2.2.2.2.2.2.1.1 hP (q0 := a) (ci := ci) hz1 (by rw [ap_ws_at (ap_lt hq (by omega)), ap_cell_o hq hci2])
  rw [hz2] at hrec
  refine va_runV (C := y.cls) ⟨hc.1, hc.2.1, hc.2.2.1, hc.2.2.2.1, hc.2.2.2.2.1⟩ hM ⟨callB_of n hc.2.2.2.2.1 (ap_goodK hK) rfl rfl rfl (hc.2.2.2.2.1 _ hK.1.2.1) (hc.2.2.2.2.1 _ hw) hK.2 ⟨hR.1, ?_⟩, hc.2.2.2.2.1 _ hV.1, hc.2.2.2.2.1 _ hV.2⟩ ⟨hS1.1, hrec, hS1.2⟩ rfl hn hl.1 hst (lv_room hwt) hd ⟨hc.2.2.2.2.2.2.2.2.1, hc.2.2.2.2.2.2.2.2.2⟩
  have h1 := hR.2
  have h2 := hK.1.2.2
  show 8 + (maxL + 11) + 64 * k ≤ _
  omega
theorem ap_callT {x : ap_X} {g : ap_G} {nL pc q : Nat} {cc : ByteArray} {own : String} {lo : List (Nat × Value)} {st : List Value} {M : ap_Mem} {i w k n maxL : Nat} {y : MethodName} {cy : ByteArray} {ret : Option FieldType} {As : List Value} {st0 : List Value} {Q : Option Value → ap_Mem → Prop} (hc : ap_Cx x g cc own nL) (hM : ap_Ct (xL x) g y cy maxL ret k (.ref (ap_gK g w) :: As) M Q) (hw : Cond.methodLink own i y ∈ ap_TW) (hK : ap_LK y cy maxL ret n) (hV : ap_LV y) (hi : w < 6) (hci : y.cls = "java/lang/String") (hR : ap_Rm x (k + 1)) (hn : As.length = n) (hst : st0 = As.reverse ++ .ref (ap_gK g w) :: st) (hwt : (st.map fun v => v.category).sum ≤ 8) (hd : decode cc pc = .ok (.invokevirtual i, 3)) (he : pc + 3 = q)
    (h : ∀ (r : Option Value) (M2 : ap_Mem), Q r M2 → ap_V x g nL q lo (r.toList ++ st) M2) : ap_V x g nL pc lo st0 M := by
  refine ap_runs (av := .ref (ap_gK g w) :: As) (fun ls H locs hl hP hS => ?_) he h
  have hS1 := ap_PreS (av := .ref (ap_gK g w) :: As) hc hP hS
  obtain ⟨-, -, -, -, -, -, -, -, -, t0, -⟩ := hc.2.2.2.2.2.2.1
  have hrec := vk_recv t0 hi hS
  rw [← hci] at hrec
  refine va_runV (C := y.cls) ⟨hc.1, hc.2.1, hc.2.2.1, hc.2.2.2.1, hc.2.2.2.2.1⟩ hM ⟨callB_of n hc.2.2.2.2.1 (ap_goodK hK) rfl rfl rfl (hc.2.2.2.2.1 _ hK.1.2.1) (hc.2.2.2.2.1 _ hw) hK.2 ⟨hR.1, ?_⟩, hc.2.2.2.2.1 _ hV.1, hc.2.2.2.2.1 _ hV.2⟩ ⟨hS1.1, hrec, hS1.2⟩ rfl hn hl.1 hst (lv_room hwt) hd ⟨hc.2.2.2.2.2.2.2.2.1, hc.2.2.2.2.2.2.2.2.2⟩
  have h1 := hR.2
  have h2 := hK.1.2.2
  show 8 + (maxL + 11) + 64 * k ≤ _
  omega
theorem ap_callS {x : ap_X} {g : ap_G} {nL pc q : Nat} {cc : ByteArray} {own : String} {lo : List (Nat × Value)} {st : List Value} {M : ap_Mem} {i k n maxL : Nat} {y : MethodName} {cy : ByteArray} {ret : Option FieldType} {As : List Value} {st0 : List Value} {Q : Option Value → ap_Mem → Prop} (hc : ap_Cx x g cc own nL) (hM : ap_Ct (xL x) g y cy maxL ret k As M Q) (hw : Cond.methodLink own i y ∈ ap_TW) (hK : ap_LK y cy maxL ret n) (hV : Cond.static y ∈ ap_TW) (hR : ap_Rm x (k + 1)) (hn : As.length = n) (hst : st0 = As.reverse ++ st) (hwt : (st.map fun v => v.category).sum ≤ 8) (hd : decode cc pc = .ok (.invokestatic i, 3)) (he : pc + 3 = q)
    (h : ∀ (r : Option Value) (M2 : ap_Mem), Q r M2 → ap_V x g nL q lo (r.toList ++ st) M2) : ap_V x g nL pc lo st0 M := by
  refine ap_runs (av := As) (fun ls H locs hl hP hS => ?_) he h
  have hS1 := ap_PreS (av := As) hc hP hS
  refine va_runS ⟨hc.1, hc.2.1, hc.2.2.1, hc.2.2.2.1, hc.2.2.2.2.1⟩ hM ⟨callB_of n hc.2.2.2.2.1 (ap_goodK hK) rfl rfl rfl (hc.2.2.2.2.1 _ hK.1.2.1) (hc.2.2.2.2.1 _ hw) hK.2 ⟨hR.1, ?_⟩, hc.2.2.2.2.1 _ hV⟩ hS1 rfl hn hl.1 hst (lv_room hwt) hd ⟨hc.2.2.2.2.2.2.2.2.1, hc.2.2.2.2.2.2.2.2.2⟩
  have h1 := hR.2
  have h2 := hK.1.2.2
  show 8 + (maxL + 11) + 64 * k ≤ _
  omega
theorem ap_callSN {x : ap_X} {g : ap_G} {nL pc q : Nat} {cc : ByteArray} {own : String} {lo : List (Nat × Value)} {st : List Value} {M : ap_Mem} {i k n maxL : Nat} {y : MethodName} {cy : ByteArray} {host : String} {ret : Option FieldType} {As : List Value} {st0 : List Value} {Q : Option Value → ap_Mem → Prop} (hc : ap_Cx x g cc own nL) (hM : ap_Ct (xL x) g y cy maxL ret k As M Q) (hw : va_Nw (.methodLinkNest own i y host) (xS x)) (hK : ap_LK y cy maxL ret n) (hV : Cond.static y ∈ ap_TW) (hR : ap_Rm x (k + 1)) (hn : As.length = n) (hst : st0 = As.reverse ++ st) (hwt : (st.map fun v => v.category).sum ≤ 8) (hd : decode cc pc = .ok (.invokestatic i, 3)) (he : pc + 3 = q)
    (h : ∀ (r : Option Value) (M2 : ap_Mem), Q r M2 → ap_V x g nL q lo (r.toList ++ st) M2) : ap_V x g nL pc lo st0 M := by
  refine ap_runs (av := As) (fun ls H locs hl hP hS => ?_) he h
  have hS1 := ap_PreS (av := As) hc hP hS
  refine va_runSN ⟨hc.1, hc.2.1, hc.2.2.1, hc.2.2.2.1, hc.2.2.2.2.1⟩ hM ⟨va_cnB n hc.2.2.2.2.1 (ap_goodK hK) rfl rfl rfl hw (hc.2.2.2.2.1 _ hK.1.2.1) hK.2 ⟨hR.1, ?_⟩, hc.2.2.2.2.1 _ hV, trivial⟩ hS1 rfl hn hl.1 hst (lv_room hwt) hd ⟨hc.2.2.2.2.2.2.2.2.1, hc.2.2.2.2.2.2.2.2.2⟩
  have h1 := hR.2
  have h2 := hK.1.2.2
  show 8 + (maxL + 11) + 64 * k ≤ _
  omega
/-- what comes back of a call -/
theorem ap_ki {x : ap_X} {g : ap_G} {nL q : Nat} {lo : List (Nat × Value)} {st : List Value} {K : Int32 → ap_Mem → Prop} (h : ∀ (v : Int32) (M2 : ap_Mem), K v M2 → ap_V x g nL q lo (.int v :: st) M2) : ∀ (r : Option Value) (M2 : ap_Mem), ap_Qi K r M2 → ap_V x g nL q lo (r.toList ++ st) M2 := by
  rintro r M2 ⟨v, rfl, hk⟩
  exact h v M2 hk
theorem ap_kl {x : ap_X} {g : ap_G} {nL q : Nat} {lo : List (Nat × Value)} {st : List Value} {K : Int64 → ap_Mem → Prop} (h : ∀ (v : Int64) (M2 : ap_Mem), K v M2 → ap_V x g nL q lo (.long v :: st) M2) : ∀ (r : Option Value) (M2 : ap_Mem), ap_Ql K r M2 → ap_V x g nL q lo (r.toList ++ st) M2 := by
  rintro r M2 ⟨v, rfl, hk⟩
  exact h v M2 hk
theorem ap_kv {x : ap_X} {g : ap_G} {nL q : Nat} {lo : List (Nat × Value)} {st : List Value} {K : ap_Mem → Prop} (h : ∀ (M2 : ap_Mem), K M2 → ap_V x g nL q lo st M2) : ∀ (r : Option Value) (M2 : ap_Mem), ap_Qv K r M2 → ap_V x g nL q lo (r.toList ++ st) M2 := by
  rintro r M2 ⟨rfl, hk⟩
  exact h M2 hk
end
